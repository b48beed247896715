def f_S_in (x0 : Int32) (x1 : Int32) (x2 : Int32) : Int32 :=
  if x0 < x1 then ((0 : Int32)) else (if x2 < x0 then ((0 : Int32)) else ((1 : Int32)))
def f_M_isPerson (sa : g_St) (x1 : Int32) : Int32 :=
  (f_S_in x1 (0 : Int32) ((gi sa 0) - (1 : Int32)))
def f_M_isProposal (sa : g_St) (x1 : Int32) : Int32 :=
  (f_S_in x1 (0 : Int32) ((gi sa 5) - (1 : Int32)))
def f_S_isSide (x0 : Int32) : Int32 :=
  (f_S_in x0 (0 : Int32) (1 : Int32))
noncomputable def f_M_worthTo (sa : g_St) (x1 : Int32) (x2 : Int32) : Option (Int32) :=
  gd (vp_in (((6 : Int32) * x1) + x2) 48) (some (gr sa 7 (((6 : Int32) * x1) + x2).toNatClampNeg))
noncomputable def f_M_feed_L30 (fu : Nat) : Nat → g_St → Int64 → Int32 → Int32 → Option (Int32 × g_St)
  | 0, _, _, _, _ => none
  | n + 1, s, v1, v3, v4 => if v3 ≤ v4 then (some ((gi s 16), s)) else (lt ((((g_shrL v1 ((8 : Int32) * v4)) &&& (255 : Int64)).toInt32)) fun y2 => gd (vp_in (gi s 16) 240) (lt (sr s 15 (gi s 16) y2) fun s4 => lt (((gi s4 16) + (1 : Int32))) fun y5 => lt (si s4 16 y5) fun s6 => lt (v4 + (1 : Int32)) fun y7 => f_M_feed_L30 fu n s6 v1 v3 y7))
noncomputable def f_M_feed (fu : Nat) (sa : g_St) (x1 : Int64) (x3 : Int32) : Option (Int32 × g_St) :=
  if (f_S_in x3 (1 : Int32) (8 : Int32)) = 0 then (some (((-1) : Int32), sa)) else (if ((gi sa 16) + x3) ≤ (240 : Int32) then (f_M_feed_L30 fu fu sa x1 x3 (0 : Int32)) else (some (((-2) : Int32), sa)))
noncomputable def f_M_byteAt (sa : g_St) (x1 : Int32) : Option (Int32) :=
  if (gi sa 16) ≤ x1 then (some ((-1) : Int32)) else (gd (vp_in x1 240) (some (gr sa 15 x1.toNatClampNeg)))
def f_S_isLetter (x0 : Int32) : Int32 :=
  (f_S_in x0 (97 : Int32) (122 : Int32))
def f_S_isDigit (x0 : Int32) : Int32 :=
  (f_S_in x0 (48 : Int32) (57 : Int32))
noncomputable def f_M_advance_L207 (fu : Nat) : Nat → g_St → Option (g_St)
  | 0, _ => none
  | n + 1, s => if (gi s 17) = (2 : Int32) then (bd1 (f_M_byteAt s (gi s 19)) fun r34 => if (f_S_isDigit r34) = 0 then (some s) else (if (3 : Int32) ≤ ((gi s 19) - (gi s 18)) then (lt (si s 21 ((-1) : Int32)) fun s38 => lt (((gi s38 19) + (1 : Int32))) fun y39 => lt (si s38 19 y39) fun s40 => f_M_advance_L207 fu n s40) else (bd1 (f_M_byteAt s (gi s 19)) fun r41 => lt (((((10 : Int32) * (gi s 21)) + r41) - (48 : Int32))) fun y44 => lt (si s 21 y44) fun s45 => lt (((gi s45 19) + (1 : Int32))) fun y46 => lt (si s45 19 y46) fun s47 => f_M_advance_L207 fu n s47))) else (some s)
noncomputable def f_M_advance_L126 (fu : Nat) : Nat → g_St → Option (g_St)
  | 0, _ => none
  | n + 1, s => if (gi s 17) = (1 : Int32) then (bd1 (f_M_byteAt s (gi s 19)) fun r20 => if (f_S_isLetter r20) = 0 then (f_M_advance_L207 fu fu s) else (if (8 : Int32) ≤ ((gi s 19) - (gi s 18)) then (lt (sj s 20 ((-1) : Int64)) fun s24 => lt (((gi s24 19) + (1 : Int32))) fun y25 => lt (si s24 19 y25) fun s26 => f_M_advance_L126 fu n s26) else (bd1 (f_M_byteAt s (gi s 19)) fun r27 => lt (((((27 : Int64) * (gj s 20)) + (r27.toInt64)) - (96 : Int64))) fun y30 => lt (sj s 20 y30) fun s31 => lt (((gi s31 19) + (1 : Int32))) fun y32 => lt (si s31 19 y32) fun s33 => f_M_advance_L126 fu n s33))) else (f_M_advance_L207 fu fu s)
noncomputable def f_M_advance_L105 (fu : Nat) (s : g_St) (z0 : Int32) : Option (g_St) :=
  lt (si s 21 z0) fun s17 => if (gi s17 17) = (3 : Int32) then (lt (((gi s17 19) + (1 : Int32))) fun y18 => lt (si s17 19 y18) fun s19 => f_M_advance_L126 fu fu s19) else (f_M_advance_L126 fu fu s17)
noncomputable def f_M_advance_L83 (fu : Nat) (s : g_St) (v1 : Int32) (z0 : Int32) : Option (g_St) :=
  lt (si s 17 z0) fun s15 => lt (sj s15 20 (0 : Int64)) fun s16 => if (gi s16 17) = (2 : Int32) then (f_M_advance_L105 fu s16 (0 : Int32)) else (f_M_advance_L105 fu s16 v1)
noncomputable def f_M_advance_L8 (fu : Nat) : Nat → g_St → Option (g_St)
  | 0, _ => none
  | n + 1, s => bd1 (f_M_byteAt s (gi s 18)) fun r3 => if r3 = (32 : Int32) then (lt (((gi s 18) + (1 : Int32))) fun y13 => lt (si s 18 y13) fun s14 => f_M_advance_L8 fu n s14) else (lt ((gi s 18)) fun y6 => lt (si s 19 y6) fun s7 => bd1 (f_M_byteAt s7 (gi s7 18)) fun r8 => if 0 ≤ r8 then (if (f_S_isLetter r8) = 0 then (if (f_S_isDigit r8) = 0 then (f_M_advance_L83 fu s7 r8 (3 : Int32)) else (f_M_advance_L83 fu s7 r8 (2 : Int32))) else (f_M_advance_L83 fu s7 r8 (1 : Int32))) else (f_M_advance_L83 fu s7 r8 (0 : Int32)))
noncomputable def f_M_advance (fu : Nat) (sa : g_St) : Option (g_St) :=
  lt ((gi sa 19)) fun y1 => lt (si sa 18 y1) fun s2 => f_M_advance_L8 fu fu s2
def f_M_isWord (sa : g_St) (x1 : Int64) : Int32 :=
  if (gi sa 17) = (1 : Int32) then (if (lg_cmp (gj sa 20) x1) = 0 then ((1 : Int32)) else ((0 : Int32))) else ((0 : Int32))
def f_M_isMark (sa : g_St) (x1 : Int32) : Int32 :=
  if (gi sa 17) = (3 : Int32) then (if (gi sa 21) = x1 then ((1 : Int32)) else ((0 : Int32))) else ((0 : Int32))
def f_M_kindHere (sa : g_St) : Int32 :=
  if (f_M_isWord sa (10135440 : Int64)) = 0 then (if (f_M_isWord sa (9454493 : Int64)) = 0 then (if (f_M_isWord sa (1503 : Int64)) = 0 then (if (f_M_isWord sa (453701 : Int64)) = 0 then (if (f_M_isWord sa (174869447 : Int64)) = 0 then (if (f_M_isWord sa (404923 : Int64)) = 0 then (((-1) : Int32)) else ((5 : Int32))) else ((4 : Int32))) else ((3 : Int32))) else ((2 : Int32))) else ((1 : Int32))) else ((0 : Int32))
noncomputable def f_M_wantNumber_L35 (fu : Nat) (s : g_St) (v3 : Int32) (z0 : Int32) : Option (Int32 × g_St) :=
  lt (si s 22 z0) fun s3 => if (gi s3 22) = 0 then (some (v3, s3)) else (bd1 (f_M_advance fu s3) fun s4 => some (v3, s4))
noncomputable def f_M_wantNumber (fu : Nat) (sa : g_St) (x1 : Int32) (x2 : Int32) : Option (Int32 × g_St) :=
  lt ((gi sa 21)) fun y1 => if (gi sa 22) = 0 then (f_M_wantNumber_L35 fu sa y1 (0 : Int32)) else (if (gi sa 17) = (2 : Int32) then (if (f_S_in y1 x1 x2) = 0 then (f_M_wantNumber_L35 fu sa y1 (0 : Int32)) else (f_M_wantNumber_L35 fu sa y1 (1 : Int32))) else (f_M_wantNumber_L35 fu sa y1 (0 : Int32)))
noncomputable def f_M_wantWord_L20 (fu : Nat) (s : g_St) : Option (g_St) :=
  lt (si s 22 (0 : Int32)) fun s6 => if (gi s6 22) = 0 then (some s6) else (bd1 (f_M_advance fu s6) fun s7 => some s7)
noncomputable def f_M_wantWord (fu : Nat) (sa : g_St) (x1 : Int64) : Option (g_St) :=
  if (gi sa 22) = 0 then (f_M_wantWord_L20 fu sa) else (if (f_M_isWord sa x1) = 0 then (f_M_wantWord_L20 fu sa) else (lt (si sa 22 (1 : Int32)) fun s2 => if (gi s2 22) = 0 then (some s2) else (bd1 (f_M_advance fu s2) fun s3 => some s3)))
noncomputable def f_M_mayNumber (fu : Nat) (sa : g_St) (x1 : Int64) (x3 : Int32) (x4 : Int32) : Option (Int32 × g_St) :=
  if (gi sa 22) = 0 then (some (x4, sa)) else (if (f_M_isWord sa x1) = 0 then (some (x4, sa)) else (bd1 (f_M_advance fu sa) fun s2 => bd2 (f_M_wantNumber fu s2 (0 : Int32) x3) fun r5 s6 => some (r5, s6)))
noncomputable def f_M_wantEnd_L21 (fu : Nat) (s : g_St) : Option (g_St) :=
  lt (si s 22 (0 : Int32)) fun s6 => if (gi s6 22) = 0 then (some s6) else (bd1 (f_M_advance fu s6) fun s7 => some s7)
noncomputable def f_M_wantEnd (fu : Nat) (sa : g_St) : Option (g_St) :=
  if (gi sa 22) = 0 then (f_M_wantEnd_L21 fu sa) else (if (f_M_isMark sa (59 : Int32)) = 0 then (f_M_wantEnd_L21 fu sa) else (lt (si sa 22 (1 : Int32)) fun s2 => if (gi s2 22) = 0 then (some s2) else (bd1 (f_M_advance fu s2) fun s3 => some s3)))
noncomputable def f_M_wantPerson_L29 (fu : Nat) (s : g_St) (v1 : Int32) : Option (g_St) :=
  bd1 (f_M_wantWord fu s (923 : Int64)) fun s9 => bd2 (f_M_wantNumber fu s9 (0 : Int32) (99 : Int32)) fun r12 s13 => bd2 (f_M_mayNumber fu s13 (1503 : Int64) (255 : Int32) (0 : Int32)) fun r16 s17 => bd2 (f_M_mayNumber fu s17 (286651 : Int64) (9 : Int32) (1 : Int32)) fun r20 s21 => bd1 (f_M_wantEnd fu s21) fun s24 => if (gi s24 22) = 0 then (some s24) else (gd (vp_in ((4 : Int32) * (gi s24 23)) 24) (lt (sr s24 25 ((4 : Int32) * (gi s24 23)) v1) fun s28 => gd (vp_in (((4 : Int32) * (gi s28 23)) + (1 : Int32)) 24) (lt (sr s28 25 (((4 : Int32) * (gi s28 23)) + (1 : Int32)) r16) fun s30 => gd (vp_in (((4 : Int32) * (gi s30 23)) + (2 : Int32)) 24) (lt (sr s30 25 (((4 : Int32) * (gi s30 23)) + (2 : Int32)) r12) fun s32 => gd (vp_in (((4 : Int32) * (gi s32 23)) + (3 : Int32)) 24) (lt (sr s32 25 (((4 : Int32) * (gi s32 23)) + (3 : Int32)) r20) fun s34 => lt (((gi s34 23) + (1 : Int32))) fun y35 => lt (si s34 23 y35) fun s36 => some s36)))))
noncomputable def f_M_wantPerson (fu : Nat) (sa : g_St) (x1 : Int32) : Option (g_St) :=
  if (6 : Int32) ≤ (gi sa 23) then (lt (si sa 22 (0 : Int32)) fun s1 => if (gi s1 22) = 0 then (f_M_wantPerson_L29 fu s1 x1) else (bd1 (f_M_advance fu s1) fun s2 => f_M_wantPerson_L29 fu s2 x1)) else (lt (si sa 22 (1 : Int32)) fun s5 => if (gi s5 22) = 0 then (f_M_wantPerson_L29 fu s5 x1) else (bd1 (f_M_advance fu s5) fun s6 => f_M_wantPerson_L29 fu s6 x1))
noncomputable def f_M_wantWorths_L107 (fu : Nat) (k7 : g_St → Int32 → Int32 → Option (g_St)) (s : g_St) (v1 : Int32) : Option (g_St) :=
  lt (v1 + (1 : Int32)) fun y16 => if (gi s 22) = 0 then (k7 s y16 (0 : Int32)) else (if (f_M_isMark s (44 : Int32)) = 0 then (k7 s y16 (0 : Int32)) else (bd1 (f_M_advance fu s) fun s18 => k7 s18 y16 (1 : Int32)))
noncomputable def f_M_wantWorths_L65 (fu : Nat) (k7 : g_St → Int32 → Int32 → Option (g_St)) (s : g_St) (v1 : Int32) (v3 : Int32) : Option (g_St) :=
  bd2 (f_M_wantNumber fu s (0 : Int32) (9 : Int32)) fun r7 s8 => if (gi s8 22) = 0 then (f_M_wantWorths_L107 fu k7 s8 v1) else (if v3 = 0 then (gd (vp_in (((6 : Int32) * (gi s8 24)) + v1) 48) (lt (sr s8 27 (((6 : Int32) * (gi s8 24)) + v1) r7) fun s12 => f_M_wantWorths_L107 fu k7 s12 v1)) else (lt ((-r7)) fun y13 => gd (vp_in (((6 : Int32) * (gi s8 24)) + v1) 48) (lt (sr s8 27 (((6 : Int32) * (gi s8 24)) + v1) y13) fun s15 => f_M_wantWorths_L107 fu k7 s15 v1)))
noncomputable def f_M_wantWorths_L32 (fu : Nat) (k7 : g_St → Int32 → Int32 → Option (g_St)) (s : g_St) (v1 : Int32) (z0 : Int32) : Option (g_St) :=
  lt (si s 22 z0) fun s2 => if (gi s2 22) = 0 then (f_M_wantWorths_L65 fu k7 s2 v1 (0 : Int32)) else (if (f_M_isMark s2 (45 : Int32)) = 0 then (f_M_wantWorths_L65 fu k7 s2 v1 (0 : Int32)) else (bd1 (f_M_advance fu s2) fun s4 => f_M_wantWorths_L65 fu k7 s4 v1 (1 : Int32)))
noncomputable def f_M_wantWorths_L7 (fu : Nat) : Nat → g_St → Int32 → Int32 → Option (g_St)
  | 0, _, _, _ => none
  | n + 1, s, v1, v2 => if (gi s 22) = 0 then (some s) else (if v2 = 0 then (some s) else (if (gi s 23) ≤ v1 then (f_M_wantWorths_L32 fu (f_M_wantWorths_L7 fu n) s v1 (0 : Int32)) else (f_M_wantWorths_L32 fu (f_M_wantWorths_L7 fu n) s v1 (1 : Int32))))
noncomputable def f_M_wantWorths (fu : Nat) (sa : g_St) : Option (g_St) :=
  lt ((gi sa 22)) fun y1 => f_M_wantWorths_L7 fu fu sa (0 : Int32) y1
noncomputable def f_M_wantProposal_L98 (fu : Nat) (s : g_St) (v1 : Int32) : Option (g_St) :=
  bd1 (f_M_wantEnd fu s) fun s23 => if (gi s23 22) = 0 then (some s23) else (gd (vp_in (gi s23 24) 8) (lt (sr s23 26 (gi s23 24) v1) fun s27 => lt (((gi s27 24) + (1 : Int32))) fun y28 => lt (si s27 24 y28) fun s29 => some s29))
noncomputable def f_M_wantProposal_L73 (fu : Nat) (s : g_St) (v1 : Int32) : Option (g_St) :=
  if (gi s 22) = 0 then (f_M_wantProposal_L98 fu s v1) else (if (f_M_isWord s (12532058 : Int64)) = 0 then (f_M_wantProposal_L98 fu s v1) else (bd1 (f_M_advance fu s) fun s17 => bd1 (f_M_wantWorths fu s17) fun s20 => f_M_wantProposal_L98 fu s20 v1))
noncomputable def f_M_wantProposal_L39 (fu : Nat) : Nat → g_St → Int32 → Int32 → Option (g_St)
  | 0, _, _, _ => none
  | n + 1, s, v1, v2 => if (6 : Int32) ≤ v2 then (f_M_wantProposal_L73 fu s v1) else (if (gi s 22) = 0 then (f_M_wantProposal_L73 fu s v1) else (gd (vp_in (((6 : Int32) * (gi s 24)) + v2) 48) (lt (sr s 27 (((6 : Int32) * (gi s 24)) + v2) (0 : Int32)) fun s14 => lt (v2 + (1 : Int32)) fun y15 => f_M_wantProposal_L39 fu n s14 v1 y15)))
noncomputable def f_M_wantProposal_L15 (fu : Nat) (s : g_St) (z0 : Int32) : Option (g_St) :=
  lt (si s 22 z0) fun s1 => if (gi s1 22) = 0 then (bd2 (f_M_wantNumber fu s1 (0 : Int32) (9 : Int32)) fun r2 s3 => f_M_wantProposal_L39 fu fu s3 r2 (0 : Int32)) else (bd1 (f_M_advance fu s1) fun s6 => bd2 (f_M_wantNumber fu s6 (0 : Int32) (9 : Int32)) fun r9 s10 => f_M_wantProposal_L39 fu fu s10 r9 (0 : Int32))
noncomputable def f_M_wantProposal (fu : Nat) (sa : g_St) : Option (g_St) :=
  if (8 : Int32) ≤ (gi sa 24) then (f_M_wantProposal_L15 fu sa (0 : Int32)) else (f_M_wantProposal_L15 fu sa (1 : Int32))
noncomputable def f_M_wantLaw_L29 (fu : Nat) (s : g_St) (v1 : Int32) (z0 : Int32) : Option (g_St) :=
  bd1 (f_M_wantEnd fu s) fun s10 => gd (vp_in v1 3) (lt (sr s10 28 v1 z0) fun s14 => some s14)
noncomputable def f_M_wantLaw (fu : Nat) (sa : g_St) (x1 : Int32) : Option (g_St) :=
  bd1 (f_M_advance fu sa) fun s1 => if x1 = (1 : Int32) then (f_M_wantLaw_L29 fu s1 x1 (1 : Int32)) else (gd (vp_in x1 3) (gd (vp_in x1 3) (bd2 (f_M_wantNumber fu s1 (gr s1 9 x1.toNatClampNeg) (gr s1 10 x1.toNatClampNeg)) fun r6 s7 => f_M_wantLaw_L29 fu s7 x1 r6)))
noncomputable def f_M_wantClause (fu : Nat) (sa : g_St) : Option (g_St) :=
  if (f_M_kindHere sa) < 0 then (if (f_M_isWord sa (174563265846 : Int64)) = 0 then (if (f_M_isWord sa (279346 : Int64)) = 0 then (if (f_M_isWord sa (409469 : Int64)) = 0 then (if (f_M_isWord sa (151331 : Int64)) = 0 then (lt (si sa 22 (0 : Int32)) fun s6 => some s6) else (bd1 (f_M_wantLaw fu sa (2 : Int32)) fun s7 => some s7)) else (bd1 (f_M_wantLaw fu sa (1 : Int32)) fun s10 => some s10)) else (bd1 (f_M_wantLaw fu sa (0 : Int32)) fun s13 => some s13)) else (bd1 (f_M_wantProposal fu sa) fun s16 => some s16)) else (bd1 (f_M_wantPerson fu sa (f_M_kindHere sa)) fun s20 => some s20)
noncomputable def f_M_village_L257 (fu : Nat) : Nat → g_St → Int32 → Option (Int32 × g_St)
  | 0, _, _ => none
  | n + 1, s, v1 => if (3 : Int32) ≤ v1 then (lt (sr s 11 (6 : Int32) (1 : Int32)) fun s44 => lt (si s44 12 (0 : Int32)) fun s45 => lt (si s45 13 (0 : Int32)) fun s46 => lt (si s46 36 (0 : Int32)) fun s47 => some ((gi s47 0), s47)) else (gd (vp_in v1 3) (lt ((gr s 28 v1.toNatClampNeg)) fun y49 => gd (vp_in v1 3) (lt (sr s 8 v1 y49) fun s51 => lt (v1 + (1 : Int32)) fun y52 => f_M_village_L257 fu n s51 y52)))
noncomputable def f_M_village_L215 (fu : Nat) (k193 : g_St → Int32 → Option (Int32 × g_St)) : Nat → g_St → Int32 → Int32 → Option (Int32 × g_St)
  | 0, _, _, _ => none
  | n + 1, s, v1, v2 => if (6 : Int32) ≤ v2 then (lt (v1 + (1 : Int32)) fun y53 => k193 s y53) else (gd (vp_in (((6 : Int32) * v1) + v2) 48) (lt ((gr s 27 (((6 : Int32) * v1) + v2).toNatClampNeg)) fun y55 => gd (vp_in (((6 : Int32) * v1) + v2) 48) (lt (sr s 7 (((6 : Int32) * v1) + v2) y55) fun s57 => lt (v2 + (1 : Int32)) fun y58 => f_M_village_L215 fu k193 n s57 v1 y58)))
noncomputable def f_M_village_L193 (fu : Nat) : Nat → g_St → Int32 → Option (Int32 × g_St)
  | 0, _, _ => none
  | n + 1, s, v1 => if (gi s 5) ≤ v1 then (f_M_village_L257 fu fu s (0 : Int32)) else (gd (vp_in v1 8) (lt ((gr s 26 v1.toNatClampNeg)) fun y41 => gd (vp_in v1 8) (lt (sr s 6 v1 y41) fun s43 => f_M_village_L215 fu (f_M_village_L193 fu n) fu s43 v1 (0 : Int32))))
noncomputable def f_M_village_L100 (fu : Nat) : Nat → g_St → Int32 → Option (Int32 × g_St)
  | 0, _, _ => none
  | n + 1, s, v1 => if (gi s 0) ≤ v1 then (lt ((gi s 24)) fun y19 => lt (si s 5 y19) fun s20 => f_M_village_L193 fu fu s20 (0 : Int32)) else (gd (vp_in ((4 : Int32) * v1) 24) (lt ((gr s 25 ((4 : Int32) * v1).toNatClampNeg)) fun y22 => gd (vp_in v1 6) (lt (sr s 1 v1 y22) fun s24 => gd (vp_in (((4 : Int32) * v1) + (1 : Int32)) 24) (lt ((gr s24 25 (((4 : Int32) * v1) + (1 : Int32)).toNatClampNeg)) fun y26 => gd (vp_in v1 6) (lt (sr s24 2 v1 y26) fun s28 => gd (vp_in (((4 : Int32) * v1) + (2 : Int32)) 24) (lt ((gr s28 25 (((4 : Int32) * v1) + (2 : Int32)).toNatClampNeg)) fun y30 => gd (vp_in v1 6) (lt (sr s28 3 v1 y30) fun s32 => gd (vp_in (((4 : Int32) * v1) + (3 : Int32)) 24) (lt ((gr s32 25 (((4 : Int32) * v1) + (3 : Int32)).toNatClampNeg)) fun y34 => gd (vp_in v1 35) (lt (sr s32 11 v1 y34) fun s36 => gd (vp_in v1 6) (lt (sr s36 4 v1 (0 : Int32)) fun s38 => lt (v1 + (1 : Int32)) fun y39 => f_M_village_L100 fu n s38 y39))))))))))
noncomputable def f_M_village_L70 (fu : Nat) (s : g_St) : Option (Int32 × g_St) :=
  lt (si s 16 (0 : Int32)) fun s16 => if (gi s16 22) = 0 then (some ((((-100) : Int32) - (gi s16 18)), s16)) else (lt ((gi s16 23)) fun y17 => lt (si s16 0 y17) fun s18 => f_M_village_L100 fu fu s18 (0 : Int32))
noncomputable def f_M_village_L49 (fu : Nat) : Nat → g_St → Option (Int32 × g_St)
  | 0, _ => none
  | n + 1, s => if (gi s 22) = 0 then (f_M_village_L70 fu s) else (if (gi s 17) = 0 then (f_M_village_L70 fu s) else (bd1 (f_M_wantClause fu s) fun s13 => f_M_village_L49 fu n s13))
noncomputable def f_M_village_L22 (fu : Nat) : Nat → g_St → Int32 → Option (Int32 × g_St)
  | 0, _, _ => none
  | n + 1, s, v1 => if (3 : Int32) ≤ v1 then (bd1 (f_M_advance fu s) fun s5 => f_M_village_L49 fu fu s5) else (gd (vp_in v1 3) (lt ((gr s 9 v1.toNatClampNeg)) fun y9 => gd (vp_in v1 3) (lt (sr s 28 v1 y9) fun s11 => lt (v1 + (1 : Int32)) fun y12 => f_M_village_L22 fu n s11 y12)))
noncomputable def f_M_village (fu : Nat) (sa : g_St) : Option (Int32 × g_St) :=
  lt (si sa 19 (0 : Int32)) fun s1 => lt (si s1 22 (1 : Int32)) fun s2 => lt (si s2 23 (0 : Int32)) fun s3 => lt (si s3 24 (0 : Int32)) fun s4 => f_M_village_L22 fu fu s4 (0 : Int32)
def f_S_isMind (x0 : Int32) (x1 : Int32) : Int32 :=
  if (f_S_in x0 (0 : Int32) (5 : Int32)) = 0 then ((0 : Int32)) else (if (f_S_in x1 (0 : Int32) (255 : Int32)) = 0 then ((0 : Int32)) else ((1 : Int32)))
noncomputable def f_M_person_L97 (fu : Nat) : Nat → g_St → Int32 → Option (Int32 × g_St)
  | 0, _, _ => none
  | n + 1, s, v5 => if (8 : Int32) ≤ v5 then (lt (((gi s 0) + (1 : Int32))) fun y14 => lt (si s 0 y14) fun s15 => some (((gi s15 0) - (1 : Int32)), s15)) else (gd (vp_in (((6 : Int32) * v5) + (gi s 0)) 48) (lt (sr s 7 (((6 : Int32) * v5) + (gi s 0)) (0 : Int32)) fun s17 => lt (v5 + (1 : Int32)) fun y18 => f_M_person_L97 fu n s17 y18))
noncomputable def f_M_person (fu : Nat) (sa : g_St) (x1 : Int32) (x2 : Int32) (x3 : Int32) (x4 : Int32) : Option (Int32 × g_St) :=
  if (f_S_isMind x1 x2) = 0 then (some (((-1) : Int32), sa)) else (if (f_S_in x3 (0 : Int32) (99 : Int32)) = 0 then (some (((-1) : Int32), sa)) else (if (f_S_in x4 (0 : Int32) (9 : Int32)) = 0 then (some (((-1) : Int32), sa)) else (if (gi sa 0) = (6 : Int32) then (some (((-2) : Int32), sa)) else (gd (vp_in (gi sa 0) 6) (lt (sr sa 1 (gi sa 0) x1) fun s5 => gd (vp_in (gi s5 0) 6) (lt (sr s5 2 (gi s5 0) x2) fun s7 => gd (vp_in (gi s7 0) 6) (lt (sr s7 3 (gi s7 0) x3) fun s9 => gd (vp_in (gi s9 0) 35) (lt (sr s9 11 (gi s9 0) x4) fun s11 => gd (vp_in (gi s11 0) 6) (lt (sr s11 4 (gi s11 0) (0 : Int32)) fun s13 => f_M_person_L97 fu fu s13 (0 : Int32))))))))))
noncomputable def f_M_personOf (sa : g_St) (x1 : Int32) (x2 : Int32) : Option (Int32) :=
  if (f_M_isPerson sa x1) = 0 then (some ((-1) : Int32)) else (if x2 = 0 then (gd (vp_in x1 6) (some (gr sa 1 x1.toNatClampNeg))) else (if x2 = (1 : Int32) then (gd (vp_in x1 6) (some (gr sa 2 x1.toNatClampNeg))) else (if x2 = (2 : Int32) then (gd (vp_in x1 6) (some (gr sa 3 x1.toNatClampNeg))) else (if x2 = (3 : Int32) then (gd (vp_in x1 35) (some (gr sa 11 x1.toNatClampNeg))) else (some ((-1) : Int32))))))
noncomputable def f_M_leave_L102 (fu : Nat) (k22 : g_St → Int32 → Option (Int32 × g_St)) : Nat → g_St → Int32 → Int32 → Option (Int32 × g_St)
  | 0, _, _, _ => none
  | n + 1, s, v2, v3 => if (8 : Int32) ≤ v3 then (lt (v2 + (1 : Int32)) fun y24 => k22 s y24) else (gd (vp_in ((((6 : Int32) * v3) + v2) + (1 : Int32)) 48) (lt ((gr s 7 ((((6 : Int32) * v3) + v2) + (1 : Int32)).toNatClampNeg)) fun y26 => gd (vp_in (((6 : Int32) * v3) + v2) 48) (lt (sr s 7 (((6 : Int32) * v3) + v2) y26) fun s28 => lt (v3 + (1 : Int32)) fun y29 => f_M_leave_L102 fu k22 n s28 v2 y29)))
noncomputable def f_M_leave_L22 (fu : Nat) : Nat → g_St → Int32 → Option (Int32 × g_St)
  | 0, _, _ => none
  | n + 1, s, v2 => if (gi s 0) ≤ v2 then (some ((gi s 0), s)) else (gd (vp_in (v2 + (1 : Int32)) 6) (lt ((gr s 1 (v2 + (1 : Int32)).toNatClampNeg)) fun y5 => gd (vp_in v2 6) (lt (sr s 1 v2 y5) fun s7 => gd (vp_in (v2 + (1 : Int32)) 6) (lt ((gr s7 2 (v2 + (1 : Int32)).toNatClampNeg)) fun y9 => gd (vp_in v2 6) (lt (sr s7 2 v2 y9) fun s11 => gd (vp_in (v2 + (1 : Int32)) 6) (lt ((gr s11 3 (v2 + (1 : Int32)).toNatClampNeg)) fun y13 => gd (vp_in v2 6) (lt (sr s11 3 v2 y13) fun s15 => gd (vp_in (v2 + (1 : Int32)) 35) (lt ((gr s15 11 (v2 + (1 : Int32)).toNatClampNeg)) fun y17 => gd (vp_in v2 35) (lt (sr s15 11 v2 y17) fun s19 => gd (vp_in (v2 + (1 : Int32)) 6) (lt ((gr s19 4 (v2 + (1 : Int32)).toNatClampNeg)) fun y21 => gd (vp_in v2 6) (lt (sr s19 4 v2 y21) fun s23 => f_M_leave_L102 fu (f_M_leave_L22 fu n) fu s23 v2 (0 : Int32))))))))))))
noncomputable def f_M_leave (fu : Nat) (sa : g_St) (x1 : Int32) : Option (Int32 × g_St) :=
  if (f_M_isPerson sa x1) = 0 then (some (((-1) : Int32), sa)) else (lt (((gi sa 0) - (1 : Int32))) fun y2 => lt (si sa 0 y2) fun s3 => f_M_leave_L22 fu fu s3 x1)
noncomputable def f_M_mind (sa : g_St) (x1 : Int32) (x2 : Int32) (x3 : Int32) : Option (Int32 × g_St) :=
  if (f_M_isPerson sa x1) = 0 then (some (((-1) : Int32), sa)) else (if (f_S_isMind x2 x3) = 0 then (some (((-1) : Int32), sa)) else (gd (vp_in x1 6) (lt ((gr sa 1 x1.toNatClampNeg)) fun y4 => gd (vp_in x1 6) (lt (sr sa 1 x1 x2) fun s6 => gd (vp_in x1 6) (lt (sr s6 2 x1 x3) fun s8 => some (y4, s8))))))
noncomputable def f_M_give (sa : g_St) (x1 : Int32) (x2 : Int32) : Option (Int32 × g_St) :=
  if (f_M_isPerson sa x1) = 0 then (some (((-1) : Int32), sa)) else (if (f_M_isPerson sa x2) = 0 then (some (((-1) : Int32), sa)) else (if x1 = x2 then (some (((-1) : Int32), sa)) else (gd (vp_in x1 35) (if (gr sa 11 x1.toNatClampNeg) = 0 then (some (((-3) : Int32), sa)) else (gd (vp_in x2 35) (if (gr sa 11 x2.toNatClampNeg) = (9 : Int32) then (some (((-2) : Int32), sa)) else (gd (vp_in x1 35) (lt (((gr sa 11 x1.toNatClampNeg) - (1 : Int32))) fun y6 => gd (vp_in x1 35) (lt (sr sa 11 x1 y6) fun s8 => gd (vp_in x2 35) (lt (((gr s8 11 x2.toNatClampNeg) + (1 : Int32))) fun y10 => gd (vp_in x2 35) (lt (sr s8 11 x2 y10) fun s12 => gd (vp_in x2 35) (some ((gr s12 11 x2.toNatClampNeg), s12)))))))))))))
noncomputable def f_M_noes (sa : g_St) (x1 : Int32) (x2 : Int32) : Option (Int32 × g_St) :=
  if (f_M_isPerson sa x1) = 0 then (some (((-1) : Int32), sa)) else (if (f_S_in x2 (0 : Int32) (9 : Int32)) = 0 then (some (((-1) : Int32), sa)) else (gd (vp_in x1 35) (lt ((gr sa 11 x1.toNatClampNeg)) fun y4 => gd (vp_in x1 35) (lt (sr sa 11 x1 x2) fun s6 => some (y4, s6)))))
noncomputable def f_M_proposal_L36 (fu : Nat) : Nat → g_St → Int32 → Option (Int32 × g_St)
  | 0, _, _ => none
  | n + 1, s, v2 => if (6 : Int32) ≤ v2 then (lt (((gi s 5) + (1 : Int32))) fun y4 => lt (si s 5 y4) fun s5 => some (((gi s5 5) - (1 : Int32)), s5)) else (gd (vp_in (((6 : Int32) * (gi s 5)) + v2) 48) (lt (sr s 7 (((6 : Int32) * (gi s 5)) + v2) (0 : Int32)) fun s7 => lt (v2 + (1 : Int32)) fun y8 => f_M_proposal_L36 fu n s7 y8))
noncomputable def f_M_proposal (fu : Nat) (sa : g_St) (x1 : Int32) : Option (Int32 × g_St) :=
  if (f_S_in x1 (0 : Int32) (9 : Int32)) = 0 then (some (((-1) : Int32), sa)) else (if (gi sa 5) = (8 : Int32) then (some (((-2) : Int32), sa)) else (gd (vp_in (gi sa 5) 8) (lt (sr sa 6 (gi sa 5) x1) fun s3 => f_M_proposal_L36 fu fu s3 (0 : Int32))))
noncomputable def f_M_weigh (sa : g_St) (x1 : Int32) (x2 : Int32) : Option (Int32 × g_St) :=
  if (f_M_isProposal sa x1) = 0 then (some (((-1) : Int32), sa)) else (if (f_S_in x2 (0 : Int32) (9 : Int32)) = 0 then (some (((-1) : Int32), sa)) else (gd (vp_in x1 8) (lt ((gr sa 6 x1.toNatClampNeg)) fun y4 => gd (vp_in x1 8) (lt (sr sa 6 x1 x2) fun s6 => some (y4, s6)))))
noncomputable def f_M_worth (sa : g_St) (x1 : Int32) (x2 : Int32) (x3 : Int32) : Option (Int32 × g_St) :=
  if (f_M_isProposal sa x1) = 0 then (some (((-1) : Int32), sa)) else (if (f_M_isPerson sa x2) = 0 then (some (((-1) : Int32), sa)) else (if (f_S_in x3 ((-9) : Int32) (9 : Int32)) = 0 then (some (((-1) : Int32), sa)) else (bd1 (f_M_worthTo sa x1 x2) fun r4 => gd (vp_in (((6 : Int32) * x1) + x2) 48) (lt (sr sa 7 (((6 : Int32) * x1) + x2) x3) fun s8 => some ((r4 + (10 : Int32)), s8)))))
noncomputable def f_M_proposalOf_L23 (sa : g_St) (v1 : Int32) (v2 : Int32) : Option (Int32) :=
  if v2 = ((-1) : Int32) then (gd (vp_in v1 8) (some (gr sa 6 v1.toNatClampNeg))) else (bd1 (f_M_worthTo sa v1 v2) fun r3 => some (r3 + (10 : Int32)))
noncomputable def f_M_proposalOf (sa : g_St) (x1 : Int32) (x2 : Int32) : Option (Int32) :=
  if (f_M_isProposal sa x1) = 0 then (some ((-1) : Int32)) else (if x2 = ((-1) : Int32) then (f_M_proposalOf_L23 sa x1 x2) else (if (f_M_isPerson sa x2) = 0 then (some ((-1) : Int32)) else (f_M_proposalOf_L23 sa x1 x2)))
def f_S_isLaw (x0 : Int32) : Int32 :=
  (f_S_in x0 (0 : Int32) (2 : Int32))
noncomputable def f_M_set_L12 (s : g_St) (v1 : Int32) (v2 : Int32) (z0 : Int32) : Option (Int32 × g_St) :=
  if (f_S_isLaw v1) = 0 then (some (((-1) : Int32), s)) else (gd (vp_in z0 3) (gd (vp_in z0 3) (if (f_S_in v2 (gr s 9 z0.toNatClampNeg) (gr s 10 z0.toNatClampNeg)) = 0 then (some (((-1) : Int32), s)) else (gd (vp_in v1 3) (lt ((gr s 8 v1.toNatClampNeg)) fun y7 => gd (vp_in v1 3) (lt (sr s 8 v1 v2) fun s9 => some (y7, s9)))))))
noncomputable def f_M_set (sa : g_St) (x1 : Int32) (x2 : Int32) : Option (Int32 × g_St) :=
  if (f_S_isLaw x1) = 0 then (f_M_set_L12 sa x1 x2 (0 : Int32)) else (f_M_set_L12 sa x1 x2 x1)
noncomputable def f_M_law (sa : g_St) (x1 : Int32) : Option (Int32) :=
  if (f_S_isLaw x1) = 0 then (if x1 = (3 : Int32) then (some (gr sa 11 (6 : Int32).toNatClampNeg)) else (some ((-1) : Int32))) else (gd (vp_in x1 3) (some (gr sa 8 x1.toNatClampNeg)))
noncomputable def f_M_isLow_L11 (fu : Nat) : Nat → g_St → Int32 → Int32 → Int32 → Int32 → Int32 → Option (Int32)
  | 0, _, _, _, _, _, _ => none
  | n + 1, sa, v1, v2, v3, v4, v5 => if (gi sa 0) ≤ v5 then (some (1 : Int32)) else (if v5 = v3 then (lt (v5 + (1 : Int32)) fun y4 => f_M_isLow_L11 fu n sa v1 v2 v3 v4 y4) else (gd (vp_in (v1 + v5) 35) (if (gr sa 11 (v1 + v5).toNatClampNeg) ≤ 0 then (lt (v5 + (1 : Int32)) fun y6 => f_M_isLow_L11 fu n sa v1 v2 v3 v4 y6) else (bd1 (f_M_worthTo sa v2 v5) fun r7 => if v4 ≤ r7 then (lt (v5 + (1 : Int32)) fun y10 => f_M_isLow_L11 fu n sa v1 v2 v3 v4 y10) else (some (0 : Int32))))))
noncomputable def f_M_isLow (fu : Nat) (sa : g_St) (x1 : Int32) (x2 : Int32) (x3 : Int32) : Option (Int32) :=
  bd1 (f_M_worthTo sa x2 x3) fun r1 => f_M_isLow_L11 fu fu sa x1 x2 x3 r1 (0 : Int32)
noncomputable def f_M_isCalled_L65 (fu : Nat) (k8 : g_St → Int32 → Int32 → Int32 → Int32 → Int32 → Option (Int32)) (sa : g_St) (v1 : Int32) (v2 : Int32) (v3 : Int32) (v5 : Int32) (v6 : Int32) (z0 : Int32) (z1 : Int32) : Option (Int32) :=
  lt ((z1 + z0)) fun y5 => if v6 = 0 then (lt ((v3 + (0 : Int32))) fun y6 => lt (v5 + (1 : Int32)) fun y7 => k8 sa v1 v2 y6 y5 y7) else (lt ((v3 + (1 : Int32))) fun y8 => lt (v5 + (1 : Int32)) fun y9 => k8 sa v1 v2 y8 y5 y9)
noncomputable def f_M_isCalled_L45 (fu : Nat) (k8 : g_St → Int32 → Int32 → Int32 → Int32 → Int32 → Option (Int32)) (sa : g_St) (v1 : Int32) (v2 : Int32) (v3 : Int32) (v4 : Int32) (v5 : Int32) (z0 : Int32) : Option (Int32) :=
  if z0 = 0 then (f_M_isCalled_L65 fu k8 sa v1 v2 v3 v5 z0 (0 : Int32) v4) else (if v2 ≤ v5 then (f_M_isCalled_L65 fu k8 sa v1 v2 v3 v5 z0 (0 : Int32) v4) else (f_M_isCalled_L65 fu k8 sa v1 v2 v3 v5 z0 (1 : Int32) v4))
noncomputable def f_M_isCalled_L8 (fu : Nat) : Nat → g_St → Int32 → Int32 → Int32 → Int32 → Int32 → Option (Int32)
  | 0, _, _, _, _, _, _ => none
  | n + 1, sa, v1, v2, v3, v4, v5 => if (gi sa 0) ≤ v5 then (gd (vp_in (v1 + (6 : Int32)) 35) (gd (¬ v3 = 0) (if (g_rem (gr sa 11 (v1 + (6 : Int32)).toNatClampNeg) v3) = v4 then (some (1 : Int32)) else (some (0 : Int32))))) else (gd (vp_in v5 6) (if (gr sa 1 v5.toNatClampNeg) = (4 : Int32) then (gd (vp_in (v1 + v5) 35) (if (gr sa 11 (v1 + v5).toNatClampNeg) ≤ 0 then (f_M_isCalled_L45 fu (f_M_isCalled_L8 fu n) sa v1 v2 v3 v4 v5 (0 : Int32)) else (f_M_isCalled_L45 fu (f_M_isCalled_L8 fu n) sa v1 v2 v3 v4 v5 (1 : Int32)))) else (f_M_isCalled_L45 fu (f_M_isCalled_L8 fu n) sa v1 v2 v3 v4 v5 (0 : Int32))))
noncomputable def f_M_isCalled (fu : Nat) (sa : g_St) (x1 : Int32) (x2 : Int32) : Option (Int32) :=
  f_M_isCalled_L8 fu fu sa x1 x2 (0 : Int32) (0 : Int32) (0 : Int32)
noncomputable def f_M_wouldBy (fu : Nat) (sa : g_St) (x1 : Int32) (x2 : Int32) (x3 : Int32) : Option (Int32) :=
  gd (vp_in (x1 + x3) 35) (if (gr sa 11 (x1 + x3).toNatClampNeg) = 0 then (some (0 : Int32)) else (bd1 (f_M_worthTo sa x2 x3) fun r2 => gd (vp_in x3 6) (lt ((gr sa 1 x3.toNatClampNeg)) fun y6 => if y6 = (1 : Int32) then (if 0 ≤ r2 then (some (0 : Int32)) else (some (1 : Int32))) else (if y6 = (2 : Int32) then (gd (vp_in x3 6) (if (-(gr sa 2 x3.toNatClampNeg)) ≤ r2 then (some (0 : Int32)) else (some (1 : Int32)))) else (if y6 = (3 : Int32) then (gd (vp_in x3 6) (if (-(gr sa 2 x3.toNatClampNeg)) ≤ r2 then (some (0 : Int32)) else (bd1 (f_M_isLow fu sa x1 x2 x3) fun r9 => if r9 = 0 then (some (0 : Int32)) else (some (1 : Int32))))) else (if y6 = (4 : Int32) then (if 0 ≤ r2 then (some (0 : Int32)) else (bd1 (f_M_isCalled fu sa x1 x3) fun r12 => if r12 = 0 then (some (0 : Int32)) else (some (1 : Int32)))) else (if y6 = (5 : Int32) then (gd (vp_in x3 6) (if ((g_shr (gr sa 2 x3.toNatClampNeg) x2) &&& (1 : Int32)) = (1 : Int32) then (some (1 : Int32)) else (some (0 : Int32)))) else (some (0 : Int32)))))))))
noncomputable def f_M_wouldSet_L59 (fu : Nat) (k5 : g_St → Int32 → Int32 → Int32 → Int32 → Option (Int32)) (sa : g_St) (v1 : Int32) (v2 : Int32) (v3 : Int32) (v4 : Int32) (z0 : Int32) : Option (Int32) :=
  if z0 = 0 then (lt ((v3 ||| (0 : Int32))) fun y5 => lt (v4 + (1 : Int32)) fun y6 => k5 sa v1 v2 y5 y6) else (lt ((v3 ||| (g_shl (1 : Int32) v4))) fun y7 => lt (v4 + (1 : Int32)) fun y8 => k5 sa v1 v2 y7 y8)
noncomputable def f_M_wouldSet_L5 (fu : Nat) : Nat → g_St → Int32 → Int32 → Int32 → Int32 → Option (Int32)
  | 0, _, _, _, _, _ => none
  | n + 1, sa, v1, v2, v3, v4 => if (gi sa 0) ≤ v4 then (some v3) else (if v4 = (gi sa 29) then (if (gi sa 30) = (1 : Int32) then (gd (vp_in (v1 + v4) 35) (if (gr sa 11 (v1 + v4).toNatClampNeg) ≤ 0 then (f_M_wouldSet_L59 fu (f_M_wouldSet_L5 fu n) sa v1 v2 v3 v4 (0 : Int32)) else (f_M_wouldSet_L59 fu (f_M_wouldSet_L5 fu n) sa v1 v2 v3 v4 (1 : Int32)))) else (f_M_wouldSet_L59 fu (f_M_wouldSet_L5 fu n) sa v1 v2 v3 v4 (0 : Int32))) else (bd1 (f_M_wouldBy fu sa v1 v2 v4) fun r1 => f_M_wouldSet_L59 fu (f_M_wouldSet_L5 fu n) sa v1 v2 v3 v4 r1))
noncomputable def f_M_wouldSet (fu : Nat) (sa : g_St) (x1 : Int32) (x2 : Int32) : Option (Int32) :=
  f_M_wouldSet_L5 fu fu sa x1 x2 (0 : Int32) (0 : Int32)
noncomputable def f_M_saySet_L100 (fu : Nat) (k24 : g_St → Int32 → Int32 → Int32 → Option (Int32)) (k45 : g_St → Int32 → Int32 → Int32 → Int32 → Int32 → Option (Int32)) (sa : g_St) (v3 : Int32) (v4 : Int32) (v5 : Int32) (v6 : Int32) (v7 : Int32) (z0 : Int32) : Option (Int32) :=
  if z0 = 0 then (lt (v7 + (1 : Int32)) fun y9 => k45 sa v3 v4 v5 v6 y9) else (lt (v7 + (1 : Int32)) fun y10 => k45 sa v3 v4 v5 v7 y10)
noncomputable def f_M_saySet_L45 (fu : Nat) (k24 : g_St → Int32 → Int32 → Int32 → Option (Int32)) : Nat → g_St → Int32 → Int32 → Int32 → Int32 → Int32 → Option (Int32)
  | 0, _, _, _, _, _, _ => none
  | n + 1, sa, v3, v4, v5, v6, v7 => if (gi sa 0) ≤ v7 then (lt ((v4 ||| (g_shl (1 : Int32) v6))) fun y4 => lt ((v3 &&& ((g_shl (1 : Int32) v6) ^^^ ((-1) : Int32)))) fun y5 => lt (v5 + (1 : Int32)) fun y6 => k24 sa y5 y4 y6) else (if ((g_shr v3 v7) &&& (1 : Int32)) = (1 : Int32) then (if v6 < 0 then (f_M_saySet_L100 fu k24 (f_M_saySet_L45 fu k24 n) sa v3 v4 v5 v6 v7 (1 : Int32)) else (gd (vp_in v7 6) (if 0 ≤ v6 then (gd (vp_in v6 6) (if (gr sa 3 v7.toNatClampNeg) ≤ (gr sa 3 v6.toNatClampNeg) then (f_M_saySet_L100 fu k24 (f_M_saySet_L45 fu k24 n) sa v3 v4 v5 v6 v7 (0 : Int32)) else (f_M_saySet_L100 fu k24 (f_M_saySet_L45 fu k24 n) sa v3 v4 v5 v6 v7 (1 : Int32)))) else (if (gr sa 3 v7.toNatClampNeg) ≤ (gr sa 3 (0 : Int32).toNatClampNeg) then (f_M_saySet_L100 fu k24 (f_M_saySet_L45 fu k24 n) sa v3 v4 v5 v6 v7 (0 : Int32)) else (f_M_saySet_L100 fu k24 (f_M_saySet_L45 fu k24 n) sa v3 v4 v5 v6 v7 (1 : Int32)))))) else (f_M_saySet_L100 fu k24 (f_M_saySet_L45 fu k24 n) sa v3 v4 v5 v6 v7 (0 : Int32)))
noncomputable def f_M_saySet_L24 (fu : Nat) : Nat → g_St → Int32 → Int32 → Int32 → Option (Int32)
  | 0, _, _, _, _ => none
  | n + 1, sa, v3, v4, v5 => if (gr sa 8 (0 : Int32).toNatClampNeg) ≤ v5 then (some v4) else (if v3 = 0 then (some v4) else (f_M_saySet_L45 fu (f_M_saySet_L24 fu n) fu sa v3 v4 v5 ((-1) : Int32) (0 : Int32)))
noncomputable def f_M_saySet (fu : Nat) (sa : g_St) (x1 : Int32) (x2 : Int32) : Option (Int32) :=
  bd1 (f_M_wouldSet fu sa x1 x2) fun r1 => if (gr sa 8 (1 : Int32).toNatClampNeg) = 0 then (some r1) else (f_M_saySet_L24 fu fu sa r1 (0 : Int32) (0 : Int32))
noncomputable def f_S_ones_L4 (fu : Nat) : Nat → Int32 → Int32 → Option (Int32)
  | 0, _, _ => none
  | n + 1, v1, v2 => if v2 = 0 then (some v1) else (lt (v1 + (1 : Int32)) fun y1 => lt ((v2 &&& (v2 - (1 : Int32)))) fun y2 => f_S_ones_L4 fu n y1 y2)
noncomputable def f_S_ones (fu : Nat) (x0 : Int32) : Option (Int32) :=
  f_S_ones_L4 fu fu (0 : Int32) x0
noncomputable def f_M_goes_L93 (fu : Nat) (k24 : g_St → Int32 → Int32 → Int32 → Int32 → Option (Int32 × g_St)) (s : g_St) (v1 : Int32) (v2 : Int32) (v4 : Int32) (v5 : Int32) (v6 : Int32) (z0 : Int32) : Option (Int32 × g_St) :=
  if z0 = 0 then (gd (vp_in (v2 + v5) 35) (lt (sr s 11 (v2 + v5) v6) fun s17 => lt (v5 + (1 : Int32)) fun y18 => k24 s17 v1 v2 v4 y18)) else (if v6 = 0 then (gd (vp_in (v2 + v5) 35) (lt (sr s 11 (v2 + v5) (1 : Int32)) fun s23 => lt (v5 + (1 : Int32)) fun y24 => k24 s23 v1 v2 v4 y24)) else (gd (vp_in (v2 + v5) 35) (lt (sr s 11 (v2 + v5) v6) fun s20 => lt (v5 + (1 : Int32)) fun y21 => k24 s20 v1 v2 v4 y21)))
noncomputable def f_M_goes_L24 (fu : Nat) : Nat → g_St → Int32 → Int32 → Int32 → Int32 → Option (Int32 × g_St)
  | 0, _, _, _, _, _ => none
  | n + 1, s, v1, v2, v4, v5 => if (gi s 0) ≤ v5 then (lt ((v4 + (1 : Int32))) fun y7 => gd (vp_in (v2 + (6 : Int32)) 35) (lt (sr s 11 (v2 + (6 : Int32)) y7) fun s9 => bd1 (f_S_ones fu (gi s9 31)) fun r10 => if r10 < (gr s9 8 (0 : Int32).toNatClampNeg) then (some ((0 : Int32), s9)) else (some ((1 : Int32), s9)))) else (gd (vp_in (v1 + v5) 35) (lt (((gr s 11 (v1 + v5).toNatClampNeg) - ((g_shr (gi s 31) v5) &&& (1 : Int32)))) fun y14 => if (gr s 8 (2 : Int32).toNatClampNeg) ≤ 0 then (f_M_goes_L93 fu (f_M_goes_L24 fu n) s v1 v2 v4 v5 y14 (0 : Int32)) else (if (gr s 8 (2 : Int32).toNatClampNeg) ≤ 0 then (if (g_rem v4 (1 : Int32)) = 0 then (f_M_goes_L93 fu (f_M_goes_L24 fu n) s v1 v2 v4 v5 y14 (1 : Int32)) else (f_M_goes_L93 fu (f_M_goes_L24 fu n) s v1 v2 v4 v5 y14 (0 : Int32))) else (gd (¬ (gr s 8 (2 : Int32).toNatClampNeg) = 0) (if (g_rem v4 (gr s 8 (2 : Int32).toNatClampNeg)) = 0 then (f_M_goes_L93 fu (f_M_goes_L24 fu n) s v1 v2 v4 v5 y14 (1 : Int32)) else (f_M_goes_L93 fu (f_M_goes_L24 fu n) s v1 v2 v4 v5 y14 (0 : Int32)))))))
noncomputable def f_M_goes (fu : Nat) (sa : g_St) (x1 : Int32) (x2 : Int32) (x3 : Int32) : Option (Int32 × g_St) :=
  bd1 (f_M_saySet fu sa x1 x3) fun r1 => lt (si sa 31 r1) fun s4 => gd (vp_in (x1 + (6 : Int32)) 35) (lt ((gr s4 11 (x1 + (6 : Int32)).toNatClampNeg)) fun y6 => f_M_goes_L24 fu fu s4 x1 x2 y6 (0 : Int32))
noncomputable def f_M_would (fu : Nat) (sa : g_St) (x1 : Int32) : Option (Int32) :=
  if (f_M_isProposal sa x1) = 0 then (some ((-1) : Int32)) else (bd1 (f_M_wouldSet fu sa (0 : Int32) x1) fun r2 => some r2)
noncomputable def f_M_says (fu : Nat) (sa : g_St) (x1 : Int32) : Option (Int32) :=
  if (f_M_isProposal sa x1) = 0 then (some ((-1) : Int32)) else (bd1 (f_M_saySet fu sa (0 : Int32) x1) fun r2 => some r2)
noncomputable def f_M_comesNow_L46 (fu : Nat) : Nat → g_St → Int32 → Int32 → Int32 → Option (Int32 × g_St)
  | 0, _, _, _, _ => none
  | n + 1, s, v1, v2, v3 => if (gi s 0) ≤ v3 then (if v2 = 0 then (some ((0 : Int32), s)) else (some ((1 : Int32), s))) else (gd (vp_in v3 6) (if v2 = 0 then (bd1 (f_M_worthTo s v1 v3) fun r12 => lt (((gr s 4 v3.toNatClampNeg) + r12)) fun y15 => gd (vp_in v3 6) (lt (sr s 4 v3 y15) fun s17 => lt (v3 + (1 : Int32)) fun y18 => f_M_comesNow_L46 fu n s17 v1 v2 y18)) else (lt (((gr s 4 v3.toNatClampNeg) + (0 : Int32))) fun y19 => gd (vp_in v3 6) (lt (sr s 4 v3 y19) fun s21 => lt (v3 + (1 : Int32)) fun y22 => f_M_comesNow_L46 fu n s21 v1 v2 y22))))
noncomputable def f_M_comesNow_L22 (fu : Nat) (s : g_St) (v1 : Int32) (v2 : Int32) (z0 : Int32) (z1 : Int32) : Option (Int32 × g_St) :=
  lt ((z1 + z0)) fun y5 => lt (si s 12 y5) fun s6 => if v2 = 0 then (lt (((gi s6 13) + (1 : Int32))) fun y7 => lt (si s6 13 y7) fun s8 => f_M_comesNow_L46 fu fu s8 v1 v2 (0 : Int32)) else (lt (((gi s6 13) + (0 : Int32))) fun y9 => lt (si s6 13 y9) fun s10 => f_M_comesNow_L46 fu fu s10 v1 v2 (0 : Int32))
noncomputable def f_M_comesNow (fu : Nat) (sa : g_St) (x1 : Int32) : Option (Int32 × g_St) :=
  bd2 (f_M_goes fu sa (0 : Int32) (0 : Int32) x1) fun r1 s2 => if r1 = 0 then (f_M_comesNow_L22 fu s2 x1 r1 (0 : Int32) (gi s2 12)) else (f_M_comesNow_L22 fu s2 x1 r1 (1 : Int32) (gi s2 12))
noncomputable def f_M_comes (fu : Nat) (sa : g_St) (x1 : Int32) : Option (Int32 × g_St) :=
  if (f_M_isProposal sa x1) = 0 then (some (((-1) : Int32), sa)) else (if (gr sa 11 (6 : Int32).toNatClampNeg) = (999 : Int32) then (some (((-4) : Int32), sa)) else (bd2 (f_M_comesNow fu sa x1) fun r2 s3 => some (r2, s3)))
noncomputable def f_M_weightsInAll_L4 (fu : Nat) : Nat → g_St → Int32 → Int32 → Option (Int32)
  | 0, _, _, _ => none
  | n + 1, sa, v1, v2 => if (gi sa 5) ≤ v2 then (some v1) else (gd (vp_in v2 8) (lt ((v1 + (gr sa 6 v2.toNatClampNeg))) fun y2 => lt (v2 + (1 : Int32)) fun y3 => f_M_weightsInAll_L4 fu n sa y2 y3))
noncomputable def f_M_weightsInAll (fu : Nat) (sa : g_St) : Option (Int32) :=
  f_M_weightsInAll_L4 fu fu sa (0 : Int32) (0 : Int32)
noncomputable def f_M_lotOf_L10 (fu : Nat) : Nat → g_St → Int32 → Int32 → Option (Int32)
  | 0, _, _, _ => none
  | n + 1, sa, v3, v4 => gd (vp_in v4 8) (if v3 < (gr sa 6 v4.toNatClampNeg) then (some v4) else (gd (vp_in v4 8) (lt ((v3 - (gr sa 6 v4.toNatClampNeg))) fun y5 => lt (v4 + (1 : Int32)) fun y6 => f_M_lotOf_L10 fu n sa y5 y6)))
noncomputable def f_M_lotOf (fu : Nat) (sa : g_St) (x1 : Int32) (x2 : Int32) : Option (Int32) :=
  gd (¬ x2 = 0) (lt ((g_rem (g_ushr x1 (16 : Int32)) x2)) fun y2 => f_M_lotOf_L10 fu fu sa y2 (0 : Int32))
def f_S_next (x0 : Int32) : Int32 :=
  ((x0 * (1103515245 : Int32)) + (12345 : Int32))
noncomputable def f_M_lot (fu : Nat) (sa : g_St) : Option (Int32 × g_St) :=
  bd1 (f_M_weightsInAll fu sa) fun r1 => if r1 = 0 then (some (((-3) : Int32), sa)) else (if (gr sa 11 (6 : Int32).toNatClampNeg) = (999 : Int32) then (some (((-4) : Int32), sa)) else (lt ((f_S_next (gi sa 14))) fun y5 => lt (si sa 14 y5) fun s6 => bd1 (f_M_lotOf fu s6 (gi s6 14) r1) fun r7 => bd2 (f_M_comesNow fu s6 r7) fun r10 s11 => some (r7, s11)))
noncomputable def f_M_had (sa : g_St) (x1 : Int32) : Option (Int32) :=
  if (f_M_isPerson sa x1) = 0 then (some ((-1) : Int32)) else (gd (vp_in x1 6) (some ((gr sa 4 x1.toNatClampNeg) + (100000 : Int32))))
def f_M_seed (sa : g_St) (x1 : Int32) : (Int32 × g_St) :=
  lt ((gi sa 14)) fun y1 => lt (si sa 14 x1) fun s2 => (y1, s2)
noncomputable def f_M_lowest_L17 (fu : Nat) : Nat → g_St → Int64 → Int64 → Int64 → Int64 → Option (g_St)
  | 0, _, _, _, _, _ => none
  | n + 1, s, v1, v3, v5, v7 => if (lg_cmp v7 (0 : Int64)) = 0 then (gd (¬ v5 = 0) (lt ((v1 / v5)) fun y3 => lt (sj s 32 y3) fun s4 => gd (¬ v5 = 0) (lt ((v3 / v5)) fun y6 => lt (sj s4 33 y6) fun s7 => some s7))) else (gd (¬ v7 = 0) (lt ((g_remL v5 v7)) fun y9 => f_M_lowest_L17 fu n s v1 v3 v7 y9))
noncomputable def f_M_lowest (fu : Nat) (sa : g_St) (x1 : Int64) (x3 : Int64) : Option (g_St) :=
  if 0 ≤ (lg_cmp x1 (0 : Int64)) then (f_M_lowest_L17 fu fu sa x1 x3 x1 x3) else (lt ((-x1)) fun y1 => f_M_lowest_L17 fu fu sa x1 x3 y1 x3)
noncomputable def f_S_power_L5 (fu : Nat) : Nat → Int64 → Int32 → Int64 → Int32 → Option (Int64)
  | 0, _, _, _, _ => none
  | n + 1, v0, v2, v3, v5 => if v2 ≤ v5 then (some v3) else (lt ((v3 * v0)) fun y1 => lt (v5 + (1 : Int32)) fun y2 => f_S_power_L5 fu n v0 v2 y1 y2)
noncomputable def f_S_power (fu : Nat) (x0 : Int64) (x2 : Int32) : Option (Int64) :=
  f_S_power_L5 fu fu x0 x2 (1 : Int64) (0 : Int32)
noncomputable def f_M_spoiledIn_L4 (fu : Nat) : Nat → g_St → Int32 → Int32 → Int32 → Option (Int32)
  | 0, _, _, _, _ => none
  | n + 1, sa, v1, v2, v3 => if (gi sa 0) ≤ v3 then (if (gi sa 0) ≤ 0 then (some (0 : Int32)) else (if v2 = ((gi sa 0) - (1 : Int32)) then (some (1 : Int32)) else (some (0 : Int32)))) else (bd1 (f_M_worthTo sa v1 v3) fun r1 => if r1 ≤ 0 then (lt ((v2 + (0 : Int32))) fun y4 => lt (v3 + (1 : Int32)) fun y5 => f_M_spoiledIn_L4 fu n sa v1 y4 y5) else (lt ((v2 + (1 : Int32))) fun y6 => lt (v3 + (1 : Int32)) fun y7 => f_M_spoiledIn_L4 fu n sa v1 y6 y7))
noncomputable def f_M_spoiledIn (fu : Nat) (sa : g_St) (x1 : Int32) : Option (Int32) :=
  f_M_spoiledIn_L4 fu fu sa x1 (0 : Int32) (0 : Int32)
noncomputable def f_M_brings_L52 (fu : Nat) (k26 : g_St → Int32 → Int32 → Int32 → Int32 → Int32 → Option (Int32)) (sa : g_St) (v1 : Int32) (v2 : Int32) (v3 : Int32) (v5 : Int32) (z0 : Int32) : Option (Int32) :=
  bd1 (f_M_worthTo sa v1 v5) fun r6 => lt ((z0 + r6)) fun y9 => lt (v5 + (1 : Int32)) fun y10 => k26 sa v1 v2 v3 y9 y10
noncomputable def f_M_brings_L26 (fu : Nat) : Nat → g_St → Int32 → Int32 → Int32 → Int32 → Int32 → Option (Int32)
  | 0, _, _, _, _, _, _ => none
  | n + 1, sa, v1, v2, v3, v4, v5 => if (gi sa 0) ≤ v5 then (some v4) else (if v2 = 0 then (if v3 = ((-1) : Int32) then (f_M_brings_L52 fu (f_M_brings_L26 fu n) sa v1 v2 v3 v5 v4) else (if v3 = v5 then (f_M_brings_L52 fu (f_M_brings_L26 fu n) sa v1 v2 v3 v5 v4) else (lt ((v4 + (0 : Int32))) fun y4 => lt (v5 + (1 : Int32)) fun y5 => f_M_brings_L26 fu n sa v1 v2 v3 y4 y5))) else (some v4))
noncomputable def f_M_brings (fu : Nat) (sa : g_St) (x1 : Int32) (x2 : Int32) (x3 : Int32) : Option (Int32) :=
  if x3 = ((-2) : Int32) then (if x2 = 0 then (some (0 : Int32)) else (bd1 (f_M_spoiledIn fu sa x1) fun r1 => some r1)) else (f_M_brings_L26 fu fu sa x1 x2 x3 (0 : Int32) (0 : Int32))
noncomputable def f_M_valueOf_L98 (fu : Nat) (k30 : g_St → Int32 → Int32 → Int32 → Int64 → Int32 → Option (Int64 × g_St)) (k49 : g_St → Int32 → Int32 → Int32 → Int64 → Int32 → Int32 → Int64 → Int32 → Int32 → Option (Int64 × g_St)) (s : g_St) (v1 : Int32) (v2 : Int32) (v3 : Int32) (v4 : Int64) (v6 : Int32) (v7 : Int32) (v8 : Int64) (v10 : Int32) (v11 : Int32) (v12 : Int32) (z0 : Int32) : Option (Int64 × g_St) :=
  bd2 (f_M_goes fu s z0 (7 : Int32) v12) fun r11 s12 => bd1 (f_M_brings fu s12 v12 r11 v1) fun r15 => lt ((v10 + r15)) fun y18 => lt (v11 + (1 : Int32)) fun y19 => k49 s12 v1 v2 v3 v4 v6 v7 v8 y18 y19
noncomputable def f_M_valueOf_L49 (fu : Nat) (k30 : g_St → Int32 → Int32 → Int32 → Int64 → Int32 → Option (Int64 × g_St)) : Nat → g_St → Int32 → Int32 → Int32 → Int64 → Int32 → Int32 → Int64 → Int32 → Int32 → Option (Int64 × g_St)
  | 0, _, _, _, _, _, _, _, _, _, _ => none
  | n + 1, s, v1, v2, v3, v4, v6, v7, v8, v10, v11 => if v2 ≤ v11 then (lt ((v4 + (v8 * (v10.toInt64)))) fun y3 => lt (v6 + (1 : Int32)) fun y4 => k30 s v1 v2 v3 y3 y4) else (gd (¬ (gi s 5) = 0) (lt ((g_rem v7 (gi s 5))) fun y6 => gd (¬ (gi s 5) = 0) (lt ((v7 / (gi s 5))) fun y8 => gd (vp_in y6 8) (lt ((v8 * ((gr s 6 y6.toNatClampNeg).toInt64))) fun y10 => if v11 = 0 then (f_M_valueOf_L98 fu k30 (f_M_valueOf_L49 fu k30 n) s v1 v2 v3 v4 v6 y8 y10 v10 v11 y6 (0 : Int32)) else (f_M_valueOf_L98 fu k30 (f_M_valueOf_L49 fu k30 n) s v1 v2 v3 v4 v6 y8 y10 v10 v11 y6 (7 : Int32))))))
noncomputable def f_M_valueOf_L30 (fu : Nat) : Nat → g_St → Int32 → Int32 → Int32 → Int64 → Int32 → Option (Int64 × g_St)
  | 0, _, _, _, _, _, _ => none
  | n + 1, s, v1, v2, v3, v4, v6 => if v3 ≤ v6 then (some (v4, s)) else (f_M_valueOf_L49 fu (f_M_valueOf_L30 fu n) fu s v1 v2 v3 v4 v6 v6 (1 : Int64) (0 : Int32) (0 : Int32))
noncomputable def f_M_valueOf_L5 (fu : Nat) : Nat → g_St → Int32 → Int32 → Int32 → Int32 → Option (Int64 × g_St)
  | 0, _, _, _, _, _ => none
  | n + 1, s, v1, v2, v3, v4 => if v2 ≤ v4 then (f_M_valueOf_L30 fu fu s v1 v2 v3 (0 : Int64) (0 : Int32)) else (lt ((v3 * (gi s 5))) fun y1 => lt (v4 + (1 : Int32)) fun y2 => f_M_valueOf_L5 fu n s v1 v2 y1 y2)
noncomputable def f_M_valueOf (fu : Nat) (sa : g_St) (x1 : Int32) (x2 : Int32) : Option (Int64 × g_St) :=
  f_M_valueOf_L5 fu fu sa x1 x2 (1 : Int32) (0 : Int32)
noncomputable def f_M_valueSide (fu : Nat) (sa : g_St) (x1 : Int32) (x2 : Int32) (x3 : Int32) : Option (Int64 × g_St) :=
  bd1 (f_M_weightsInAll fu sa) fun r1 => if r1 = 0 then (if x3 = 0 then (some ((0 : Int64), sa)) else (some ((1 : Int64), sa))) else (bd2 (f_M_valueOf fu sa x1 x2) fun r4 s5 => bd1 (f_S_power fu (r1.toInt64) x2) fun r8 => bd1 (f_M_lowest fu s5 r4 r8) fun s11 => if x3 = 0 then (some ((gj s11 32), s11)) else (some ((gj s11 33), s11)))
noncomputable def f_M_value (fu : Nat) (sa : g_St) (x1 : Int32) (x2 : Int32) (x3 : Int32) : Option (Int64 × g_St) :=
  if (f_M_isPerson sa x1) = 0 then (some (((-1000000000000) : Int64), sa)) else (if (f_S_in x2 (0 : Int32) (3 : Int32)) = 0 then (some (((-1000000000000) : Int64), sa)) else (if (f_S_isSide x3) = 0 then (some (((-1000000000000) : Int64), sa)) else (bd2 (f_M_valueSide fu sa x1 x2 x3) fun r4 s5 => some (r4, s5))))
noncomputable def f_M_spoilt (fu : Nat) (sa : g_St) (x1 : Int32) (x2 : Int32) : Option (Int64 × g_St) :=
  if (f_S_in x1 (0 : Int32) (3 : Int32)) = 0 then (some (((-1) : Int64), sa)) else (if (f_S_isSide x2) = 0 then (some (((-1) : Int64), sa)) else (bd2 (f_M_valueSide fu sa ((-2) : Int32) x1 x2) fun r3 s4 => some (r3, s4)))
noncomputable def f_M_hasNow (fu : Nat) (sa : g_St) (x1 : Int32) (x2 : Int32) (x3 : Int32) (x4 : Int32) : Option (Int64 × g_St) :=
  lt (si sa 29 x1) fun s1 => lt (si s1 30 x4) fun s2 => bd2 (f_M_goes fu s2 x2 (x2 + (7 : Int32)) x3) fun r3 s4 => lt (si s4 29 ((-1) : Int32)) fun s7 => if r3 = 0 then (bd1 (f_M_worthTo s7 x3 x1) fun r8 => some ((r8.toInt64), s7)) else (some ((0 : Int64), s7))
noncomputable def f_M_bestOne_L5 (fu : Nat) : Nat → g_St → Int32 → Int32 → Int64 → Int32 → Option (Int64 × g_St)
  | 0, _, _, _, _, _ => none
  | n + 1, s, v1, v2, v3, v5 => if (gi s 5) ≤ v5 then (some (v3, s)) else (bd2 (f_M_hasNow fu s v1 v2 v5 (1 : Int32)) fun r1 s2 => bd2 (f_M_hasNow fu s2 v1 v2 v5 (0 : Int32)) fun r5 s6 => gd (vp_in v5 8) (if (lg_cmp r1 r5) ≤ 0 then (lt ((v3 + (((gr s6 6 v5.toNatClampNeg).toInt64) * r5))) fun y10 => lt (v5 + (1 : Int32)) fun y11 => f_M_bestOne_L5 fu n s6 v1 v2 y10 y11) else (lt ((v3 + (((gr s6 6 v5.toNatClampNeg).toInt64) * r1))) fun y12 => lt (v5 + (1 : Int32)) fun y13 => f_M_bestOne_L5 fu n s6 v1 v2 y12 y13)))
noncomputable def f_M_bestOne (fu : Nat) (sa : g_St) (x1 : Int32) (x2 : Int32) : Option (Int64 × g_St) :=
  f_M_bestOne_L5 fu fu sa x1 x2 (0 : Int64) (0 : Int32)
noncomputable def f_M_bestTwo_L6 (fu : Nat) : Nat → g_St → Int32 → Int32 → Int32 → Int64 → Int32 → Option (Int64 × g_St)
  | 0, _, _, _, _, _, _ => none
  | n + 1, s, v1, v2, v3, v4, v6 => if (gi s 5) ≤ v6 then (some (v4, s)) else (bd2 (f_M_hasNow fu s v1 v2 v6 (1 : Int32)) fun r1 s2 => lt ((r1 * (v3.toInt64))) fun y5 => bd2 (f_M_bestOne fu s2 v1 (v2 + (7 : Int32))) fun r6 s7 => lt ((y5 + r6)) fun y10 => bd2 (f_M_hasNow fu s7 v1 v2 v6 (0 : Int32)) fun r11 s12 => lt ((r11 * (v3.toInt64))) fun y15 => bd2 (f_M_bestOne fu s12 v1 (v2 + (7 : Int32))) fun r16 s17 => lt ((y15 + r16)) fun y20 => gd (vp_in v6 8) (if (lg_cmp y10 y20) ≤ 0 then (lt ((v4 + (((gr s17 6 v6.toNatClampNeg).toInt64) * y20))) fun y22 => lt (v6 + (1 : Int32)) fun y23 => f_M_bestTwo_L6 fu n s17 v1 v2 v3 y22 y23) else (lt ((v4 + (((gr s17 6 v6.toNatClampNeg).toInt64) * y10))) fun y24 => lt (v6 + (1 : Int32)) fun y25 => f_M_bestTwo_L6 fu n s17 v1 v2 v3 y24 y25)))
noncomputable def f_M_bestTwo (fu : Nat) (sa : g_St) (x1 : Int32) (x2 : Int32) (x3 : Int32) : Option (Int64 × g_St) :=
  f_M_bestTwo_L6 fu fu sa x1 x2 x3 (0 : Int64) (0 : Int32)
noncomputable def f_M_bestThree_L6 (fu : Nat) : Nat → g_St → Int32 → Int32 → Int32 → Int64 → Int32 → Option (Int64 × g_St)
  | 0, _, _, _, _, _, _ => none
  | n + 1, s, v1, v2, v3, v4, v6 => if (gi s 5) ≤ v6 then (some (v4, s)) else (bd2 (f_M_hasNow fu s v1 v2 v6 (1 : Int32)) fun r1 s2 => lt (((r1 * (v3.toInt64)) * (v3.toInt64))) fun y5 => bd2 (f_M_bestTwo fu s2 v1 (v2 + (7 : Int32)) v3) fun r6 s7 => lt ((y5 + r6)) fun y10 => bd2 (f_M_hasNow fu s7 v1 v2 v6 (0 : Int32)) fun r11 s12 => lt (((r11 * (v3.toInt64)) * (v3.toInt64))) fun y15 => bd2 (f_M_bestTwo fu s12 v1 (v2 + (7 : Int32)) v3) fun r16 s17 => lt ((y15 + r16)) fun y20 => gd (vp_in v6 8) (if (lg_cmp y10 y20) ≤ 0 then (lt ((v4 + (((gr s17 6 v6.toNatClampNeg).toInt64) * y20))) fun y22 => lt (v6 + (1 : Int32)) fun y23 => f_M_bestThree_L6 fu n s17 v1 v2 v3 y22 y23) else (lt ((v4 + (((gr s17 6 v6.toNatClampNeg).toInt64) * y10))) fun y24 => lt (v6 + (1 : Int32)) fun y25 => f_M_bestThree_L6 fu n s17 v1 v2 v3 y24 y25)))
noncomputable def f_M_bestThree (fu : Nat) (sa : g_St) (x1 : Int32) (x2 : Int32) (x3 : Int32) : Option (Int64 × g_St) :=
  f_M_bestThree_L6 fu fu sa x1 x2 x3 (0 : Int64) (0 : Int32)
noncomputable def f_M_bestBy (fu : Nat) (sa : g_St) (x1 : Int32) (x2 : Int32) (x3 : Int32) (x4 : Int32) : Option (Int64 × g_St) :=
  if x3 = 0 then (some ((0 : Int64), sa)) else (if x4 = 0 then (some ((0 : Int64), sa)) else (if x3 = (1 : Int32) then (bd2 (f_M_bestOne fu sa x1 x2) fun r9 s10 => some (r9, s10)) else (if x3 = (2 : Int32) then (bd2 (f_M_bestTwo fu sa x1 x2 x4) fun r5 s6 => some (r5, s6)) else (bd2 (f_M_bestThree fu sa x1 x2 x4) fun r1 s2 => some (r1, s2)))))
noncomputable def f_M_best (fu : Nat) (sa : g_St) (x1 : Int32) (x2 : Int32) (x3 : Int32) : Option (Int64 × g_St) :=
  if (f_M_isPerson sa x1) = 0 then (some (((-1000000000000) : Int64), sa)) else (if (f_S_in x2 (0 : Int32) (3 : Int32)) = 0 then (some (((-1000000000000) : Int64), sa)) else (if (f_S_isSide x3) = 0 then (some (((-1000000000000) : Int64), sa)) else (bd1 (f_M_weightsInAll fu sa) fun r4 => if r4 = 0 then (if x3 = 0 then (some ((0 : Int64), sa)) else (some ((1 : Int64), sa))) else (bd2 (f_M_bestBy fu sa x1 (0 : Int32) x2 r4) fun r7 s8 => bd1 (f_S_power fu (r4.toInt64) x2) fun r11 => bd1 (f_M_lowest fu s8 r7 r11) fun s14 => if x3 = 0 then (some ((gj s14 32), s14)) else (some ((gj s14 33), s14))))))
noncomputable def f_M_should_L61 (fu : Nat) (s : g_St) (v1 : Int32) (v2 : Int32) (v3 : Int32) (v4 : Int32) (z0 : Int64) : Option (Int32 × g_St) :=
  bd2 (f_M_hasNow fu s v1 (0 : Int32) v2 (1 : Int32)) fun r11 s12 => lt ((r11 * z0)) fun y15 => bd2 (f_M_bestBy fu s12 v1 (7 : Int32) v3 v4) fun r16 s17 => lt ((y15 + r16)) fun y20 => bd2 (f_M_hasNow fu s17 v1 (0 : Int32) v2 (0 : Int32)) fun r21 s22 => lt ((r21 * z0)) fun y25 => bd2 (f_M_bestBy fu s22 v1 (7 : Int32) v3 v4) fun r26 s27 => lt ((y25 + r26)) fun y30 => if (lg_cmp y20 y30) ≤ 0 then (some ((0 : Int32), s27)) else (some ((1 : Int32), s27))
noncomputable def f_M_should (fu : Nat) (sa : g_St) (x1 : Int32) (x2 : Int32) (x3 : Int32) : Option (Int32 × g_St) :=
  if (f_M_isPerson sa x1) = 0 then (some (((-1) : Int32), sa)) else (if (f_M_isProposal sa x2) = 0 then (some (((-1) : Int32), sa)) else (if (f_S_in x3 (0 : Int32) (2 : Int32)) = 0 then (some (((-1) : Int32), sa)) else (gd (vp_in x1 35) (if (gr sa 11 x1.toNatClampNeg) = 0 then (some (((-3) : Int32), sa)) else (bd1 (f_M_weightsInAll fu sa) fun r5 => if r5 = 0 then (f_M_should_L61 fu sa x1 x2 x3 r5 (1 : Int64)) else (bd1 (f_S_power fu (r5.toInt64) x3) fun r8 => f_M_should_L61 fu sa x1 x2 x3 r5 r8))))))
noncomputable def f_M_barOf_L82 (fu : Nat) (k50 : g_St → Int32 → Int32 → Int32 → Int32 → Int32 → Int64 → Int32 → Option (Int32 × g_St)) (s : g_St) (v1 : Int32) (v2 : Int32) (v3 : Int32) (v4 : Int32) (v5 : Int32) (v6 : Int64) (v8 : Int32) (z0 : Int64) : Option (Int32 × g_St) :=
  if v8 = 0 then (lt (v8 + (1 : Int32)) fun y22 => k50 s v1 v2 v3 v4 v8 z0 y22) else (if (lg_cmp z0 v6) ≤ 0 then (lt (v8 + (1 : Int32)) fun y23 => k50 s v1 v2 v3 v4 v5 v6 y23) else (lt (v8 + (1 : Int32)) fun y24 => k50 s v1 v2 v3 v4 v8 z0 y24))
noncomputable def f_M_barOf_L50 (fu : Nat) : Nat → g_St → Int32 → Int32 → Int32 → Int32 → Int32 → Int64 → Int32 → Option (Int32 × g_St)
  | 0, _, _, _, _, _, _, _, _ => none
  | n + 1, s, v1, v2, v3, v4, v5, v6, v8 => if (10 : Int32) ≤ v8 then (gd (vp_in v1 6) (lt (sr s 1 v1 v3) fun s10 => gd (vp_in v1 6) (lt (sr s10 2 v1 v4) fun s12 => some (v5, s12)))) else (gd (vp_in v1 6) (lt (sr s 2 v1 v8) fun s14 => bd1 (f_M_weightsInAll fu s14) fun r15 => if r15 = 0 then (f_M_barOf_L82 fu (f_M_barOf_L50 fu n) s14 v1 v2 v3 v4 v5 v6 v8 (0 : Int64)) else (bd2 (f_M_valueOf fu s14 v1 v2) fun r18 s19 => f_M_barOf_L82 fu (f_M_barOf_L50 fu n) s19 v1 v2 v3 v4 v5 v6 v8 r18)))
noncomputable def f_M_barOf (fu : Nat) (sa : g_St) (x1 : Int32) (x2 : Int32) : Option (Int32 × g_St) :=
  if (f_M_isPerson sa x1) = 0 then (some (((-1) : Int32), sa)) else (if (f_S_in x2 (1 : Int32) (2 : Int32)) = 0 then (some (((-1) : Int32), sa)) else (gd (vp_in x1 6) (lt ((gr sa 1 x1.toNatClampNeg)) fun y4 => gd (vp_in x1 6) (lt ((gr sa 2 x1.toNatClampNeg)) fun y6 => gd (vp_in x1 6) (lt (sr sa 1 x1 (2 : Int32)) fun s8 => f_M_barOf_L50 fu fu s8 x1 x2 y4 y6 (0 : Int32) (0 : Int64) (0 : Int32))))))
noncomputable def f_M_passes_L36 (fu : Nat) : Nat → g_St → Int32 → Int32 → Int32 → Int32 → Int32 → Int32 → Option (Int32 × g_St)
  | 0, _, _, _, _, _, _, _ => none
  | n + 1, s, v1, v2, v4, v5, v6, v7 => if v2 ≤ v7 then (bd2 (f_M_goes fu s v6 (7 : Int32) v1) fun r3 s4 => if r3 = 0 then (some ((1 : Int32), s4)) else (some ((0 : Int32), s4))) else (gd (¬ v4 = 0) (bd2 (f_M_goes fu s v6 (7 : Int32) (v5 / v4)) fun r8 s9 => gd (¬ v4 = 0) (lt ((g_rem v5 v4)) fun y13 => if v4 ≤ (1 : Int32) then (lt (v7 + (1 : Int32)) fun y14 => f_M_passes_L36 fu n s9 v1 v2 (1 : Int32) y13 (7 : Int32) y14) else (gd (¬ (gi s9 5) = 0) (lt ((v4 / (gi s9 5))) fun y16 => lt (v7 + (1 : Int32)) fun y17 => f_M_passes_L36 fu n s9 v1 v2 y16 y13 (7 : Int32) y17)))))
noncomputable def f_M_passes_L6 (fu : Nat) : Nat → g_St → Int32 → Int32 → Int32 → Int32 → Int32 → Option (Int32 × g_St)
  | 0, _, _, _, _, _, _ => none
  | n + 1, s, v1, v2, v3, v4, v5 => if v2 ≤ v5 then (f_M_passes_L36 fu fu s v1 v2 v4 v3 (0 : Int32) (0 : Int32)) else (lt ((v4 * (gi s 5))) fun y1 => lt (v5 + (1 : Int32)) fun y2 => f_M_passes_L6 fu n s v1 v2 v3 y1 y2)
noncomputable def f_M_passes (fu : Nat) (sa : g_St) (x1 : Int32) (x2 : Int32) (x3 : Int32) : Option (Int32 × g_St) :=
  f_M_passes_L6 fu fu sa x1 x2 x3 (1 : Int32) (1 : Int32)
noncomputable def f_M_digitsOf_L10 (fu : Nat) : Nat → g_St → Int32 → Int32 → Int32 → Option (Int32)
  | 0, _, _, _, _ => none
  | n + 1, sa, v3, v4, v5 => if v5 < 0 then (some v3) else (gd (¬ (gi sa 5) = 0) (lt ((v3 ||| (g_shl (g_rem v4 (gi sa 5)) ((3 : Int32) * v5)))) fun y3 => gd (¬ (gi sa 5) = 0) (lt ((v4 / (gi sa 5))) fun y5 => lt (v5 + ((-1) : Int32)) fun y6 => f_M_digitsOf_L10 fu n sa y3 y5 y6)))
noncomputable def f_M_digitsOf (fu : Nat) (sa : g_St) (x1 : Int32) (x2 : Int32) : Option (Int32) :=
  lt ((x1 - (1 : Int32))) fun y1 => f_M_digitsOf_L10 fu fu sa (0 : Int32) x2 y1
noncomputable def f_M_lets_L31 (fu : Nat) (k22 : g_St → Int32 → Int32 → Int32 → Int32 → Option (Int32 × g_St)) : Nat → g_St → Int32 → Int32 → Int32 → Int32 → Int32 → Option (Int32 × g_St)
  | 0, _, _, _, _, _, _ => none
  | n + 1, s, v1, v2, v3, v4, v5 => if v3 ≤ v5 then (lt ((v3 * (gi s 5))) fun y3 => lt (v4 + (1 : Int32)) fun y4 => k22 s v1 v2 y3 y4) else (bd2 (f_M_passes fu s v1 v4 v5) fun r5 s6 => if r5 = 0 then (lt (v5 + (1 : Int32)) fun y9 => f_M_lets_L31 fu k22 n s6 v1 v2 v3 v4 y9) else (if v2 = 0 then (some (v4, s6)) else (bd1 (f_M_digitsOf fu s6 v4 v5) fun r10 => some (r10, s6))))
noncomputable def f_M_lets_L22 (fu : Nat) : Nat → g_St → Int32 → Int32 → Int32 → Int32 → Option (Int32 × g_St)
  | 0, _, _, _, _, _ => none
  | n + 1, s, v1, v2, v3, v4 => if (4 : Int32) ≤ v4 then (some (((-3) : Int32), s)) else (f_M_lets_L31 fu (f_M_lets_L22 fu n) fu s v1 v2 v3 v4 (0 : Int32))
noncomputable def f_M_lets (fu : Nat) (sa : g_St) (x1 : Int32) (x2 : Int32) : Option (Int32 × g_St) :=
  if (f_M_isProposal sa x1) = 0 then (some (((-1) : Int32), sa)) else (if (f_S_isSide x2) = 0 then (some (((-1) : Int32), sa)) else (f_M_lets_L22 fu fu sa x1 x2 (1 : Int32) (0 : Int32)))
noncomputable def f_M_harm_L97 (fu : Nat) (k34 : g_St → Int32 → Int32 → Int32 → Int32 → Int64 → Int32 → Option (Int32 × g_St)) (k43 : g_St → Int32 → Int32 → Int32 → Int32 → Int64 → Int32 → Int32 → Option (Int32 × g_St)) (s : g_St) (v1 : Int32) (v2 : Int32) (v3 : Int32) (v7 : Int32) (v8 : Int32) (v9 : Int64) : Option (Int32 × g_St) :=
  lt ((((10 : Int32) * v7) + v8)) fun y17 => lt (v8 + (1 : Int32)) fun y18 => k43 s v1 v2 v3 y17 v9 v7 y18
noncomputable def f_M_harm_L82 (fu : Nat) (k34 : g_St → Int32 → Int32 → Int32 → Int32 → Int64 → Int32 → Option (Int32 × g_St)) (k43 : g_St → Int32 → Int32 → Int32 → Int32 → Int64 → Int32 → Int32 → Option (Int32 × g_St)) (s : g_St) (v1 : Int32) (v2 : Int32) (v3 : Int32) (v4 : Int32) (v5 : Int64) (v7 : Int32) (v8 : Int32) (z0 : Int64) : Option (Int32 × g_St) :=
  if v4 = 0 then (f_M_harm_L97 fu k34 k43 s v1 v2 v3 v7 v8 z0) else (if (lg_cmp z0 v5) ≤ 0 then (lt (v8 + (1 : Int32)) fun y16 => k43 s v1 v2 v3 v4 v5 v7 y16) else (f_M_harm_L97 fu k34 k43 s v1 v2 v3 v7 v8 z0))
noncomputable def f_M_harm_L43 (fu : Nat) (k34 : g_St → Int32 → Int32 → Int32 → Int32 → Int64 → Int32 → Option (Int32 × g_St)) : Nat → g_St → Int32 → Int32 → Int32 → Int32 → Int64 → Int32 → Int32 → Option (Int32 × g_St)
  | 0, _, _, _, _, _, _, _, _ => none
  | n + 1, s, v1, v2, v3, v4, v5, v7, v8 => if (4 : Int32) ≤ v8 then (lt (v7 + (1 : Int32)) fun y6 => k34 s v1 v2 v3 v4 v5 y6) else (lt (sr s 8 (0 : Int32) v8) fun s7 => lt (sr s7 8 (1 : Int32) v7) fun s8 => bd1 (f_M_weightsInAll fu s8) fun r9 => if r9 = 0 then (f_M_harm_L82 fu k34 (f_M_harm_L43 fu k34 n) s8 v1 v2 v3 v4 v5 v7 v8 (0 : Int64)) else (bd2 (f_M_valueOf fu s8 ((-1) : Int32) v1) fun r12 s13 => f_M_harm_L82 fu k34 (f_M_harm_L43 fu k34 n) s13 v1 v2 v3 v4 v5 v7 v8 r12))
noncomputable def f_M_harm_L34 (fu : Nat) : Nat → g_St → Int32 → Int32 → Int32 → Int32 → Int64 → Int32 → Option (Int32 × g_St)
  | 0, _, _, _, _, _, _, _ => none
  | n + 1, s, v1, v2, v3, v4, v5, v7 => if (2 : Int32) ≤ v7 then (lt (sr s 8 (0 : Int32) v2) fun s4 => lt (sr s4 8 (1 : Int32) v3) fun s5 => some (v4, s5)) else (f_M_harm_L43 fu (f_M_harm_L34 fu n) fu s v1 v2 v3 v4 v5 v7 (1 : Int32))
noncomputable def f_M_harm (fu : Nat) (sa : g_St) (x1 : Int32) : Option (Int32 × g_St) :=
  if (f_S_in x1 (1 : Int32) (2 : Int32)) = 0 then (some (((-1) : Int32), sa)) else (lt ((gr sa 8 (0 : Int32).toNatClampNeg)) fun y2 => lt ((gr sa 8 (1 : Int32).toNatClampNeg)) fun y3 => f_M_harm_L34 fu fu sa x1 y2 y3 (0 : Int32) (0 : Int64) (0 : Int32))
noncomputable def f_M_findRows_L39 (fu : Nat) (k8 : g_St → Int32 → Int32 → Int32 → Int32 → Option (g_St)) (s : g_St) (v1 : Int32) (v2 : Int32) (v3 : Int32) (v4 : Int32) (v5 : Int32) (z0 : Int32) : Option (g_St) :=
  bd2 (f_M_goes fu s z0 (7 : Int32) v5) fun r7 s8 => gd (vp_in ((3 : Int32) * v4) 36) (lt (sr s8 35 ((3 : Int32) * v4) v5) fun s12 => lt ((gi s12 31)) fun y13 => gd (vp_in (((3 : Int32) * v4) + (1 : Int32)) 36) (lt (sr s12 35 (((3 : Int32) * v4) + (1 : Int32)) y13) fun s15 => if r7 = 0 then (gd (vp_in (((3 : Int32) * v4) + (2 : Int32)) 36) (lt (sr s15 35 (((3 : Int32) * v4) + (2 : Int32)) (0 : Int32)) fun s17 => lt (v4 + (1 : Int32)) fun y18 => k8 s17 v1 v2 v3 y18)) else (gd (vp_in (((3 : Int32) * v4) + (2 : Int32)) 36) (lt (sr s15 35 (((3 : Int32) * v4) + (2 : Int32)) (1 : Int32)) fun s20 => lt (v4 + (1 : Int32)) fun y21 => k8 s20 v1 v2 v3 y21))))
noncomputable def f_M_findRows_L8 (fu : Nat) : Nat → g_St → Int32 → Int32 → Int32 → Int32 → Option (g_St)
  | 0, _, _, _, _, _ => none
  | n + 1, s, v1, v2, v3, v4 => if v1 ≤ v4 then (some s) else (lt ((f_S_next v3)) fun y3 => bd1 (f_M_lotOf fu s y3 v2) fun r4 => if v4 = 0 then (f_M_findRows_L39 fu (f_M_findRows_L8 fu n) s v1 v2 y3 v4 r4 (0 : Int32)) else (f_M_findRows_L39 fu (f_M_findRows_L8 fu n) s v1 v2 y3 v4 r4 (7 : Int32)))
noncomputable def f_M_findRows (fu : Nat) (sa : g_St) (x1 : Int32) (x2 : Int32) : Option (g_St) :=
  lt ((gi sa 14)) fun y1 => f_M_findRows_L8 fu fu sa x1 x2 y1 (0 : Int32)
noncomputable def f_M_prove_L37 (fu : Nat) : Nat → g_St → Int32 → Int32 → Option (Int32 × g_St)
  | 0, _, _, _ => none
  | n + 1, s, v1, v3 => if ((3 : Int32) * v1) ≤ v3 then (some ((gi s 36), s)) else (gd (vp_in v3 36) (lt ((gr s 35 v3.toNatClampNeg)) fun y10 => gd (vp_in v3 36) (lt (sr s 34 v3 y10) fun s12 => lt (v3 + (1 : Int32)) fun y13 => f_M_prove_L37 fu n s12 v1 y13)))
noncomputable def f_M_prove (fu : Nat) (sa : g_St) (x1 : Int32) : Option (Int32 × g_St) :=
  if (f_S_in x1 (1 : Int32) (12 : Int32)) = 0 then (some (((-1) : Int32), sa)) else (bd1 (f_M_weightsInAll fu sa) fun r2 => if r2 = 0 then (some (((-3) : Int32), sa)) else (bd1 (f_M_findRows fu sa x1 r2) fun s5 => lt (si s5 36 x1) fun s8 => f_M_prove_L37 fu fu s8 x1 (0 : Int32)))
def f_M_isRow (sa : g_St) (x1 : Int32) (x2 : Int32) : Int32 :=
  if (f_S_in x1 (0 : Int32) ((gi sa 36) - (1 : Int32))) = 0 then ((0 : Int32)) else (if (f_S_in x2 (0 : Int32) (2 : Int32)) = 0 then ((0 : Int32)) else ((1 : Int32)))
noncomputable def f_M_row (sa : g_St) (x1 : Int32) (x2 : Int32) : Option (Int32) :=
  if (f_M_isRow sa x1 x2) = 0 then (some ((-9) : Int32)) else (gd (vp_in (((3 : Int32) * x1) + x2) 36) (some (gr sa 34 (((3 : Int32) * x1) + x2).toNatClampNeg)))
noncomputable def f_M_alterRow (sa : g_St) (x1 : Int32) (x2 : Int32) (x3 : Int32) : Option (Int32 × g_St) :=
  if (f_M_isRow sa x1 x2) = 0 then (some (((-9) : Int32), sa)) else (gd (vp_in (((3 : Int32) * x1) + x2) 36) (lt ((gr sa 34 (((3 : Int32) * x1) + x2).toNatClampNeg)) fun y3 => gd (vp_in (((3 : Int32) * x1) + x2) 36) (lt (sr sa 34 (((3 : Int32) * x1) + x2) x3) fun s5 => some (y3, s5))))
noncomputable def f_M_judge_L23 (fu : Nat) : Nat → g_St → Int32 → Option (Int32 × g_St)
  | 0, _, _ => none
  | n + 1, s, v2 => if ((3 : Int32) * (gi s 36)) ≤ v2 then (some ((0 : Int32), s)) else (gd (vp_in v2 36) (gd (vp_in v2 36) (if (gr s 34 v2.toNatClampNeg) = (gr s 35 v2.toNatClampNeg) then (lt (v2 + (1 : Int32)) fun y9 => f_M_judge_L23 fu n s y9) else (some (((v2 / (3 : Int32)) + (1 : Int32)), s)))))
noncomputable def f_M_judge (fu : Nat) (sa : g_St) : Option (Int32 × g_St) :=
  bd1 (f_M_weightsInAll fu sa) fun r1 => if r1 = 0 then (some (((-3) : Int32), sa)) else (bd1 (f_M_findRows fu sa (gi sa 36) r1) fun s4 => f_M_judge_L23 fu fu s4 (0 : Int32))
def f_S_isShelf (x0 : Int32) : Int32 :=
  (f_S_in x0 (0 : Int32) (3 : Int32))
noncomputable def f_M_lacksSort (sa : g_St) (x1 : Int32) (x2 : Int32) : Option (Int32) :=
  gd (vp_in x1 4) (if 0 ≤ (gr sa 37 x1.toNatClampNeg) then (gd (vp_in x1 4) (if (gr sa 37 x1.toNatClampNeg) = x2 then (some (0 : Int32)) else (some ((-13) : Int32)))) else (some ((-11) : Int32)))
noncomputable def f_M_worths_L61 (fu : Nat) : Nat → g_St → Int32 → Int32 → Int32 → Int32 → Option (Int32 × g_St)
  | 0, _, _, _, _, _ => none
  | n + 1, s, v1, v2, v4, v5 => if v4 ≤ v5 then (some (v4, s)) else (gd (vp_in (((40 : Int32) * v2) + v5) 160) (lt ((gt s 39 (((40 : Int32) * v2) + v5).toNatClampNeg)) fun y11 => if 0 ≤ (lg_cmp y11 ((-9) : Int64)) then (if (lg_cmp y11 (9 : Int64)) ≤ 0 then (lt ((y11.toInt32)) fun y12 => gd (vp_in (((6 : Int32) * v1) + v5) 48) (lt (sr s 7 (((6 : Int32) * v1) + v5) y12) fun s14 => lt (v5 + (1 : Int32)) fun y15 => f_M_worths_L61 fu n s14 v1 v2 v4 y15)) else (gd (vp_in (((6 : Int32) * v1) + v5) 48) (lt (sr s 7 (((6 : Int32) * v1) + v5) (9 : Int32)) fun s17 => lt (v5 + (1 : Int32)) fun y18 => f_M_worths_L61 fu n s17 v1 v2 v4 y18))) else (gd (vp_in (((6 : Int32) * v1) + v5) 48) (lt (sr s 7 (((6 : Int32) * v1) + v5) ((-9) : Int32)) fun s20 => lt (v5 + (1 : Int32)) fun y21 => f_M_worths_L61 fu n s20 v1 v2 v4 y21))))
noncomputable def f_M_worths (fu : Nat) (sa : g_St) (x1 : Int32) (x2 : Int32) : Option (Int32 × g_St) :=
  if (f_M_isProposal sa x1) = 0 then (some (((-1) : Int32), sa)) else (if (f_S_isShelf x2) = 0 then (some (((-1) : Int32), sa)) else (bd1 (f_M_lacksSort sa x2 (2 : Int32)) fun r3 => if r3 = 0 then (gd (vp_in x2 4) (if (gi sa 0) ≤ (gr sa 38 x2.toNatClampNeg) then (lt ((gi sa 0)) fun y7 => f_M_worths_L61 fu fu sa x1 x2 y7 (0 : Int32)) else (gd (vp_in x2 4) (lt ((gr sa 38 x2.toNatClampNeg)) fun y9 => f_M_worths_L61 fu fu sa x1 x2 y9 (0 : Int32))))) else (some (r3, sa))))
noncomputable def f_M_sheet_L64 (fu : Nat) : Nat → g_St → Int32 → Int32 → Option (Int32 × g_St)
  | 0, _, _, _ => none
  | n + 1, s, v1, v4 => if (40 : Int32) ≤ v4 then (some ((1 : Int32), s)) else (gd (vp_in (((40 : Int32) * v1) + v4) 160) (lt (st s 39 (((40 : Int32) * v1) + v4) (0 : Int64)) fun s10 => lt (v4 + (1 : Int32)) fun y11 => f_M_sheet_L64 fu n s10 v1 y11))
noncomputable def f_M_sheet_L39 (fu : Nat) (s : g_St) (v1 : Int32) (v2 : Int32) (v3 : Int32) : Option (Int32 × g_St) :=
  gd (vp_in v1 4) (lt (sr s 37 v1 v2) fun s4 => if 0 ≤ v2 then (gd (vp_in v1 4) (lt (sr s4 38 v1 v3) fun s6 => f_M_sheet_L64 fu fu s6 v1 (0 : Int32))) else (gd (vp_in v1 4) (lt (sr s4 38 v1 (0 : Int32)) fun s8 => f_M_sheet_L64 fu fu s8 v1 (0 : Int32))))
noncomputable def f_M_sheet (fu : Nat) (sa : g_St) (x1 : Int32) (x2 : Int32) (x3 : Int32) : Option (Int32 × g_St) :=
  if (f_S_isShelf x1) = 0 then (some (((-1) : Int32), sa)) else (if (f_S_in x2 ((-1) : Int32) (3 : Int32)) = 0 then (some (((-1) : Int32), sa)) else (if x2 < 0 then (if x2 < 0 then (f_M_sheet_L39 fu sa x1 x2 x3) else (if 0 ≤ x3 then (f_M_sheet_L39 fu sa x1 x2 x3) else (some (((-14) : Int32), sa)))) else (if x3 ≤ (40 : Int32) then (if x2 < 0 then (f_M_sheet_L39 fu sa x1 x2 x3) else (if 0 ≤ x3 then (f_M_sheet_L39 fu sa x1 x2 x3) else (some (((-14) : Int32), sa)))) else (some (((-1) : Int32), sa)))))
noncomputable def f_M_put (sa : g_St) (x1 : Int32) (x2 : Int32) (x3 : Int32) : Option (Int32 × g_St) :=
  if (f_S_isShelf x1) = 0 then (some (((-1) : Int32), sa)) else (gd (vp_in x1 4) (if 0 ≤ (gr sa 37 x1.toNatClampNeg) then (gd (vp_in x1 4) (if (f_S_in x2 (0 : Int32) ((gr sa 38 x1.toNatClampNeg) - (1 : Int32))) = 0 then (some (((-12) : Int32), sa)) else (gd (vp_in x1 4) (if (gr sa 37 x1.toNatClampNeg) = 0 then (lt (((x3.toInt8.toInt32).toInt64)) fun y13 => gd (vp_in (((40 : Int32) * x1) + x2) 160) (lt (st sa 39 (((40 : Int32) * x1) + x2) y13) fun s15 => some ((1 : Int32), s15))) else (gd (vp_in x1 4) (if (gr sa 37 x1.toNatClampNeg) = (1 : Int32) then (lt (((x3.toInt16.toInt32).toInt64)) fun y10 => gd (vp_in (((40 : Int32) * x1) + x2) 160) (lt (st sa 39 (((40 : Int32) * x1) + x2) y10) fun s12 => some ((1 : Int32), s12))) else (lt ((x3.toInt64)) fun y7 => gd (vp_in (((40 : Int32) * x1) + x2) 160) (lt (st sa 39 (((40 : Int32) * x1) + x2) y7) fun s9 => some ((1 : Int32), s9))))))))) else (some (((-11) : Int32), sa))))
noncomputable def f_M_item (sa : g_St) (x1 : Int32) (x2 : Int32) (x3 : Int32) : Option (Int32) :=
  if (f_S_isShelf x1) = 0 then (some ((-1) : Int32)) else (if (f_S_in x2 (0 : Int32) (3 : Int32)) = 0 then (some ((-1) : Int32)) else (bd1 (f_M_lacksSort sa x1 x2) fun r3 => if r3 = 0 then (gd (vp_in x1 4) (if (f_S_in x3 (0 : Int32) ((gr sa 38 x1.toNatClampNeg) - (1 : Int32))) = 0 then (some ((-12) : Int32)) else (gd (vp_in (((40 : Int32) * x1) + x3) 160) (some ((gt sa 39 (((40 : Int32) * x1) + x3).toNatClampNeg).toInt32))))) else (some r3)))
def f_M_isHeld (sa : g_St) (x1 : Int32) (x2 : Int32) : Int32 :=
  if x1 = 0 then ((f_M_isPerson sa x2)) else (if x1 = (1 : Int32) then ((f_S_isShelf x2)) else (if x1 = (2 : Int32) then ((1 : Int32)) else ((0 : Int32))))
noncomputable def f_M_shelf_L68 (s : g_St) (v1 : Int32) (v2 : Int32) (v3 : Int32) (z0 : Int32) (z1 : Int32) : Option (Int32 × g_St) :=
  gd (vp_in z1 4) (lt (sr s 41 z1 z0) fun s8 => if v2 = (1 : Int32) then (gd (vp_in v3 4) (lt ((gr s8 38 v3.toNatClampNeg)) fun y12 => gd (vp_in v1 4) (lt (sr s8 42 v1 y12) fun s14 => some ((1 : Int32), s14)))) else (gd (vp_in v1 4) (lt (sr s8 42 v1 (0 : Int32)) fun s10 => some ((1 : Int32), s10))))
noncomputable def f_M_shelf_L47 (s : g_St) (v1 : Int32) (v2 : Int32) (v3 : Int32) (z0 : Int32) (z1 : Int32) : Option (Int32 × g_St) :=
  gd (vp_in z1 4) (lt (sr s 40 z1 z0) fun s5 => if v2 = (1 : Int32) then (gd (vp_in v3 4) (f_M_shelf_L68 s5 v1 v2 v3 (gr s5 37 v3.toNatClampNeg) v1)) else (f_M_shelf_L68 s5 v1 v2 v3 v3 v1))
noncomputable def f_M_shelf (sa : g_St) (x1 : Int32) (x2 : Int32) (x3 : Int32) : Option (Int32 × g_St) :=
  if (f_S_isShelf x1) = 0 then (some (((-1) : Int32), sa)) else (if (f_M_isHeld sa x2 x3) = 0 then (some (((-1) : Int32), sa)) else (if x2 = (2 : Int32) then (f_M_shelf_L47 sa x1 x2 x3 ((-1) : Int32) x1) else (if x2 = (1 : Int32) then (gd (vp_in x3 4) (if 0 ≤ (gr sa 37 x3.toNatClampNeg) then (f_M_shelf_L47 sa x1 x2 x3 x2 x1) else (f_M_shelf_L47 sa x1 x2 x3 ((-1) : Int32) x1))) else (f_M_shelf_L47 sa x1 x2 x3 x2 x1))))
noncomputable def f_M_kindOn (sa : g_St) (x1 : Int32) : Option (Int32) :=
  gd (vp_in x1 4) (if (gr sa 40 x1.toNatClampNeg) = 0 then (gd (vp_in x1 4) (if (f_M_isPerson sa (gr sa 41 x1.toNatClampNeg)) = 0 then (some ((-1) : Int32)) else (gd (vp_in x1 4) (gd (vp_in (gr sa 41 x1.toNatClampNeg) 6) (some (gr sa 1 (gr sa 41 x1.toNatClampNeg).toNatClampNeg)))))) else (gd (vp_in x1 4) (if 0 ≤ (gr sa 40 x1.toNatClampNeg) then (some (9 : Int32)) else (some ((-1) : Int32)))))
def f_S_isUnder_L19 (v0 : Int32) (v1 : Int32) : Int32 :=
  if v1 = (2 : Int32) then (if v0 = (3 : Int32) then ((1 : Int32)) else ((0 : Int32))) else ((0 : Int32))
def f_S_isUnder (x0 : Int32) (x1 : Int32) : Int32 :=
  if x1 = 0 then ((1 : Int32)) else (if x1 = x0 then ((1 : Int32)) else (if x1 = (1 : Int32) then (if x0 = (4 : Int32) then ((1 : Int32)) else (f_S_isUnder_L19 x0 x1)) else (f_S_isUnder_L19 x0 x1)))
noncomputable def f_M_taken_L29 (sa : g_St) (v1 : Int32) (v2 : Int32) : Option (Int32) :=
  bd1 (f_M_kindOn sa v1) fun r4 => if 0 ≤ r4 then (if r4 = (9 : Int32) then (gd (vp_in v1 4) (if v2 = ((10 : Int32) + (gr sa 41 v1.toNatClampNeg)) then (gd (vp_in v1 4) (some (gr sa 42 v1.toNatClampNeg))) else (some ((-13) : Int32)))) else (if (10 : Int32) ≤ v2 then (some ((-13) : Int32)) else (if (f_S_isUnder r4 v2) = 0 then (some ((-13) : Int32)) else (gd (vp_in v1 4) (some (gr sa 41 v1.toNatClampNeg)))))) else (some ((-11) : Int32))
noncomputable def f_M_taken (sa : g_St) (x1 : Int32) (x2 : Int32) : Option (Int32) :=
  if (f_S_isShelf x1) = 0 then (some ((-1) : Int32)) else (if (f_S_in x2 (0 : Int32) (5 : Int32)) = 0 then (if (f_S_in x2 (10 : Int32) (13 : Int32)) = 0 then (some ((-1) : Int32)) else (f_M_taken_L29 sa x1 x2)) else (f_M_taken_L29 sa x1 x2))
noncomputable def f_M_ran (sa : g_St) (x1 : Int32) : Option (g_St) :=
  if (30 : Int32) ≤ (gi sa 47) then (some sa) else (gd (vp_in (gi sa 47) 30) (lt (sr sa 46 (gi sa 47) x1) fun s2 => lt (((gi s2 47) + (1 : Int32))) fun y3 => lt (si s2 47 y3) fun s4 => some s4))
noncomputable def f_M_plainBars (sa : g_St) (x1 : Int32) : Option (Int32 × g_St) :=
  bd1 (f_M_ran sa (10 : Int32)) fun s1 => some ((x1 + (gi s1 44)), s1)
noncomputable def f_M_barBars (sa : g_St) (x1 : Int32) : Option (Int32 × g_St) :=
  bd1 (f_M_ran sa (30 : Int32)) fun s1 => bd2 (f_M_plainBars s1 x1) fun r4 s5 => some ((r4 * (3 : Int32)), s5)
noncomputable def f_M_barsIt (sa : g_St) (x1 : Int32) : Option (Int32 × g_St) :=
  lt ((gi sa 43)) fun y1 => if y1 = (2 : Int32) then (bd2 (f_M_barBars sa x1) fun r2 s3 => some (r2, s3)) else (if y1 = (3 : Int32) then (bd1 (f_M_ran sa (40 : Int32)) fun s6 => bd2 (f_M_barBars s6 x1) fun r9 s10 => some (((0 : Int32) - r9), s10)) else (if y1 = (4 : Int32) then (bd1 (f_M_ran sa (51 : Int32)) fun s13 => bd2 (f_M_plainBars s13 x1) fun r16 s17 => some ((r16 - (gi s17 44)), s17)) else (bd2 (f_M_plainBars sa x1) fun r20 s21 => some (r20, s21))))
noncomputable def f_M_plainWaits (sa : g_St) (x1 : Int32) : Option (Int32 × g_St) :=
  bd1 (f_M_ran sa (11 : Int32)) fun s1 => bd2 (f_M_barsIt s1 x1) fun r4 s5 => some ((r4 * (2 : Int32)), s5)
noncomputable def f_M_waitsIt_L16 (s : g_St) (v1 : Int32) : Option (Int32 × g_St) :=
  bd1 (f_M_ran s (20 : Int32)) fun s16 => bd2 (f_M_plainWaits s16 v1) fun r19 s20 => some ((r19 - (gi s20 45)), s20)
noncomputable def f_M_waitsIt (sa : g_St) (x1 : Int32) : Option (Int32 × g_St) :=
  if (gi sa 43) = (1 : Int32) then (f_M_waitsIt_L16 sa x1) else (if (gi sa 43) = (4 : Int32) then (f_M_waitsIt_L16 sa x1) else (if (gi sa 43) = (3 : Int32) then (bd1 (f_M_ran sa (41 : Int32)) fun s5 => bd2 (f_M_plainWaits s5 x1) fun r8 s9 => bd2 (f_M_barsIt s9 (gi s9 44)) fun r12 s13 => some ((r8 + r12), s13)) else (bd2 (f_M_plainWaits sa x1) fun r1 s2 => some (r1, s2))))
noncomputable def f_M_plainShares (sa : g_St) (x1 : Int32) : Option (Int32 × g_St) :=
  bd1 (f_M_ran sa (12 : Int32)) fun s1 => if (gi s1 45) = (gi s1 44) then (lt (si s1 48 (1 : Int32)) fun s5 => some ((0 : Int32), s5)) else (gd (¬ ((gi s1 45) - (gi s1 44)) = 0) (some ((x1 / ((gi s1 45) - (gi s1 44))), s1)))
noncomputable def f_M_sharesIt (sa : g_St) (x1 : Int32) : Option (Int32 × g_St) :=
  if (gi sa 43) = (4 : Int32) then (bd1 (f_M_ran sa (50 : Int32)) fun s16 => bd2 (f_M_plainShares s16 (x1 + (2 : Int32))) fun r19 s20 => some ((r19 ^^^ (1 : Int32)), s20)) else (if (gi sa 43) = (5 : Int32) then (bd1 (f_M_ran sa (61 : Int32)) fun s5 => bd2 (f_M_plainShares s5 x1) fun r8 s9 => if (gi s9 48) = 0 then (bd2 (f_M_barsIt s9 (gi s9 45)) fun r12 s13 => some ((r8 + r12), s13)) else (some ((0 : Int32), s9))) else (bd2 (f_M_plainShares sa x1) fun r1 s2 => some (r1, s2)))
noncomputable def f_M_plainTells (sa : g_St) (x1 : Int32) : Option (Int32 × g_St) :=
  bd1 (f_M_ran sa (13 : Int32)) fun s1 => bd2 (f_M_waitsIt s1 x1) fun r4 s5 => some ((r4 ^^^ (gi s5 45)), s5)
noncomputable def f_M_tellsIt_L16 (s : g_St) (v1 : Int32) : Option (Int32 × g_St) :=
  bd1 (f_M_ran s (31 : Int32)) fun s12 => bd2 (f_M_plainTells s12 v1) fun r15 s16 => bd2 (f_M_sharesIt s16 (gi s16 44)) fun r19 s20 => some ((r15 + r19), s20)
noncomputable def f_M_tellsIt (sa : g_St) (x1 : Int32) : Option (Int32 × g_St) :=
  if (gi sa 43) = (2 : Int32) then (f_M_tellsIt_L16 sa x1) else (if (gi sa 43) = (3 : Int32) then (f_M_tellsIt_L16 sa x1) else (if (gi sa 43) = (5 : Int32) then (bd1 (f_M_ran sa (60 : Int32)) fun s5 => bd2 (f_M_plainTells s5 x1) fun r8 s9 => some ((r8 * (2 : Int32)), s9)) else (bd2 (f_M_plainTells sa x1) fun r1 s2 => some (r1, s2))))
noncomputable def f_M_act_L121 (s : g_St) (z0 : Int32) : Option (Int32 × g_St) :=
  if (gi s 48) = 0 then (some (z0, s)) else (some (((-15) : Int32), s))
noncomputable def f_M_act_L21 (s : g_St) (v1 : Int32) (v2 : Int32) (v3 : Int32) (z0 : Int32) : Option (Int32 × g_St) :=
  if (f_S_in v2 (0 : Int32) (3 : Int32)) = 0 then (some ((0 : Int32), s)) else (if (f_S_in z0 (0 : Int32) (5 : Int32)) = 0 then (some ((0 : Int32), s)) else (lt (si s 43 z0) fun s8 => gd (vp_in v1 4) (lt ((gr s8 41 v1.toNatClampNeg)) fun y10 => lt (si s8 44 y10) fun s11 => gd (vp_in (gi s11 44) 6) (lt ((gr s11 2 (gi s11 44).toNatClampNeg)) fun y13 => lt (si s11 45 y13) fun s14 => lt (si s14 48 (0 : Int32)) fun s15 => if v2 = 0 then (bd2 (f_M_barsIt s15 v3) fun r28 s29 => f_M_act_L121 s29 r28) else (if v2 = (1 : Int32) then (bd2 (f_M_waitsIt s15 v3) fun r24 s25 => f_M_act_L121 s25 r24) else (if v2 = (2 : Int32) then (bd2 (f_M_sharesIt s15 v3) fun r20 s21 => f_M_act_L121 s21 r20) else (bd2 (f_M_tellsIt s15 v3) fun r16 s17 => f_M_act_L121 s17 r16)))))))
noncomputable def f_M_act (sa : g_St) (x1 : Int32) (x2 : Int32) (x3 : Int32) : Option (Int32 × g_St) :=
  lt (si sa 47 (0 : Int32)) fun s1 => if (f_S_isShelf x1) = 0 then (f_M_act_L21 s1 x1 x2 x3 ((-1) : Int32)) else (bd1 (f_M_kindOn s1 x1) fun r3 => f_M_act_L21 s1 x1 x2 x3 r3)
noncomputable def f_M_trace (sa : g_St) (x1 : Int32) : Option (Int32) :=
  if (f_S_in x1 (0 : Int32) ((gi sa 47) - (1 : Int32))) = 0 then (some ((-3) : Int32)) else (gd (vp_in x1 30) (some (gr sa 46 x1.toNatClampNeg)))
noncomputable def f_M_many_L60 (fu : Nat) : Nat → g_St → Int32 → Int32 → Option (Int32)
  | 0, _, _, _ => none
  | n + 1, sa, v2, v3 => if (gi sa 0) ≤ v3 then (some v2) else (gd (vp_in v3 35) (lt ((v2 + (gr sa 11 v3.toNatClampNeg))) fun y2 => lt (v3 + (1 : Int32)) fun y3 => f_M_many_L60 fu n sa y2 y3))
noncomputable def f_M_many (fu : Nat) (sa : g_St) (x1 : Int32) : Option (Int32) :=
  if x1 = (0 : Int32) then (some (gi sa 0)) else (if x1 = (1 : Int32) then (some (gi sa 5)) else (if x1 = (2 : Int32) then (f_M_many_L60 fu fu sa (0 : Int32) (0 : Int32)) else (if x1 = (3 : Int32) then (some (gi sa 12)) else (if x1 = (4 : Int32) then (some (gi sa 13)) else (if x1 = (5 : Int32) then (some (gi sa 36)) else (if x1 = (6 : Int32) then (some (gi sa 16)) else (if x1 = (7 : Int32) then (some (gi sa 47)) else (some ((-1) : Int32)))))))))
noncomputable def f_M_moveRow_single_L3 (fu : Nat) : Nat → g_St → Int32 → Int32 → Int32 → Option (g_St)
  | 0, _, _, _, _ => none
  | n + 1, s, v2, v3, v4 => if v2 ≤ v4 then (some s) else (if v3 = 0 then (gd (vp_in (gi s 51) 120) (lt ((gr s 50 (gi s 51).toNatClampNeg)) fun y2 => gd (vp_in v4 5) (lt (sr s 52 v4 y2) fun s4 => lt (((gi s4 51) + (1 : Int32))) fun y5 => lt (si s4 51 y5) fun s6 => lt (v4 + (1 : Int32)) fun y7 => f_M_moveRow_single_L3 fu n s6 v2 v3 y7))) else (gd (vp_in v4 5) (lt ((gr s 52 v4.toNatClampNeg)) fun y9 => gd (vp_in (gi s 51) 120) (lt (sr s 50 (gi s 51) y9) fun s11 => lt (((gi s11 51) + (1 : Int32))) fun y12 => lt (si s11 51 y12) fun s13 => lt (v4 + (1 : Int32)) fun y14 => f_M_moveRow_single_L3 fu n s13 v2 v3 y14))))
noncomputable def f_M_moveRow_single (fu : Nat) (sa : g_St) (x2 : Int32) (x3 : Int32) : Option (g_St) :=
  f_M_moveRow_single_L3 fu fu sa x2 x3 (0 : Int32)
noncomputable def f_M_moveRow_kindOf_L3 (fu : Nat) : Nat → g_St → Int32 → Int32 → Int32 → Option (g_St)
  | 0, _, _, _, _ => none
  | n + 1, s, v2, v3, v4 => if v2 ≤ v4 then (some s) else (if v3 = 0 then (gd (vp_in (gi s 51) 120) (lt ((gr s 50 (gi s 51).toNatClampNeg)) fun y2 => gd (vp_in v4 6) (lt (sr s 1 v4 y2) fun s4 => lt (((gi s4 51) + (1 : Int32))) fun y5 => lt (si s4 51 y5) fun s6 => lt (v4 + (1 : Int32)) fun y7 => f_M_moveRow_kindOf_L3 fu n s6 v2 v3 y7))) else (gd (vp_in v4 6) (lt ((gr s 1 v4.toNatClampNeg)) fun y9 => gd (vp_in (gi s 51) 120) (lt (sr s 50 (gi s 51) y9) fun s11 => lt (((gi s11 51) + (1 : Int32))) fun y12 => lt (si s11 51 y12) fun s13 => lt (v4 + (1 : Int32)) fun y14 => f_M_moveRow_kindOf_L3 fu n s13 v2 v3 y14))))
noncomputable def f_M_moveRow_kindOf (fu : Nat) (sa : g_St) (x2 : Int32) (x3 : Int32) : Option (g_St) :=
  f_M_moveRow_kindOf_L3 fu fu sa x2 x3 (0 : Int32)
noncomputable def f_M_moveRow_aOf_L3 (fu : Nat) : Nat → g_St → Int32 → Int32 → Int32 → Option (g_St)
  | 0, _, _, _, _ => none
  | n + 1, s, v2, v3, v4 => if v2 ≤ v4 then (some s) else (if v3 = 0 then (gd (vp_in (gi s 51) 120) (lt ((gr s 50 (gi s 51).toNatClampNeg)) fun y2 => gd (vp_in v4 6) (lt (sr s 2 v4 y2) fun s4 => lt (((gi s4 51) + (1 : Int32))) fun y5 => lt (si s4 51 y5) fun s6 => lt (v4 + (1 : Int32)) fun y7 => f_M_moveRow_aOf_L3 fu n s6 v2 v3 y7))) else (gd (vp_in v4 6) (lt ((gr s 2 v4.toNatClampNeg)) fun y9 => gd (vp_in (gi s 51) 120) (lt (sr s 50 (gi s 51) y9) fun s11 => lt (((gi s11 51) + (1 : Int32))) fun y12 => lt (si s11 51 y12) fun s13 => lt (v4 + (1 : Int32)) fun y14 => f_M_moveRow_aOf_L3 fu n s13 v2 v3 y14))))
noncomputable def f_M_moveRow_aOf (fu : Nat) (sa : g_St) (x2 : Int32) (x3 : Int32) : Option (g_St) :=
  f_M_moveRow_aOf_L3 fu fu sa x2 x3 (0 : Int32)
noncomputable def f_M_moveRow_age_L3 (fu : Nat) : Nat → g_St → Int32 → Int32 → Int32 → Option (g_St)
  | 0, _, _, _, _ => none
  | n + 1, s, v2, v3, v4 => if v2 ≤ v4 then (some s) else (if v3 = 0 then (gd (vp_in (gi s 51) 120) (lt ((gr s 50 (gi s 51).toNatClampNeg)) fun y2 => gd (vp_in v4 6) (lt (sr s 3 v4 y2) fun s4 => lt (((gi s4 51) + (1 : Int32))) fun y5 => lt (si s4 51 y5) fun s6 => lt (v4 + (1 : Int32)) fun y7 => f_M_moveRow_age_L3 fu n s6 v2 v3 y7))) else (gd (vp_in v4 6) (lt ((gr s 3 v4.toNatClampNeg)) fun y9 => gd (vp_in (gi s 51) 120) (lt (sr s 50 (gi s 51) y9) fun s11 => lt (((gi s11 51) + (1 : Int32))) fun y12 => lt (si s11 51 y12) fun s13 => lt (v4 + (1 : Int32)) fun y14 => f_M_moveRow_age_L3 fu n s13 v2 v3 y14))))
noncomputable def f_M_moveRow_age (fu : Nat) (sa : g_St) (x2 : Int32) (x3 : Int32) : Option (g_St) :=
  f_M_moveRow_age_L3 fu fu sa x2 x3 (0 : Int32)
noncomputable def f_M_moveRow_had_L3 (fu : Nat) : Nat → g_St → Int32 → Int32 → Int32 → Option (g_St)
  | 0, _, _, _, _ => none
  | n + 1, s, v2, v3, v4 => if v2 ≤ v4 then (some s) else (if v3 = 0 then (gd (vp_in (gi s 51) 120) (lt ((gr s 50 (gi s 51).toNatClampNeg)) fun y2 => gd (vp_in v4 6) (lt (sr s 4 v4 y2) fun s4 => lt (((gi s4 51) + (1 : Int32))) fun y5 => lt (si s4 51 y5) fun s6 => lt (v4 + (1 : Int32)) fun y7 => f_M_moveRow_had_L3 fu n s6 v2 v3 y7))) else (gd (vp_in v4 6) (lt ((gr s 4 v4.toNatClampNeg)) fun y9 => gd (vp_in (gi s 51) 120) (lt (sr s 50 (gi s 51) y9) fun s11 => lt (((gi s11 51) + (1 : Int32))) fun y12 => lt (si s11 51 y12) fun s13 => lt (v4 + (1 : Int32)) fun y14 => f_M_moveRow_had_L3 fu n s13 v2 v3 y14))))
noncomputable def f_M_moveRow_had (fu : Nat) (sa : g_St) (x2 : Int32) (x3 : Int32) : Option (g_St) :=
  f_M_moveRow_had_L3 fu fu sa x2 x3 (0 : Int32)
noncomputable def f_M_moveRow_weight_L3 (fu : Nat) : Nat → g_St → Int32 → Int32 → Int32 → Option (g_St)
  | 0, _, _, _, _ => none
  | n + 1, s, v2, v3, v4 => if v2 ≤ v4 then (some s) else (if v3 = 0 then (gd (vp_in (gi s 51) 120) (lt ((gr s 50 (gi s 51).toNatClampNeg)) fun y2 => gd (vp_in v4 8) (lt (sr s 6 v4 y2) fun s4 => lt (((gi s4 51) + (1 : Int32))) fun y5 => lt (si s4 51 y5) fun s6 => lt (v4 + (1 : Int32)) fun y7 => f_M_moveRow_weight_L3 fu n s6 v2 v3 y7))) else (gd (vp_in v4 8) (lt ((gr s 6 v4.toNatClampNeg)) fun y9 => gd (vp_in (gi s 51) 120) (lt (sr s 50 (gi s 51) y9) fun s11 => lt (((gi s11 51) + (1 : Int32))) fun y12 => lt (si s11 51 y12) fun s13 => lt (v4 + (1 : Int32)) fun y14 => f_M_moveRow_weight_L3 fu n s13 v2 v3 y14))))
noncomputable def f_M_moveRow_weight (fu : Nat) (sa : g_St) (x2 : Int32) (x3 : Int32) : Option (g_St) :=
  f_M_moveRow_weight_L3 fu fu sa x2 x3 (0 : Int32)
noncomputable def f_M_moveRow_worth_L3 (fu : Nat) : Nat → g_St → Int32 → Int32 → Int32 → Option (g_St)
  | 0, _, _, _, _ => none
  | n + 1, s, v2, v3, v4 => if v2 ≤ v4 then (some s) else (if v3 = 0 then (gd (vp_in (gi s 51) 120) (lt ((gr s 50 (gi s 51).toNatClampNeg)) fun y2 => gd (vp_in v4 48) (lt (sr s 7 v4 y2) fun s4 => lt (((gi s4 51) + (1 : Int32))) fun y5 => lt (si s4 51 y5) fun s6 => lt (v4 + (1 : Int32)) fun y7 => f_M_moveRow_worth_L3 fu n s6 v2 v3 y7))) else (gd (vp_in v4 48) (lt ((gr s 7 v4.toNatClampNeg)) fun y9 => gd (vp_in (gi s 51) 120) (lt (sr s 50 (gi s 51) y9) fun s11 => lt (((gi s11 51) + (1 : Int32))) fun y12 => lt (si s11 51 y12) fun s13 => lt (v4 + (1 : Int32)) fun y14 => f_M_moveRow_worth_L3 fu n s13 v2 v3 y14))))
noncomputable def f_M_moveRow_worth (fu : Nat) (sa : g_St) (x2 : Int32) (x3 : Int32) : Option (g_St) :=
  f_M_moveRow_worth_L3 fu fu sa x2 x3 (0 : Int32)
noncomputable def f_M_moveRow_laws_L3 (fu : Nat) : Nat → g_St → Int32 → Int32 → Int32 → Option (g_St)
  | 0, _, _, _, _ => none
  | n + 1, s, v2, v3, v4 => if v2 ≤ v4 then (some s) else (if v3 = 0 then (gd (vp_in (gi s 51) 120) (lt ((gr s 50 (gi s 51).toNatClampNeg)) fun y2 => gd (vp_in v4 3) (lt (sr s 8 v4 y2) fun s4 => lt (((gi s4 51) + (1 : Int32))) fun y5 => lt (si s4 51 y5) fun s6 => lt (v4 + (1 : Int32)) fun y7 => f_M_moveRow_laws_L3 fu n s6 v2 v3 y7))) else (gd (vp_in v4 3) (lt ((gr s 8 v4.toNatClampNeg)) fun y9 => gd (vp_in (gi s 51) 120) (lt (sr s 50 (gi s 51) y9) fun s11 => lt (((gi s11 51) + (1 : Int32))) fun y12 => lt (si s11 51 y12) fun s13 => lt (v4 + (1 : Int32)) fun y14 => f_M_moveRow_laws_L3 fu n s13 v2 v3 y14))))
noncomputable def f_M_moveRow_laws (fu : Nat) (sa : g_St) (x2 : Int32) (x3 : Int32) : Option (g_St) :=
  f_M_moveRow_laws_L3 fu fu sa x2 x3 (0 : Int32)
noncomputable def f_M_moveRow_row_L3 (fu : Nat) : Nat → g_St → Int32 → Int32 → Int32 → Option (g_St)
  | 0, _, _, _, _ => none
  | n + 1, s, v2, v3, v4 => if v2 ≤ v4 then (some s) else (if v3 = 0 then (gd (vp_in (gi s 51) 120) (lt ((gr s 50 (gi s 51).toNatClampNeg)) fun y2 => gd (vp_in v4 35) (lt (sr s 11 v4 y2) fun s4 => lt (((gi s4 51) + (1 : Int32))) fun y5 => lt (si s4 51 y5) fun s6 => lt (v4 + (1 : Int32)) fun y7 => f_M_moveRow_row_L3 fu n s6 v2 v3 y7))) else (gd (vp_in v4 35) (lt ((gr s 11 v4.toNatClampNeg)) fun y9 => gd (vp_in (gi s 51) 120) (lt (sr s 50 (gi s 51) y9) fun s11 => lt (((gi s11 51) + (1 : Int32))) fun y12 => lt (si s11 51 y12) fun s13 => lt (v4 + (1 : Int32)) fun y14 => f_M_moveRow_row_L3 fu n s13 v2 v3 y14))))
noncomputable def f_M_moveRow_row (fu : Nat) (sa : g_St) (x2 : Int32) (x3 : Int32) : Option (g_St) :=
  f_M_moveRow_row_L3 fu fu sa x2 x3 (0 : Int32)
noncomputable def f_M_moveAll (fu : Nat) (sa : g_St) (x1 : Int32) : Option (g_St) :=
  lt (si sa 51 (0 : Int32)) fun s1 => lt ((gi s1 0)) fun y2 => lt (sr s1 52 (0 : Int32) y2) fun s3 => lt ((gi s3 5)) fun y4 => lt (sr s3 52 (1 : Int32) y4) fun s5 => lt ((gi s5 12)) fun y6 => lt (sr s5 52 (2 : Int32) y6) fun s7 => lt ((gi s7 13)) fun y8 => lt (sr s7 52 (3 : Int32) y8) fun s9 => lt ((gi s9 14)) fun y10 => lt (sr s9 52 (4 : Int32) y10) fun s11 => bd1 (f_M_moveRow_single fu s11 (5 : Int32) x1) fun s12 => bd1 (f_M_moveRow_kindOf fu s12 (6 : Int32) x1) fun s15 => bd1 (f_M_moveRow_aOf fu s15 (6 : Int32) x1) fun s18 => bd1 (f_M_moveRow_age fu s18 (6 : Int32) x1) fun s21 => bd1 (f_M_moveRow_had fu s21 (6 : Int32) x1) fun s24 => bd1 (f_M_moveRow_weight fu s24 (8 : Int32) x1) fun s27 => bd1 (f_M_moveRow_worth fu s27 (48 : Int32) x1) fun s30 => bd1 (f_M_moveRow_laws fu s30 (3 : Int32) x1) fun s33 => bd1 (f_M_moveRow_row fu s33 (7 : Int32) x1) fun s36 => some s36
noncomputable def f_M_keep (fu : Nat) (sa : g_St) : Option (Int32 × g_St) :=
  bd1 (f_M_moveAll fu sa (1 : Int32)) fun s1 => lt (si s1 49 (1 : Int32)) fun s4 => some ((1 : Int32), s4)
noncomputable def f_M_again (fu : Nat) (sa : g_St) : Option (Int32 × g_St) :=
  if (gi sa 49) = 0 then (some (((-3) : Int32), sa)) else (bd1 (f_M_moveAll fu sa (0 : Int32)) fun s1 => lt ((gr s1 52 (0 : Int32).toNatClampNeg)) fun y4 => lt (si s1 0 y4) fun s5 => lt ((gr s5 52 (1 : Int32).toNatClampNeg)) fun y6 => lt (si s5 5 y6) fun s7 => lt ((gr s7 52 (2 : Int32).toNatClampNeg)) fun y8 => lt (si s7 12 y8) fun s9 => lt ((gr s9 52 (3 : Int32).toNatClampNeg)) fun y10 => lt (si s9 13 y10) fun s11 => lt ((gr s11 52 (4 : Int32).toNatClampNeg)) fun y12 => lt (si s11 14 y12) fun s13 => some ((gi s13 0), s13))
