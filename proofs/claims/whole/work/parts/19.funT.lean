def bT (G : g_G) (ad : Nat → Nat) (md : Nat → Nat) (s : g_St) : va_W := [(ad 0, .inr (6, [.ref (md 0), .ref (ad 2), .int (gi s 2), .int (gi s 3), .int (gi s 4), .int (gi s 5), .int (gi s 6)])), (ad 2, .inl (G.2.1 0, 240, .inl (gr s 1)))]
def bP (G : g_G) (ad : Nat → Nat) (s : g_St) : va_W := [(ad 0, .inl (G.2.1 0, 240, .inl (gr s 0)))]
theorem kfX6 : KF RX6 TX6 7 6 tyX6 := ⟨fun w h => by
  have q : u_ws RX6 TX6 7 = [u_lay RX6 TX6 0, u_lay RX6 TX6 1, u_lay RX6 TX6 2, u_lay RX6 TX6 3, u_lay RX6 TX6 4, u_lay RX6 TX6 5, u_lay RX6 TX6 6] := rfl
  rw [q] at h
  exact (List.forall_mem_cons.mpr ⟨wd_139, List.forall_mem_cons.mpr ⟨wd_141, List.forall_mem_cons.mpr ⟨wd_143, List.forall_mem_cons.mpr ⟨wd_145, List.forall_mem_cons.mpr ⟨wd_147, List.forall_mem_cons.mpr ⟨wd_149, List.forall_mem_cons.mpr ⟨wd_151, fun _ h => absurd h List.not_mem_nil⟩⟩⟩⟩⟩⟩⟩) w h, rfl, tyX6_ok, nmX6⟩
def f_S_within (x0 : Int32) (x1 : Int32) (x2 : Int32) : Int32 :=
  if x0 < x1 then ((0 : Int32)) else (if x2 < x0 then ((0 : Int32)) else ((1 : Int32)))
def f_S_nextLot (x0 : Int32) : Int32 :=
  ((x0 * (1103515245 : Int32)) + (12345 : Int32))
def f_S_mayBeLaw (x0 : Int32) (x1 : Int32) : Int32 :=
  if x0 = (0 : Int32) then ((f_S_within x1 (1 : Int32) (3 : Int32))) else (if x0 = (1 : Int32) then ((f_S_within x1 (0 : Int32) (1 : Int32))) else (if x0 = (2 : Int32) then ((f_S_within x1 (0 : Int32) (20 : Int32))) else ((0 : Int32))))
def f_S_narrowed (x0 : Int32) (x1 : Int32) : Int32 :=
  if x1 = 0 then ((x0.toInt8.toInt32)) else (if x1 = (1 : Int32) then ((x0.toInt16.toInt32)) else (x0))
noncomputable def f_S_commonDivisor_L9 (fu : Nat) : Nat → Int64 → Int64 → Int32 → Option (Int64)
  | 0, _, _, _ => none
  | n + 1, v4, v6, v8 => if (100 : Int32) ≤ v8 then (some v4) else (if (lg_cmp v6 (0 : Int64)) = 0 then (some v4) else (gd (¬ v6 = 0) (lt ((g_remL v4 v6)) fun y2 => lt (v8 + (1 : Int32)) fun y3 => f_S_commonDivisor_L9 fu n v6 y2 y3)))
noncomputable def f_S_commonDivisor (fu : Nat) (x0 : Int64) (x2 : Int64) : Option (Int64) :=
  f_S_commonDivisor_L9 fu fu x0 x2 (0 : Int32)
noncomputable def f_S_partOf (fu : Nat) (x0 : Int64) (x2 : Int64) (x4 : Int32) : Option (Int64) :=
  bd1 (f_S_commonDivisor fu (if 0 < x0 then x0 else -x0) x2) fun r1 => if (lg_cmp r1 (0 : Int64)) = 0 then (some (0 : Int64)) else (if x4 = 0 then (gd (¬ r1 = 0) (some (x0 / r1))) else (gd (¬ r1 = 0) (some (x2 / r1))))
noncomputable def f_T_isName_sayer_L28 (fu : Nat) : Nat → g_St → Int32 → Option (Int32)
  | 0, _, _ => none
  | n + 1, rda, v2 => if (5 : Int32) ≤ v2 then (some (1 : Int32)) else (gd (vp_in ((gi rda 5) + v2) 240) (gd (vp_in v2 5) (if (gr rda 1 ((gi rda 5) + v2).toNatClampNeg) = (sch 0 v2) then (lt (v2 + (1 : Int32)) fun y3 => f_T_isName_sayer_L28 fu n rda y3) else (some (0 : Int32)))))
noncomputable def f_T_isName_sayer (fu : Nat) (rda : g_St) : Option (Int32) :=
  if (gi rda 4) = (1 : Int32) then (if ((gi rda 3) - (gi rda 5)) = (5 : Int32) then (f_T_isName_sayer_L28 fu fu rda (0 : Int32)) else (some (0 : Int32))) else (some (0 : Int32))
noncomputable def f_T_isName_quick_L28 (fu : Nat) : Nat → g_St → Int32 → Option (Int32)
  | 0, _, _ => none
  | n + 1, rda, v2 => if (5 : Int32) ≤ v2 then (some (1 : Int32)) else (gd (vp_in ((gi rda 5) + v2) 240) (gd (vp_in v2 5) (if (gr rda 1 ((gi rda 5) + v2).toNatClampNeg) = (sch 1 v2) then (lt (v2 + (1 : Int32)) fun y3 => f_T_isName_quick_L28 fu n rda y3) else (some (0 : Int32)))))
noncomputable def f_T_isName_quick (fu : Nat) (rda : g_St) : Option (Int32) :=
  if (gi rda 4) = (1 : Int32) then (if ((gi rda 3) - (gi rda 5)) = (5 : Int32) then (f_T_isName_quick_L28 fu fu rda (0 : Int32)) else (some (0 : Int32))) else (some (0 : Int32))
noncomputable def f_T_isName_bar_L28 (fu : Nat) : Nat → g_St → Int32 → Option (Int32)
  | 0, _, _ => none
  | n + 1, rda, v2 => if (3 : Int32) ≤ v2 then (some (1 : Int32)) else (gd (vp_in ((gi rda 5) + v2) 240) (gd (vp_in v2 3) (if (gr rda 1 ((gi rda 5) + v2).toNatClampNeg) = (sch 2 v2) then (lt (v2 + (1 : Int32)) fun y3 => f_T_isName_bar_L28 fu n rda y3) else (some (0 : Int32)))))
noncomputable def f_T_isName_bar (fu : Nat) (rda : g_St) : Option (Int32) :=
  if (gi rda 4) = (1 : Int32) then (if ((gi rda 3) - (gi rda 5)) = (3 : Int32) then (f_T_isName_bar_L28 fu fu rda (0 : Int32)) else (some (0 : Int32))) else (some (0 : Int32))
noncomputable def f_T_isName_wait_L28 (fu : Nat) : Nat → g_St → Int32 → Option (Int32)
  | 0, _, _ => none
  | n + 1, rda, v2 => if (4 : Int32) ≤ v2 then (some (1 : Int32)) else (gd (vp_in ((gi rda 5) + v2) 240) (gd (vp_in v2 4) (if (gr rda 1 ((gi rda 5) + v2).toNatClampNeg) = (sch 3 v2) then (lt (v2 + (1 : Int32)) fun y3 => f_T_isName_wait_L28 fu n rda y3) else (some (0 : Int32)))))
noncomputable def f_T_isName_wait (fu : Nat) (rda : g_St) : Option (Int32) :=
  if (gi rda 4) = (1 : Int32) then (if ((gi rda 3) - (gi rda 5)) = (4 : Int32) then (f_T_isName_wait_L28 fu fu rda (0 : Int32)) else (some (0 : Int32))) else (some (0 : Int32))
noncomputable def f_T_isName_league_L28 (fu : Nat) : Nat → g_St → Int32 → Option (Int32)
  | 0, _, _ => none
  | n + 1, rda, v2 => if (6 : Int32) ≤ v2 then (some (1 : Int32)) else (gd (vp_in ((gi rda 5) + v2) 240) (gd (vp_in v2 6) (if (gr rda 1 ((gi rda 5) + v2).toNatClampNeg) = (sch 4 v2) then (lt (v2 + (1 : Int32)) fun y3 => f_T_isName_league_L28 fu n rda y3) else (some (0 : Int32)))))
noncomputable def f_T_isName_league (fu : Nat) (rda : g_St) : Option (Int32) :=
  if (gi rda 4) = (1 : Int32) then (if ((gi rda 3) - (gi rda 5)) = (6 : Int32) then (f_T_isName_league_L28 fu fu rda (0 : Int32)) else (some (0 : Int32))) else (some (0 : Int32))
noncomputable def f_T_isName_told_L28 (fu : Nat) : Nat → g_St → Int32 → Option (Int32)
  | 0, _, _ => none
  | n + 1, rda, v2 => if (4 : Int32) ≤ v2 then (some (1 : Int32)) else (gd (vp_in ((gi rda 5) + v2) 240) (gd (vp_in v2 4) (if (gr rda 1 ((gi rda 5) + v2).toNatClampNeg) = (sch 5 v2) then (lt (v2 + (1 : Int32)) fun y3 => f_T_isName_told_L28 fu n rda y3) else (some (0 : Int32)))))
noncomputable def f_T_isName_told (fu : Nat) (rda : g_St) : Option (Int32) :=
  if (gi rda 4) = (1 : Int32) then (if ((gi rda 3) - (gi rda 5)) = (4 : Int32) then (f_T_isName_told_L28 fu fu rda (0 : Int32)) else (some (0 : Int32))) else (some (0 : Int32))
noncomputable def f_T_isName_age_L28 (fu : Nat) : Nat → g_St → Int32 → Option (Int32)
  | 0, _, _ => none
  | n + 1, rda, v2 => if (3 : Int32) ≤ v2 then (some (1 : Int32)) else (gd (vp_in ((gi rda 5) + v2) 240) (gd (vp_in v2 3) (if (gr rda 1 ((gi rda 5) + v2).toNatClampNeg) = (sch 6 v2) then (lt (v2 + (1 : Int32)) fun y3 => f_T_isName_age_L28 fu n rda y3) else (some (0 : Int32)))))
noncomputable def f_T_isName_age (fu : Nat) (rda : g_St) : Option (Int32) :=
  if (gi rda 4) = (1 : Int32) then (if ((gi rda 3) - (gi rda 5)) = (3 : Int32) then (f_T_isName_age_L28 fu fu rda (0 : Int32)) else (some (0 : Int32))) else (some (0 : Int32))
noncomputable def f_T_isName_noes_L28 (fu : Nat) : Nat → g_St → Int32 → Option (Int32)
  | 0, _, _ => none
  | n + 1, rda, v2 => if (4 : Int32) ≤ v2 then (some (1 : Int32)) else (gd (vp_in ((gi rda 5) + v2) 240) (gd (vp_in v2 4) (if (gr rda 1 ((gi rda 5) + v2).toNatClampNeg) = (sch 7 v2) then (lt (v2 + (1 : Int32)) fun y3 => f_T_isName_noes_L28 fu n rda y3) else (some (0 : Int32)))))
noncomputable def f_T_isName_noes (fu : Nat) (rda : g_St) : Option (Int32) :=
  if (gi rda 4) = (1 : Int32) then (if ((gi rda 3) - (gi rda 5)) = (4 : Int32) then (f_T_isName_noes_L28 fu fu rda (0 : Int32)) else (some (0 : Int32))) else (some (0 : Int32))
noncomputable def f_T_isName_proposal_L28 (fu : Nat) : Nat → g_St → Int32 → Option (Int32)
  | 0, _, _ => none
  | n + 1, rda, v2 => if (8 : Int32) ≤ v2 then (some (1 : Int32)) else (gd (vp_in ((gi rda 5) + v2) 240) (gd (vp_in v2 8) (if (gr rda 1 ((gi rda 5) + v2).toNatClampNeg) = (sch 8 v2) then (lt (v2 + (1 : Int32)) fun y3 => f_T_isName_proposal_L28 fu n rda y3) else (some (0 : Int32)))))
noncomputable def f_T_isName_proposal (fu : Nat) (rda : g_St) : Option (Int32) :=
  if (gi rda 4) = (1 : Int32) then (if ((gi rda 3) - (gi rda 5)) = (8 : Int32) then (f_T_isName_proposal_L28 fu fu rda (0 : Int32)) else (some (0 : Int32))) else (some (0 : Int32))
noncomputable def f_T_isName_worth_L28 (fu : Nat) : Nat → g_St → Int32 → Option (Int32)
  | 0, _, _ => none
  | n + 1, rda, v2 => if (5 : Int32) ≤ v2 then (some (1 : Int32)) else (gd (vp_in ((gi rda 5) + v2) 240) (gd (vp_in v2 5) (if (gr rda 1 ((gi rda 5) + v2).toNatClampNeg) = (sch 9 v2) then (lt (v2 + (1 : Int32)) fun y3 => f_T_isName_worth_L28 fu n rda y3) else (some (0 : Int32)))))
noncomputable def f_T_isName_worth (fu : Nat) (rda : g_St) : Option (Int32) :=
  if (gi rda 4) = (1 : Int32) then (if ((gi rda 3) - (gi rda 5)) = (5 : Int32) then (f_T_isName_worth_L28 fu fu rda (0 : Int32)) else (some (0 : Int32))) else (some (0 : Int32))
noncomputable def f_T_isName_need_L28 (fu : Nat) : Nat → g_St → Int32 → Option (Int32)
  | 0, _, _ => none
  | n + 1, rda, v2 => if (4 : Int32) ≤ v2 then (some (1 : Int32)) else (gd (vp_in ((gi rda 5) + v2) 240) (gd (vp_in v2 4) (if (gr rda 1 ((gi rda 5) + v2).toNatClampNeg) = (sch 10 v2) then (lt (v2 + (1 : Int32)) fun y3 => f_T_isName_need_L28 fu n rda y3) else (some (0 : Int32)))))
noncomputable def f_T_isName_need (fu : Nat) (rda : g_St) : Option (Int32) :=
  if (gi rda 4) = (1 : Int32) then (if ((gi rda 3) - (gi rda 5)) = (4 : Int32) then (f_T_isName_need_L28 fu fu rda (0 : Int32)) else (some (0 : Int32))) else (some (0 : Int32))
noncomputable def f_T_isName_grow_L28 (fu : Nat) : Nat → g_St → Int32 → Option (Int32)
  | 0, _, _ => none
  | n + 1, rda, v2 => if (4 : Int32) ≤ v2 then (some (1 : Int32)) else (gd (vp_in ((gi rda 5) + v2) 240) (gd (vp_in v2 4) (if (gr rda 1 ((gi rda 5) + v2).toNatClampNeg) = (sch 11 v2) then (lt (v2 + (1 : Int32)) fun y3 => f_T_isName_grow_L28 fu n rda y3) else (some (0 : Int32)))))
noncomputable def f_T_isName_grow (fu : Nat) (rda : g_St) : Option (Int32) :=
  if (gi rda 4) = (1 : Int32) then (if ((gi rda 3) - (gi rda 5)) = (4 : Int32) then (f_T_isName_grow_L28 fu fu rda (0 : Int32)) else (some (0 : Int32))) else (some (0 : Int32))
noncomputable def f_T_isName_turn_L28 (fu : Nat) : Nat → g_St → Int32 → Option (Int32)
  | 0, _, _ => none
  | n + 1, rda, v2 => if (4 : Int32) ≤ v2 then (some (1 : Int32)) else (gd (vp_in ((gi rda 5) + v2) 240) (gd (vp_in v2 4) (if (gr rda 1 ((gi rda 5) + v2).toNatClampNeg) = (sch 12 v2) then (lt (v2 + (1 : Int32)) fun y3 => f_T_isName_turn_L28 fu n rda y3) else (some (0 : Int32)))))
noncomputable def f_T_isName_turn (fu : Nat) (rda : g_St) : Option (Int32) :=
  if (gi rda 4) = (1 : Int32) then (if ((gi rda 3) - (gi rda 5)) = (4 : Int32) then (f_T_isName_turn_L28 fu fu rda (0 : Int32)) else (some (0 : Int32))) else (some (0 : Int32))
noncomputable def f_T_kindNamed (fu : Nat) (rda : g_St) : Option (Int32) :=
  bd1 (f_T_isName_sayer fu rda) fun r1 => if r1 = 0 then (bd1 (f_T_isName_quick fu rda) fun r4 => if r4 = 0 then (bd1 (f_T_isName_bar fu rda) fun r7 => if r7 = 0 then (bd1 (f_T_isName_wait fu rda) fun r10 => if r10 = 0 then (bd1 (f_T_isName_league fu rda) fun r13 => if r13 = 0 then (bd1 (f_T_isName_told fu rda) fun r16 => if r16 = 0 then (some ((-1) : Int32)) else (some (5 : Int32))) else (some (4 : Int32))) else (some (3 : Int32))) else (some (2 : Int32))) else (some (1 : Int32))) else (some (0 : Int32))
noncomputable def f_T_takeNumber_L94 (fu : Nat) (rd : g_St) : Option (g_St) :=
  if ((gi rd 3) - (gi rd 5)) ≤ (3 : Int32) then (some rd) else (lt (si rd 6 ((-1) : Int32)) fun s11 => some s11)
noncomputable def f_T_takeNumber_L5 (fu : Nat) : Nat → g_St → Option (g_St)
  | 0, _ => none
  | n + 1, rd => if (gi rd 2) ≤ (gi rd 3) then (f_T_takeNumber_L94 fu rd) else (gd (vp_in (gi rd 3) 240) (if (gr rd 1 (gi rd 3).toNatClampNeg) < (48 : Int32) then (f_T_takeNumber_L94 fu rd) else (gd (vp_in (gi rd 3) 240) (if (57 : Int32) < (gr rd 1 (gi rd 3).toNatClampNeg) then (f_T_takeNumber_L94 fu rd) else (if (3 : Int32) ≤ ((gi rd 3) - (gi rd 5)) then (lt (((gi rd 3) + (1 : Int32))) fun y4 => lt (si rd 3 y4) fun s5 => f_T_takeNumber_L5 fu n s5) else (gd (vp_in (gi rd 3) 240) (lt (((((gi rd 6) * (10 : Int32)) + (gr rd 1 (gi rd 3).toNatClampNeg)) - (48 : Int32))) fun y7 => lt (si rd 6 y7) fun s8 => lt (((gi s8 3) + (1 : Int32))) fun y9 => lt (si s8 3 y9) fun s10 => f_T_takeNumber_L5 fu n s10)))))))
noncomputable def f_T_takeNumber (fu : Nat) (rda : g_St) : Option (g_St) :=
  lt (si rda 6 (0 : Int32)) fun s1 => f_T_takeNumber_L5 fu fu s1
noncomputable def f_T_advance_L89 (fu : Nat) : Nat → g_St → Option (g_St)
  | 0, _ => none
  | n + 1, rd => if (gi rd 2) ≤ (gi rd 3) then (some rd) else (gd (vp_in (gi rd 3) 240) (if (f_S_within (gr rd 1 (gi rd 3).toNatClampNeg) (97 : Int32) (122 : Int32)) = 0 then (some rd) else (lt (((gi rd 3) + (1 : Int32))) fun y24 => lt (si rd 3 y24) fun s25 => f_T_advance_L89 fu n s25)))
noncomputable def f_T_advance_L38 (fu : Nat) (rd : g_St) : Option (g_St) :=
  lt ((gi rd 3)) fun y4 => lt (si rd 5 y4) fun s5 => if (gi s5 3) < (gi s5 2) then (gd (vp_in (gi s5 3) 240) (if (f_S_within (gr s5 1 (gi s5 3).toNatClampNeg) (97 : Int32) (122 : Int32)) = 0 then (gd (vp_in (gi s5 3) 240) (if (f_S_within (gr s5 1 (gi s5 3).toNatClampNeg) (48 : Int32) (57 : Int32)) = 0 then (lt (si s5 4 (3 : Int32)) fun s10 => gd (vp_in (gi s10 3) 240) (lt ((gr s10 1 (gi s10 3).toNatClampNeg)) fun y12 => lt (si s10 6 y12) fun s13 => lt (((gi s13 3) + (1 : Int32))) fun y14 => lt (si s13 3 y14) fun s15 => some s15)) else (lt (si s5 4 (2 : Int32)) fun s16 => bd1 (f_T_takeNumber fu s16) fun s17 => some s17))) else (lt (si s5 4 (1 : Int32)) fun s20 => f_T_advance_L89 fu fu s20))) else (lt (si s5 4 (0 : Int32)) fun s21 => some s21)
noncomputable def f_T_advance_L0 (fu : Nat) : Nat → g_St → Option (g_St)
  | 0, _ => none
  | n + 1, rd => if (gi rd 2) ≤ (gi rd 3) then (f_T_advance_L38 fu rd) else (gd (vp_in (gi rd 3) 240) (if (gr rd 1 (gi rd 3).toNatClampNeg) = (32 : Int32) then (lt (((gi rd 3) + (1 : Int32))) fun y27 => lt (si rd 3 y27) fun s28 => f_T_advance_L0 fu n s28) else (f_T_advance_L38 fu rd)))
noncomputable def f_T_advance (fu : Nat) (rda : g_St) : Option (g_St) :=
  if (gi rda 2) ≤ (gi rda 3) then (f_T_advance_L38 fu rda) else (gd (vp_in (gi rda 3) 240) (if (gr rda 1 (gi rda 3).toNatClampNeg) = (32 : Int32) then (lt (((gi rda 3) + (1 : Int32))) fun y2 => lt (si rda 3 y2) fun s3 => f_T_advance_L0 fu fu s3) else (f_T_advance_L38 fu rda)))
def f_T_isNumber (rda : g_St) (x1 : Int32) (x2 : Int32) : Int32 :=
  if (gi rda 4) = (2 : Int32) then (if (f_S_within (gi rda 6) x1 x2) = 0 then ((0 : Int32)) else ((1 : Int32))) else ((0 : Int32))
def f_T_isByte (rda : g_St) (x1 : Int32) : Int32 :=
  if (gi rda 4) = (3 : Int32) then (if (gi rda 6) = x1 then ((1 : Int32)) else ((0 : Int32))) else ((0 : Int32))
noncomputable def f_T_readEnd (fu : Nat) (rda : g_St) : Option (Int32 × g_St) :=
  if (f_T_isByte rda (59 : Int32)) = 0 then (some ((0 : Int32), rda)) else (bd1 (f_T_advance fu rda) fun s2 => some ((1 : Int32), s2))
noncomputable def f_T_readPerson_L129 (fu : Nat) (rd : g_St) (md : g_St) (v1 : Int32) (v2 : Int32) (v3 : Int32) (v4 : Int32) : Option (Int32 × g_St × g_St) :=
  bd2 (f_V_addPerson fu md v1 v3 v2 v4) fun r37 s38 => bd2 (f_T_readEnd fu rd) fun r41 s42 => some (r41, s42, s38)
noncomputable def f_T_readPerson_L91 (fu : Nat) (rd : g_St) (md : g_St) (v1 : Int32) (v2 : Int32) (v3 : Int32) : Option (Int32 × g_St × g_St) :=
  bd1 (f_T_isName_noes fu rd) fun r26 => if r26 = 0 then (f_T_readPerson_L129 fu rd md v1 v2 v3 (1 : Int32)) else (bd1 (f_T_advance fu rd) fun s29 => if (f_T_isNumber s29 (0 : Int32) (9 : Int32)) = 0 then (some ((0 : Int32), s29, md)) else (lt ((gi s29 6)) fun y33 => bd1 (f_T_advance fu s29) fun s34 => f_T_readPerson_L129 fu s34 md v1 v2 v3 y33))
noncomputable def f_T_readPerson (fu : Nat) (rda : g_St) (mda : g_St) (x1 : Int32) : Option (Int32 × g_St × g_St) :=
  if (gi mda 0) < (6 : Int32) then (bd1 (f_T_advance fu rda) fun s1 => bd1 (f_T_isName_age fu s1) fun r4 => if r4 = 0 then (some ((0 : Int32), s1, mda)) else (bd1 (f_T_advance fu s1) fun s7 => if (f_T_isNumber s7 (0 : Int32) (99 : Int32)) = 0 then (some ((0 : Int32), s7, mda)) else (lt ((gi s7 6)) fun y11 => bd1 (f_T_advance fu s7) fun s12 => bd1 (f_T_isName_bar fu s12) fun r15 => if r15 = 0 then (f_T_readPerson_L91 fu s12 mda x1 y11 (0 : Int32)) else (bd1 (f_T_advance fu s12) fun s18 => if (f_T_isNumber s18 (0 : Int32) (255 : Int32)) = 0 then (some ((0 : Int32), s18, mda)) else (lt ((gi s18 6)) fun y22 => bd1 (f_T_advance fu s18) fun s23 => f_T_readPerson_L91 fu s23 mda x1 y11 y22))))) else (some ((0 : Int32), rda, mda))
noncomputable def f_T_readWorths_L70 (fu : Nat) (k2 : g_St → g_St → Int32 → Int32 → Option (Int32 × g_St × g_St)) (rd : g_St) (md : g_St) (v1 : Int32) (v2 : Int32) (z0 : Int32) (z1 : Int32) (ws2 : Int32) : Option (Int32 × g_St × g_St) :=
  gd (vp_in z1 6) (lt (sr md (20 + ws2.toNatClampNeg) z1 z0) fun s15 => bd1 (f_T_advance fu rd) fun s16 => if (f_T_isByte s16 (44 : Int32)) = 0 then (some ((1 : Int32), s16, s15)) else (lt (v2 + (1 : Int32)) fun y20 => k2 s16 s15 v1 y20))
noncomputable def f_T_readWorths_L32 (fu : Nat) (k2 : g_St → g_St → Int32 → Int32 → Option (Int32 × g_St × g_St)) (rd : g_St) (md : g_St) (v1 : Int32) (v2 : Int32) (v3 : Int32) : Option (Int32 × g_St × g_St) :=
  if (f_T_isNumber rd (0 : Int32) (9 : Int32)) = 0 then (some ((0 : Int32), rd, md)) else (gd (vp_in v1 8) (if v3 = 0 then (f_T_readWorths_L70 fu k2 rd md v1 v2 (gi rd 6) v2 v1) else (f_T_readWorths_L70 fu k2 rd md v1 v2 (-(gi rd 6)) v2 v1)))
noncomputable def f_T_readWorths_L2 (fu : Nat) : Nat → g_St → g_St → Int32 → Int32 → Option (Int32 × g_St × g_St)
  | 0, _, _, _, _ => none
  | n + 1, rd, md, v1, v2 => if (gi md 0) ≤ v2 then (bd1 (f_T_advance fu rd) fun s1 => some ((0 : Int32), s1, md)) else (bd1 (f_T_advance fu rd) fun s4 => lt ((f_T_isByte s4 (45 : Int32))) fun y8 => if y8 = 0 then (f_T_readWorths_L32 fu (f_T_readWorths_L2 fu n) s4 md v1 v2 y8) else (bd1 (f_T_advance fu s4) fun s9 => f_T_readWorths_L32 fu (f_T_readWorths_L2 fu n) s9 md v1 v2 y8))
noncomputable def f_T_readWorths (fu : Nat) (rda : g_St) (mda : g_St) (x1 : Int32) : Option (Int32 × g_St × g_St) :=
  f_T_readWorths_L2 fu fu rda mda x1 (0 : Int32)
noncomputable def f_T_readProposal (fu : Nat) (rda : g_St) (mda : g_St) : Option (Int32 × g_St × g_St) :=
  if (gi mda 6) < (8 : Int32) then (bd1 (f_T_advance fu rda) fun s1 => if (f_T_isNumber s1 (0 : Int32) (9 : Int32)) = 0 then (some ((0 : Int32), s1, mda)) else (bd2 (f_V_addProposal fu mda (gi s1 6)) fun r5 s6 => bd1 (f_T_advance fu s1) fun s9 => bd1 (f_T_isName_worth fu s9) fun r12 => if r12 = 0 then (bd2 (f_T_readEnd fu s9) fun r15 s16 => some (r15, s16, s6)) else (bd3 (f_T_readWorths fu s9 s6 r5) fun r19 s20 s21 => if r19 = 0 then (some ((0 : Int32), s20, s21)) else (bd2 (f_T_readEnd fu s20) fun r24 s25 => some (r24, s25, s21))))) else (some ((0 : Int32), rda, mda))
noncomputable def f_T_readLaw (fu : Nat) (rda : g_St) (mda : g_St) (x1 : Int32) (x2 : Int32) (x3 : Int32) : Option (Int32 × g_St × g_St) :=
  bd1 (f_T_advance fu rda) fun s1 => if (f_T_isNumber s1 x2 x3) = 0 then (some ((0 : Int32), s1, mda)) else (lt ((gi s1 6)) fun y5 => gd (vp_in x1 4) (lt (sr mda 9 x1 y5) fun s7 => bd1 (f_T_advance fu s1) fun s8 => bd2 (f_T_readEnd fu s8) fun r11 s12 => some (r11, s12, s7)))
noncomputable def f_T_readStatement (fu : Nat) (rda : g_St) (mda : g_St) : Option (Int32 × g_St × g_St) :=
  bd1 (f_T_kindNamed fu rda) fun r1 => if r1 < 0 then (bd1 (f_T_isName_proposal fu rda) fun r4 => if r4 = 0 then (bd1 (f_T_isName_need fu rda) fun r7 => if r7 = 0 then (bd1 (f_T_isName_grow fu rda) fun r10 => if r10 = 0 then (bd1 (f_T_isName_turn fu rda) fun r13 => if r13 = 0 then (some ((0 : Int32), rda, mda)) else (lt (sr mda 9 (1 : Int32) (1 : Int32)) fun s16 => bd1 (f_T_advance fu rda) fun s17 => bd2 (f_T_readEnd fu s17) fun r20 s21 => some (r20, s21, s16))) else (bd3 (f_T_readLaw fu rda mda (2 : Int32) (0 : Int32) (20 : Int32)) fun r24 s25 s26 => some (r24, s25, s26))) else (bd3 (f_T_readLaw fu rda mda (0 : Int32) (1 : Int32) (3 : Int32)) fun r29 s30 s31 => some (r29, s30, s31))) else (bd3 (f_T_readProposal fu rda mda) fun r34 s35 s36 => some (r34, s35, s36))) else (bd3 (f_T_readPerson fu rda mda r1) fun r39 s40 s41 => some (r39, s40, s41))
noncomputable def f_TP_readText_L52 (fu : Nat) : Nat → g_St → g_St → g_St → Int32 → Option (Int32 × g_St × g_St)
  | 0, _, _, _, _ => none
  | n + 1, rd, md, tpa, v3 => if (gi rd 2) < v3 then (some ((1 : Int32), rd, md)) else (if (gi rd 4) = 0 then (some ((1 : Int32), rd, md)) else (bd3 (f_T_readStatement fu rd md) fun r11 s12 s13 => if r11 = 0 then (some ((0 : Int32), s12, s13)) else (lt (v3 + (1 : Int32)) fun y16 => f_TP_readText_L52 fu n s12 s13 tpa y16)))
noncomputable def f_TP_readText (fu : Nat) (rda : g_St) (mda : g_St) (tpa : g_St) (x2 : Int32) : Option (Int32 × g_St × g_St) :=
  lt ((if (0 : Int32) < (if (240 : Int32) < x2 then (240 : Int32) else x2) then (if (240 : Int32) < x2 then (240 : Int32) else x2) else (0 : Int32))) fun y1 => lt (si rda 2 y1) fun s2 => gd (cp_ok (0 : Int32) (0 : Int32) (if (240 : Int32) < (gi s2 2) then (240 : Int32) else (gi s2 2)) 240 240) (lt (sra s2 1 (va_cpy (gr tpa 0) (gr s2 1) (0 : Int32).toNatClampNeg (0 : Int32).toNatClampNeg (if (240 : Int32) < (gi s2 2) then (240 : Int32) else (gi s2 2)).toNatClampNeg)) fun s4 => lt (si s4 3 (0 : Int32)) fun s5 => lt (f_V_empty mda) fun q6 => bd1 (f_T_advance fu s5) fun s8 => f_TP_readText_L52 fu fu s8 q6 tpa (0 : Int32))
