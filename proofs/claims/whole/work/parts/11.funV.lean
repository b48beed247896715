def bV (G : g_G) (ad : Nat → Nat) (s : g_St) : va_W := [(ad 0, .inr (9, [.int (gi s 0), .ref (ad 2), .ref (ad 3), .ref (ad 4), .ref (ad 5), .ref (ad 6), .int (gi s 6), .ref (ad 8), .ref (ad 9), .ref (ad 10), .int (gi s 10), .int (gi s 11), .int (gi s 12)])), (ad 2, .inl (G.2.1 0, 6, .inl (gr s 1))), (ad 3, .inl (G.2.1 0, 6, .inl (gr s 2))), (ad 4, .inl (G.2.1 0, 6, .inl (gr s 3))), (ad 5, .inl (G.2.1 0, 6, .inl (gr s 4))), (ad 6, .inl (G.2.1 0, 6, .inl (gr s 5))), (ad 8, .inl (G.2.1 0, 8, .inl (gr s 7))), (ad 9, .inl (G.2.1 4, 8, .inr (.inr (.inr (.inr (fun j => some (ad (20 + j)))))))), (ad 10, .inl (G.2.1 0, 4, .inl (gr s 9))), (ad (20 + 0), .inl (G.2.1 0, 6, .inl (gr s (20 + 0)))), (ad (20 + 1), .inl (G.2.1 0, 6, .inl (gr s (20 + 1)))), (ad (20 + 2), .inl (G.2.1 0, 6, .inl (gr s (20 + 2)))), (ad (20 + 3), .inl (G.2.1 0, 6, .inl (gr s (20 + 3)))), (ad (20 + 4), .inl (G.2.1 0, 6, .inl (gr s (20 + 4)))), (ad (20 + 5), .inl (G.2.1 0, 6, .inl (gr s (20 + 5)))), (ad (20 + 6), .inl (G.2.1 0, 6, .inl (gr s (20 + 6)))), (ad (20 + 7), .inl (G.2.1 0, 6, .inl (gr s (20 + 7))))]
theorem kfX9 : KF RX9 TX9 13 9 tyX9 := ⟨fun w h => by
  have q : u_ws RX9 TX9 13 = [u_lay RX9 TX9 0, u_lay RX9 TX9 1, u_lay RX9 TX9 2, u_lay RX9 TX9 3, u_lay RX9 TX9 4, u_lay RX9 TX9 5, u_lay RX9 TX9 6, u_lay RX9 TX9 7, u_lay RX9 TX9 8, u_lay RX9 TX9 9, u_lay RX9 TX9 10, u_lay RX9 TX9 11, u_lay RX9 TX9 12] := rfl
  rw [q] at h
  exact (List.forall_mem_cons.mpr ⟨wd_74, List.forall_mem_cons.mpr ⟨wd_76, List.forall_mem_cons.mpr ⟨wd_78, List.forall_mem_cons.mpr ⟨wd_80, List.forall_mem_cons.mpr ⟨wd_82, List.forall_mem_cons.mpr ⟨wd_84, List.forall_mem_cons.mpr ⟨wd_86, List.forall_mem_cons.mpr ⟨wd_88, List.forall_mem_cons.mpr ⟨wd_90, List.forall_mem_cons.mpr ⟨wd_92, List.forall_mem_cons.mpr ⟨wd_94, List.forall_mem_cons.mpr ⟨wd_96, List.forall_mem_cons.mpr ⟨wd_98, fun _ h => absurd h List.not_mem_nil⟩⟩⟩⟩⟩⟩⟩⟩⟩⟩⟩⟩⟩) w h, rfl, tyX9_ok, nmX9⟩
def f_S_bitCount (x0 : Int32) : Int32 :=
  lt ((x0 - ((g_ushr x0 (1 : Int32)) &&& (1431655765 : Int32)))) fun y1 => lt (((y1 &&& (858993459 : Int32)) + ((g_ushr y1 (2 : Int32)) &&& (858993459 : Int32)))) fun y2 => lt (((y2 + (g_ushr y2 (4 : Int32))) &&& (252645135 : Int32))) fun y3 => lt ((y3 + (g_ushr y3 (8 : Int32)))) fun y4 => lt ((y4 + (g_ushr y4 (16 : Int32)))) fun y5 => (y5 &&& (63 : Int32))
def f_V_empty (va : g_St) : g_St :=
  lt (si va 0 (0 : Int32)) fun s1 => lt (si s1 6 (0 : Int32)) fun s2 => lt (sr s2 9 (0 : Int32) (1 : Int32)) fun s3 => lt (sr s3 9 (1 : Int32) (0 : Int32)) fun s4 => lt (sr s4 9 (2 : Int32) (0 : Int32)) fun s5 => lt (sr s5 9 (3 : Int32) (1 : Int32)) fun s6 => lt (si s6 11 (0 : Int32)) fun s7 => lt (si s7 12 (0 : Int32)) fun s8 => s8
noncomputable def f_VV_copyFrom_L108 (fu : Nat) : Nat → g_St → g_St → Int32 → Option (g_St)
  | 0, _, _, _ => none
  | n + 1, v, ua, v2 => if (8 : Int32) ≤ v2 then (lt (sra v 9 (va_cpy (gr ua 9) (gr v 9) (0 : Int32).toNatClampNeg (0 : Int32).toNatClampNeg (4 : Int32).toNatClampNeg)) fun s18 => lt ((gi ua 10)) fun y19 => lt (si s18 10 y19) fun s20 => lt ((gi ua 11)) fun y21 => lt (si s20 11 y21) fun s22 => lt ((gi ua 12)) fun y23 => lt (si s22 12 y23) fun s24 => some s24) else (gd (vp_in v2 8) (gd (vp_in v2 8) (lt (sra v (20 + v2.toNatClampNeg) (va_cpy (gr ua (20 + v2.toNatClampNeg)) (gr v (20 + v2.toNatClampNeg)) (0 : Int32).toNatClampNeg (0 : Int32).toNatClampNeg (6 : Int32).toNatClampNeg)) fun s28 => lt (v2 + (1 : Int32)) fun y29 => f_VV_copyFrom_L108 fu n s28 ua y29)))
noncomputable def f_VV_copyFrom (fu : Nat) (va : g_St) (ua : g_St) : Option (g_St) :=
  lt ((gi ua 0)) fun y1 => lt (si va 0 y1) fun s2 => lt (sra s2 1 (va_cpy (gr ua 1) (gr s2 1) (0 : Int32).toNatClampNeg (0 : Int32).toNatClampNeg (6 : Int32).toNatClampNeg)) fun s4 => lt (sra s4 2 (va_cpy (gr ua 2) (gr s4 2) (0 : Int32).toNatClampNeg (0 : Int32).toNatClampNeg (6 : Int32).toNatClampNeg)) fun s6 => lt (sra s6 3 (va_cpy (gr ua 3) (gr s6 3) (0 : Int32).toNatClampNeg (0 : Int32).toNatClampNeg (6 : Int32).toNatClampNeg)) fun s8 => lt (sra s8 4 (va_cpy (gr ua 4) (gr s8 4) (0 : Int32).toNatClampNeg (0 : Int32).toNatClampNeg (6 : Int32).toNatClampNeg)) fun s10 => lt (sra s10 5 (va_cpy (gr ua 5) (gr s10 5) (0 : Int32).toNatClampNeg (0 : Int32).toNatClampNeg (6 : Int32).toNatClampNeg)) fun s12 => lt ((gi ua 6)) fun y13 => lt (si s12 6 y13) fun s14 => lt (sra s14 7 (va_cpy (gr ua 7) (gr s14 7) (0 : Int32).toNatClampNeg (0 : Int32).toNatClampNeg (8 : Int32).toNatClampNeg)) fun s16 => f_VV_copyFrom_L108 fu fu s16 ua (0 : Int32)
noncomputable def f_V_addPerson_L50 (fu : Nat) : Nat → g_St → Int32 → Int32 → Option (Int32 × g_St)
  | 0, _, _, _ => none
  | n + 1, v, v5, v6 => if (8 : Int32) ≤ v6 then (lt (((gi v 0) + (1 : Int32))) fun y12 => lt (si v 0 y12) fun s13 => some (v5, s13)) else (gd (vp_in v6 8) (gd (vp_in v5 6) (lt (sr v (20 + v6.toNatClampNeg) v5 (0 : Int32)) fun s16 => lt (v6 + (1 : Int32)) fun y17 => f_V_addPerson_L50 fu n s16 v5 y17)))
noncomputable def f_V_addPerson (fu : Nat) (va : g_St) (x1 : Int32) (x2 : Int32) (x3 : Int32) (x4 : Int32) : Option (Int32 × g_St) :=
  lt ((gi va 0)) fun y1 => gd (vp_in y1 6) (lt (sr va 1 y1 x1) fun s3 => gd (vp_in y1 6) (lt (sr s3 2 y1 x2) fun s5 => gd (vp_in y1 6) (lt (sr s5 3 y1 x3) fun s7 => gd (vp_in y1 6) (lt (sr s7 4 y1 x4) fun s9 => gd (vp_in y1 6) (lt (sr s9 5 y1 (0 : Int32)) fun s11 => f_V_addPerson_L50 fu fu s11 y1 (0 : Int32))))))
noncomputable def f_V_removePerson_L91 (fu : Nat) : Nat → g_St → Int32 → Int32 → Int32 → Option (g_St)
  | 0, _, _, _, _ => none
  | n + 1, v, v1, v2, v3 => if (8 : Int32) ≤ v3 then (lt (((gi v 0) - (1 : Int32))) fun y12 => lt (si v 0 y12) fun s13 => some s13) else (gd (vp_in v3 8) (gd (vp_in v3 8) (gd (cp_ok (v1 + (1 : Int32)) v1 v2 6 6) (lt (sra v (20 + v3.toNatClampNeg) (va_cpy (gr v (20 + v3.toNatClampNeg)) (gr v (20 + v3.toNatClampNeg)) (v1 + (1 : Int32)).toNatClampNeg v1.toNatClampNeg v2.toNatClampNeg)) fun s17 => lt (v3 + (1 : Int32)) fun y18 => f_V_removePerson_L91 fu n s17 v1 v2 y18))))
noncomputable def f_V_removePerson (fu : Nat) (va : g_St) (x1 : Int32) : Option (g_St) :=
  lt ((((gi va 0) - (1 : Int32)) - x1)) fun y1 => gd (cp_ok (x1 + (1 : Int32)) x1 y1 6 6) (lt (sra va 1 (va_cpy (gr va 1) (gr va 1) (x1 + (1 : Int32)).toNatClampNeg x1.toNatClampNeg y1.toNatClampNeg)) fun s3 => gd (cp_ok (x1 + (1 : Int32)) x1 y1 6 6) (lt (sra s3 2 (va_cpy (gr s3 2) (gr s3 2) (x1 + (1 : Int32)).toNatClampNeg x1.toNatClampNeg y1.toNatClampNeg)) fun s5 => gd (cp_ok (x1 + (1 : Int32)) x1 y1 6 6) (lt (sra s5 3 (va_cpy (gr s5 3) (gr s5 3) (x1 + (1 : Int32)).toNatClampNeg x1.toNatClampNeg y1.toNatClampNeg)) fun s7 => gd (cp_ok (x1 + (1 : Int32)) x1 y1 6 6) (lt (sra s7 4 (va_cpy (gr s7 4) (gr s7 4) (x1 + (1 : Int32)).toNatClampNeg x1.toNatClampNeg y1.toNatClampNeg)) fun s9 => gd (cp_ok (x1 + (1 : Int32)) x1 y1 6 6) (lt (sra s9 5 (va_cpy (gr s9 5) (gr s9 5) (x1 + (1 : Int32)).toNatClampNeg x1.toNatClampNeg y1.toNatClampNeg)) fun s11 => f_V_removePerson_L91 fu fu s11 x1 y1 (0 : Int32))))))
noncomputable def f_V_addProposal_L14 (fu : Nat) : Nat → g_St → Int32 → Int32 → Option (Int32 × g_St)
  | 0, _, _, _ => none
  | n + 1, v, v2, v3 => if (6 : Int32) ≤ v3 then (lt (((gi v 6) + (1 : Int32))) fun y4 => lt (si v 6 y4) fun s5 => some (v2, s5)) else (gd (vp_in v2 8) (gd (vp_in v3 6) (lt (sr v (20 + v2.toNatClampNeg) v3 (0 : Int32)) fun s8 => lt (v3 + (1 : Int32)) fun y9 => f_V_addProposal_L14 fu n s8 v2 y9)))
noncomputable def f_V_addProposal (fu : Nat) (va : g_St) (x1 : Int32) : Option (Int32 × g_St) :=
  lt ((gi va 6)) fun y1 => gd (vp_in y1 8) (lt (sr va 7 y1 x1) fun s3 => f_V_addProposal_L14 fu fu s3 y1 (0 : Int32))
noncomputable def f_V_allWeights_L4 (fu : Nat) : Nat → g_St → Int32 → Int32 → Option (Int32)
  | 0, _, _, _ => none
  | n + 1, va, v1, v2 => if (gi va 6) ≤ v2 then (some v1) else (gd (vp_in v2 8) (lt ((v1 + (gr va 7 v2.toNatClampNeg))) fun y2 => lt (v2 + (1 : Int32)) fun y3 => f_V_allWeights_L4 fu n va y2 y3))
noncomputable def f_V_allWeights (fu : Nat) (va : g_St) : Option (Int32) :=
  f_V_allWeights_L4 fu fu va (0 : Int32) (0 : Int32)
noncomputable def f_V_allNoes_L4 (fu : Nat) : Nat → g_St → Int32 → Int32 → Option (Int32)
  | 0, _, _, _ => none
  | n + 1, va, v1, v2 => if (gi va 0) ≤ v2 then (some v1) else (gd (vp_in v2 6) (lt ((v1 + (gr va 4 v2.toNatClampNeg))) fun y2 => lt (v2 + (1 : Int32)) fun y3 => f_V_allNoes_L4 fu n va y2 y3))
noncomputable def f_V_allNoes (fu : Nat) (va : g_St) : Option (Int32) :=
  f_V_allNoes_L4 fu fu va (0 : Int32) (0 : Int32)
noncomputable def f_V_packedNoes_L4 (fu : Nat) : Nat → g_St → Int32 → Int32 → Option (Int32)
  | 0, _, _, _ => none
  | n + 1, va, v1, v2 => if (gi va 0) ≤ v2 then (some v1) else (gd (vp_in v2 6) (lt ((v1 ||| (g_shl (gr va 4 v2.toNatClampNeg) ((4 : Int32) * v2)))) fun y2 => lt (v2 + (1 : Int32)) fun y3 => f_V_packedNoes_L4 fu n va y2 y3))
noncomputable def f_V_packedNoes (fu : Nat) (va : g_St) : Option (Int32) :=
  f_V_packedNoes_L4 fu fu va (0 : Int32) (0 : Int32)
def f_S_noesIn (x0 : Int32) (x1 : Int32) : Int32 :=
  ((g_ushr x0 ((4 : Int32) * x1)) &&& (15 : Int32))
noncomputable def f_V_drawn_L24 (fu : Nat) : Nat → g_St → Int32 → Int32 → Int32 → Option (Int32)
  | 0, _, _, _, _ => none
  | n + 1, va, v3, v4, v5 => if (gi va 6) ≤ v5 then (some (0 : Int32)) else (gd (vp_in v5 8) (lt ((v4 + (gr va 7 v5.toNatClampNeg))) fun y7 => if y7 ≤ v3 then (lt (v5 + (1 : Int32)) fun y8 => f_V_drawn_L24 fu n va v3 y7 y8) else (some v5)))
noncomputable def f_V_drawn (fu : Nat) (va : g_St) (x1 : Int32) : Option (Int32) :=
  bd1 (f_V_allWeights fu va) fun r1 => if 0 < r1 then (gd (¬ r1 = 0) (lt ((g_rem (g_ushr x1 (16 : Int32)) r1)) fun y5 => f_V_drawn_L24 fu fu va y5 (0 : Int32) (0 : Int32))) else (some (0 : Int32))
noncomputable def f_V_whoHasNoes_L4 (fu : Nat) : Nat → g_St → Int32 → Int32 → Int32 → Option (Int32)
  | 0, _, _, _, _ => none
  | n + 1, va, v1, v2, v3 => if (gi va 0) ≤ v3 then (some v2) else (if (f_S_noesIn v1 v3) ≤ 0 then (lt (v3 + (1 : Int32)) fun y2 => f_V_whoHasNoes_L4 fu n va v1 v2 y2) else (lt ((v2 ||| (g_shl (1 : Int32) v3))) fun y3 => lt (v3 + (1 : Int32)) fun y4 => f_V_whoHasNoes_L4 fu n va v1 y3 y4))
noncomputable def f_V_whoHasNoes (fu : Nat) (va : g_St) (x1 : Int32) : Option (Int32) :=
  f_V_whoHasNoes_L4 fu fu va x1 (0 : Int32) (0 : Int32)
noncomputable def f_V_isInLeague (va : g_St) (x1 : Int32) (x2 : Int32) : Option (Int32) :=
  gd (vp_in x1 6) (if (gr va 1 x1.toNatClampNeg) = (4 : Int32) then (if ((g_ushr x2 x1) &&& (1 : Int32)) = (1 : Int32) then (some (1 : Int32)) else (some (0 : Int32))) else (some (0 : Int32)))
noncomputable def f_V_calledOfLeague_L47 (fu : Nat) : Nat → g_St → Int32 → Int32 → Int32 → Option (Int32)
  | 0, _, _, _, _ => none
  | n + 1, va, v2, v4, v5 => if (gi va 0) ≤ v5 then (some ((-1) : Int32)) else (bd1 (f_V_isInLeague va v5 v2) fun r9 => if r9 = 0 then (lt (v5 + (1 : Int32)) fun y12 => f_V_calledOfLeague_L47 fu n va v2 v4 y12) else (if v4 = 0 then (some v5) else (lt (v4 + ((-1) : Int32)) fun y13 => lt (v5 + (1 : Int32)) fun y14 => f_V_calledOfLeague_L47 fu n va v2 y13 y14)))
noncomputable def f_V_calledOfLeague_L5 (fu : Nat) : Nat → g_St → Int32 → Int32 → Int32 → Int32 → Option (Int32)
  | 0, _, _, _, _, _ => none
  | n + 1, va, v1, v2, v3, v4 => if (gi va 0) ≤ v4 then (if v3 = 0 then (some ((-1) : Int32)) else (gd (¬ v3 = 0) (lt ((g_rem v1 v3)) fun y2 => f_V_calledOfLeague_L47 fu fu va v2 y2 (0 : Int32)))) else (bd1 (f_V_isInLeague va v4 v2) fun r3 => if r3 = 0 then (lt (v4 + (1 : Int32)) fun y6 => f_V_calledOfLeague_L5 fu n va v1 v2 v3 y6) else (lt (v3 + (1 : Int32)) fun y7 => lt (v4 + (1 : Int32)) fun y8 => f_V_calledOfLeague_L5 fu n va v1 v2 y7 y8))
noncomputable def f_V_calledOfLeague (fu : Nat) (va : g_St) (x1 : Int32) (x2 : Int32) : Option (Int32) :=
  f_V_calledOfLeague_L5 fu fu va x1 x2 (0 : Int32) (0 : Int32)
noncomputable def f_V_hasWorseOff_L3 (fu : Nat) : Nat → g_St → Int32 → Int32 → Int32 → Int32 → Option (Int32)
  | 0, _, _, _, _, _ => none
  | n + 1, va, v1, v2, v3, v4 => if (gi va 0) ≤ v4 then (some (0 : Int32)) else (if ((g_ushr v3 v4) &&& (1 : Int32)) = (1 : Int32) then (gd (vp_in v1 8) (gd (vp_in v4 6) (gd (vp_in v1 8) (gd (vp_in v2 6) (if (gr va (20 + v1.toNatClampNeg) v2.toNatClampNeg) ≤ (gr va (20 + v1.toNatClampNeg) v4.toNatClampNeg) then (lt (v4 + (1 : Int32)) fun y6 => f_V_hasWorseOff_L3 fu n va v1 v2 v3 y6) else (some (1 : Int32))))))) else (lt (v4 + (1 : Int32)) fun y1 => f_V_hasWorseOff_L3 fu n va v1 v2 v3 y1))
noncomputable def f_V_hasWorseOff (fu : Nat) (va : g_St) (x1 : Int32) (x2 : Int32) (x3 : Int32) : Option (Int32) :=
  f_V_hasWorseOff_L3 fu fu va x1 x2 x3 (0 : Int32)
noncomputable def f_V_dislikes (fu : Nat) (va : g_St) (x1 : Int32) (x2 : Int32) (x3 : Int32) (x4 : Int32) : Option (Int32) :=
  gd (vp_in x1 8) (gd (vp_in x2 6) (lt ((gr va (20 + x1.toNatClampNeg) x2.toNatClampNeg)) fun y3 => gd (vp_in x2 6) (lt ((gr va 1 x2.toNatClampNeg)) fun y5 => if y5 = (1 : Int32) then (if 0 ≤ y3 then (some (0 : Int32)) else (some (1 : Int32))) else (if y5 = (2 : Int32) then (gd (vp_in x2 6) (if (-(gr va 2 x2.toNatClampNeg)) ≤ y3 then (some (0 : Int32)) else (some (1 : Int32)))) else (if y5 = (3 : Int32) then (gd (vp_in x2 6) (if (-(gr va 2 x2.toNatClampNeg)) ≤ y3 then (some (0 : Int32)) else (bd1 (f_V_hasWorseOff fu va x1 x2 x3) fun r8 => if r8 = 0 then (some (1 : Int32)) else (some (0 : Int32))))) else (if y5 = (4 : Int32) then (if 0 ≤ y3 then (some (0 : Int32)) else (if x2 = x4 then (some (1 : Int32)) else (some (0 : Int32)))) else (if y5 = (5 : Int32) then (gd (vp_in x2 6) (if ((g_ushr (gr va 2 x2.toNatClampNeg) x1) &&& (1 : Int32)) = (1 : Int32) then (some (1 : Int32)) else (some (0 : Int32)))) else (some (0 : Int32)))))))))
noncomputable def f_V_whoWould_L22 (fu : Nat) : Nat → g_St → Int32 → Int32 → Int32 → Int32 → Int32 → Option (Int32)
  | 0, _, _, _, _, _, _ => none
  | n + 1, va, v1, v4, v5, v6, v7 => if (gi va 0) ≤ v7 then (some v6) else (if ((g_ushr v4 v7) &&& (1 : Int32)) = (1 : Int32) then (bd1 (f_V_dislikes fu va v1 v7 v4 v5) fun r8 => if r8 = 0 then (lt (v7 + (1 : Int32)) fun y11 => f_V_whoWould_L22 fu n va v1 v4 v5 v6 y11) else (lt ((v6 ||| (g_shl (1 : Int32) v7))) fun y12 => lt (v7 + (1 : Int32)) fun y13 => f_V_whoWould_L22 fu n va v1 v4 v5 y12 y13)) else (lt (v7 + (1 : Int32)) fun y7 => f_V_whoWould_L22 fu n va v1 v4 v5 v6 y7))
noncomputable def f_V_whoWould (fu : Nat) (va : g_St) (x1 : Int32) (x2 : Int32) (x3 : Int32) : Option (Int32) :=
  bd1 (f_V_whoHasNoes fu va x3) fun r1 => bd1 (f_V_calledOfLeague fu va x2 r1) fun r4 => f_V_whoWould_L22 fu fu va x1 r1 r4 (0 : Int32) (0 : Int32)
noncomputable def f_V_oldestOf_L4 (fu : Nat) : Nat → g_St → Int32 → Int32 → Int32 → Option (Int32)
  | 0, _, _, _, _ => none
  | n + 1, va, v1, v2, v3 => if (gi va 0) ≤ v3 then (some (if v2 < (0 : Int32) then (0 : Int32) else v2)) else (if ((g_ushr v1 v3) &&& (1 : Int32)) = (1 : Int32) then (if v2 < 0 then (lt (v3 + (1 : Int32)) fun y2 => f_V_oldestOf_L4 fu n va v1 v3 y2) else (gd (vp_in v3 6) (gd (vp_in v2 6) (if (gr va 3 v3.toNatClampNeg) ≤ (gr va 3 v2.toNatClampNeg) then (lt (v3 + (1 : Int32)) fun y5 => f_V_oldestOf_L4 fu n va v1 v2 y5) else (lt (v3 + (1 : Int32)) fun y6 => f_V_oldestOf_L4 fu n va v1 v3 y6))))) else (lt (v3 + (1 : Int32)) fun y1 => f_V_oldestOf_L4 fu n va v1 v2 y1))
noncomputable def f_V_oldestOf (fu : Nat) (va : g_St) (x1 : Int32) : Option (Int32) :=
  f_V_oldestOf_L4 fu fu va x1 ((-1) : Int32) (0 : Int32)
noncomputable def f_V_sayersOf_L18 (fu : Nat) : Nat → g_St → Int32 → Int32 → Int32 → Option (Int32)
  | 0, _, _, _, _ => none
  | n + 1, va, v2, v3, v4 => if (gr va 9 (0 : Int32).toNatClampNeg) ≤ v4 then (some v3) else (if v2 = 0 then (some v3) else (bd1 (f_V_oldestOf fu va v2) fun r1 => lt ((g_shl (1 : Int32) r1)) fun y4 => lt ((v3 ||| y4)) fun y5 => lt ((v2 &&& (y4 ^^^ ((-1) : Int32)))) fun y6 => lt (v4 + (1 : Int32)) fun y7 => f_V_sayersOf_L18 fu n va y6 y5 y7))
noncomputable def f_V_sayersOf (fu : Nat) (va : g_St) (x1 : Int32) : Option (Int32) :=
  if (gr va 9 (1 : Int32).toNatClampNeg) = 0 then (some x1) else (f_V_sayersOf_L18 fu fu va x1 (0 : Int32) (0 : Int32))
noncomputable def f_V_whoSays (fu : Nat) (va : g_St) (x1 : Int32) (x2 : Int32) (x3 : Int32) : Option (Int32) :=
  bd1 (f_V_whoWould fu va x1 x2 x3) fun r1 => bd1 (f_V_sayersOf fu va r1) fun r4 => some r4
def f_V_isFall (va : g_St) (x1 : Int32) : Int32 :=
  if (f_S_bitCount x1) < (gr va 9 (0 : Int32).toNatClampNeg) then ((0 : Int32)) else ((1 : Int32))
noncomputable def f_V_noesAfter_L67 (fu : Nat) (k33 : g_St → Int32 → Int32 → Int32 → Int32 → Option (Int32)) (va : g_St) (v1 : Int32) (v4 : Int32) (v5 : Int32) (v6 : Int32) (v7 : Int32) : Option (Int32) :=
  if v4 = 0 then (lt (v6 + (1 : Int32)) fun y4 => k33 va v1 v4 v5 y4) else (if (f_S_noesIn v5 v6) = 0 then (lt ((v5 + v7)) fun y7 => lt (v6 + (1 : Int32)) fun y8 => k33 va v1 v4 y7 y8) else (lt (v6 + (1 : Int32)) fun y6 => k33 va v1 v4 v5 y6))
noncomputable def f_V_noesAfter_L33 (fu : Nat) : Nat → g_St → Int32 → Int32 → Int32 → Int32 → Option (Int32)
  | 0, _, _, _, _, _ => none
  | n + 1, va, v1, v4, v5, v6 => if (gi va 0) ≤ v6 then (some v5) else (lt ((g_shl (1 : Int32) ((4 : Int32) * v6))) fun y2 => if ((g_ushr v1 v6) &&& (1 : Int32)) = (1 : Int32) then (lt ((v5 - y2)) fun y3 => f_V_noesAfter_L67 fu (f_V_noesAfter_L33 fu n) va v1 v4 y3 v6 y2) else (f_V_noesAfter_L67 fu (f_V_noesAfter_L33 fu n) va v1 v4 v5 v6 y2))
noncomputable def f_V_noesAfter (fu : Nat) (va : g_St) (x1 : Int32) (x2 : Int32) (x3 : Int32) : Option (Int32) :=
  if (gr va 9 (2 : Int32).toNatClampNeg) ≤ 0 then (f_V_noesAfter_L33 fu fu va x1 (0 : Int32) x3 (0 : Int32)) else (gd (¬ (gr va 9 (2 : Int32).toNatClampNeg) = 0) (if (g_rem x2 (gr va 9 (2 : Int32).toNatClampNeg)) = 0 then (f_V_noesAfter_L33 fu fu va x1 (1 : Int32) x3 (0 : Int32)) else (f_V_noesAfter_L33 fu fu va x1 (0 : Int32) x3 (0 : Int32))))
noncomputable def f_V_passYear_L123 (fu : Nat) (v : g_St) (v4 : Int32) : Option (Int32 × g_St) :=
  lt (((gr v 9 (3 : Int32).toNatClampNeg) + (1 : Int32))) fun y28 => lt (sr v 9 (3 : Int32) y28) fun s29 => some (v4, s29)
noncomputable def f_V_passYear_L42 (fu : Nat) : Nat → g_St → Int32 → Int32 → Int32 → Int32 → Option (Int32 × g_St)
  | 0, _, _, _, _, _ => none
  | n + 1, v, v1, v4, v5, v6 => if (gi v 0) ≤ v6 then (if v4 = 0 then (lt (((gi v 12) + (1 : Int32))) fun y12 => lt (si v 12 y12) fun s13 => f_V_passYear_L123 fu s13 v4) else (lt (((gi v 11) + (1 : Int32))) fun y14 => lt (si v 11 y14) fun s15 => f_V_passYear_L123 fu s15 v4)) else (lt ((f_S_noesIn v5 v6)) fun y17 => gd (vp_in v6 6) (lt (sr v 4 v6 y17) fun s19 => if v4 = 0 then (gd (vp_in v6 6) (gd (vp_in v1 8) (gd (vp_in v6 6) (lt (((gr s19 5 v6.toNatClampNeg) + (gr s19 (20 + v1.toNatClampNeg) v6.toNatClampNeg))) fun y24 => gd (vp_in v6 6) (lt (sr s19 5 v6 y24) fun s26 => lt (v6 + (1 : Int32)) fun y27 => f_V_passYear_L42 fu n s26 v1 v4 v5 y27))))) else (lt (v6 + (1 : Int32)) fun y20 => f_V_passYear_L42 fu n s19 v1 v4 v5 y20)))
noncomputable def f_V_passYear (fu : Nat) (va : g_St) (x1 : Int32) : Option (Int32 × g_St) :=
  bd1 (f_V_packedNoes fu va) fun r1 => bd1 (f_V_whoSays fu va x1 (gr va 9 (3 : Int32).toNatClampNeg) r1) fun r4 => lt ((f_V_isFall va r4)) fun y8 => bd1 (f_V_noesAfter fu va r4 (gr va 9 (3 : Int32).toNatClampNeg) r1) fun r9 => f_V_passYear_L42 fu fu va x1 y8 r9 (0 : Int32)
