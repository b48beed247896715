/-! What the law stands on at its entry; the first states are related; the law from its entry. -/
theorem tin_1 {w : Cond} (h : w ∈ tables_1_1) : w ∈ lw_tbl := List.mem_append_right _ (List.mem_append_left _ h)
theorem tin_2 {w : Cond} (h : w ∈ tables_1_2) : w ∈ lw_tbl := List.mem_append_right _ (List.mem_append_right _ (List.mem_append_left _ h))
theorem tin_3 {w : Cond} (h : w ∈ tables_1_3) : w ∈ lw_tbl := List.mem_append_right _ (List.mem_append_right _ (List.mem_append_right _ (List.mem_append_left _ h)))
theorem tin_4 {w : Cond} (h : w ∈ tables_1_4) : w ∈ lw_tbl := List.mem_append_right _ (List.mem_append_right _ (List.mem_append_right _ (List.mem_append_right _ (List.mem_append_left _ h))))
theorem tin_5 {w : Cond} (h : w ∈ tables_1_5) : w ∈ lw_tbl := List.mem_append_right _ (List.mem_append_right _ (List.mem_append_right _ (List.mem_append_right _ (List.mem_append_right _ (List.mem_append_left _ h)))))
theorem tin_6 {w : Cond} (h : w ∈ tables_1_6) : w ∈ lw_tbl := List.mem_append_right _ (List.mem_append_right _ (List.mem_append_right _ (List.mem_append_right _ (List.mem_append_right _ (List.mem_append_right _ (List.mem_append_left _ h))))))
theorem tin_7 {w : Cond} (h : w ∈ tables_1_7) : w ∈ lw_tbl := List.mem_append_right _ (List.mem_append_right _ (List.mem_append_right _ (List.mem_append_right _ (List.mem_append_right _ (List.mem_append_right _ (List.mem_append_right _ h))))))
theorem known_D {s : State} {args : Array Value} (h : ∀ w ∈ gT, w.before args s = true) : ∃ D : va_G, ∀ (c : Nat) (q : vw_C), vwCl[c]? = some q → u_Kn s q.1 q.2.1 q.2.2 (D.1 c) (D.2 c) := by
  obtain ⟨a0, b0, h0⟩ := u_known h kfX0.1 (h _ wd_103)
  obtain ⟨a1, b1, h1⟩ := u_known h kfX1.1 (h _ wd_246)
  obtain ⟨a2, b2, h2⟩ := u_known h kfX2.1 (h _ wd_266)
  obtain ⟨a3, b3, h3⟩ := u_known h kfX3.1 (h _ wd_236)
  obtain ⟨a4, b4, h4⟩ := u_known h kfX4.1 (h _ wd_198)
  obtain ⟨a5, b5, h5⟩ := u_known h kfX5.1 (h _ wd_159)
  obtain ⟨a6, b6, h6⟩ := u_known h kfX6.1 (h _ wd_123)
  obtain ⟨a7, b7, h7⟩ := u_known h kfX7.1 (h _ wd_276)
  obtain ⟨a8, b8, h8⟩ := u_known h kfX8.1 (h _ wd_178)
  obtain ⟨a9, b9, h9⟩ := u_known h kfX9.1 (h _ wd_30)
  obtain ⟨a10, b10, h10⟩ := u_known h kfX10.1 (h _ wd_256)
  obtain ⟨a11, b11, h11⟩ := u_known h kfX11.1 (h _ wd_22)
  obtain ⟨a12, b12, h12⟩ := u_known h kfM.1 (h _ wd_958)
  have h0 : ∀ c : Nat, ∃ z : ClassId × (Nat → Nat), ∀ q : vw_C, vwCl[c]? = some q → u_Kn s q.1 q.2.1 q.2.2 z.1 z.2 := by
    intro c
    match c with
    | 0 => exact ⟨(a0, b0), fun q e => by
        have e1 : (RX0, TX0, 3) = q := Option.some.inj e
        subst e1
        exact h0⟩
    | 1 => exact ⟨(a1, b1), fun q e => by
        have e1 : (RX1, TX1, 3) = q := Option.some.inj e
        subst e1
        exact h1⟩
    | 2 => exact ⟨(a2, b2), fun q e => by
        have e1 : (RX2, TX2, 3) = q := Option.some.inj e
        subst e1
        exact h2⟩
    | 3 => exact ⟨(a3, b3), fun q e => by
        have e1 : (RX3, TX3, 3) = q := Option.some.inj e
        subst e1
        exact h3⟩
    | 4 => exact ⟨(a4, b4), fun q e => by
        have e1 : (RX4, TX4, 3) = q := Option.some.inj e
        subst e1
        exact h4⟩
    | 5 => exact ⟨(a5, b5), fun q e => by
        have e1 : (RX5, TX5, 3) = q := Option.some.inj e
        subst e1
        exact h5⟩
    | 6 => exact ⟨(a6, b6), fun q e => by
        have e1 : (RX6, TX6, 7) = q := Option.some.inj e
        subst e1
        exact h6⟩
    | 7 => exact ⟨(a7, b7), fun q e => by
        have e1 : (RX7, TX7, 3) = q := Option.some.inj e
        subst e1
        exact h7⟩
    | 8 => exact ⟨(a8, b8), fun q e => by
        have e1 : (RX8, TX8, 3) = q := Option.some.inj e
        subst e1
        exact h8⟩
    | 9 => exact ⟨(a9, b9), fun q e => by
        have e1 : (RX9, TX9, 13) = q := Option.some.inj e
        subst e1
        exact h9⟩
    | 10 => exact ⟨(a10, b10), fun q e => by
        have e1 : (RX10, TX10, 3) = q := Option.some.inj e
        subst e1
        exact h10⟩
    | 11 => exact ⟨(a11, b11), fun q e => by
        have e1 : (RX11, TX11, 16) = q := Option.some.inj e
        subst e1
        exact h11⟩
    | 12 => exact ⟨(a12, b12), fun q e => by
        have e1 : (RX12, TX12, 53) = q := Option.some.inj e
        subst e1
        exact h12⟩
    | k + 13 => exact ⟨(a0, b0), fun q e => absurd (List.getElem?_eq_some_iff.mp e).1 (by show ¬ k + 13 < 13; omega)⟩
  obtain ⟨f, hf⟩ := Classical.axiomOfChoice h0
  exact ⟨(fun c => (f c).1, fun c => (f c).2), hf⟩
theorem known_A {s : State} {args : Array Value} (h : ∀ w ∈ gT, w.before args s = true) (hS : va_AO "LifeNoes$Sayer" s) (hH : va_AO "LifeNoes$Sheet" s) (hI : va_AOA .int s) : ∃ cy : Nat → ClassId, ∀ (k : Nat) (q : ClassId × FieldType), (g_ty cy)[k]? = some q → ArrOfT s q.1 q.2 ∧ va_RA s q.1 q.2 := by
  obtain ⟨c0, k0, p0, f0, g0, e0⟩ := Cond.arrayClass_spec (h _ wd_101)
  obtain ⟨c1, k1, p1, f1, g1, e1⟩ := Cond.arrayClass_spec (h _ wd_121)
  obtain ⟨p2, c2, k2, n2, -, g2, e2, f2⟩ := Cond.arrayOver_spec hS
  obtain ⟨p3, c3, k3, n3, -, g3, e3, f3⟩ := Cond.arrayOver_spec hH
  obtain ⟨p4, c4, k4, n4, g4, e4, f4⟩ := Cond.arrayOver_specA hI
  refine ⟨fun k => match k with
    | 0 => c0
    | 1 => c1
    | 2 => c2
    | 3 => c3
    | _ => c4, fun k q hq => ?_⟩
  match k with
  | 0 =>
    have e : (c0, (.int : FieldType)) = q := Option.some.inj hq
    subst e
    exact ⟨fun n z => ⟨fun k h => (by cases h), k0, g0, p0, e0⟩, f0⟩
  | 1 =>
    have e : (c1, (.long : FieldType)) = q := Option.some.inj hq
    subst e
    exact ⟨fun n z => ⟨fun k h => (by cases h), k1, g1, p1, e1⟩, f1⟩
  | 2 =>
    have e : (c2, (.object "LifeNoes$Sayer" : FieldType)) = q := Option.some.inj hq
    subst e
    exact ⟨fun n z => ⟨fun k h => (by cases h), k2, g2, p2, e2⟩, k2, p2, g2, e2, n2, f2⟩
  | 3 =>
    have e : (c3, (.object "LifeNoes$Sheet" : FieldType)) = q := Option.some.inj hq
    subst e
    exact ⟨fun n z => ⟨fun k h => (by cases h), k3, g3, p3, e3⟩, k3, p3, g3, e3, n3, f3⟩
  | 4 =>
    have e : (c4, (.array .int : FieldType)) = q := Option.some.inj hq
    subst e
    exact ⟨fun n z => ⟨fun k h => (by cases h), k4, g4, p4, e4⟩, f4⟩
  | j + 5 => exact absurd (List.getElem?_eq_some_iff.mp hq).1 (by show ¬ j + 5 < 5; omega)
def fl0 : List Cond := flatC (Jvm.Cond.and given_1 narrow_1)
def tmS (i : Nat) : Term := .string "LifeNoes$TextReader" (sidx.getD i 0)
theorem fl_ex : ∀ i, i < 13 → Cond.exactly (tmS i) "java/lang/String" ∈ fl0 := by decide +kernel
theorem fl_co : ∀ i, i < 13 → Cond.eq (.field (tmS i) "java/lang/String" "coder" "B") (.int 0) ∈ fl0 := by decide +kernel
theorem fl_ar : ∀ i, i < 13 → Cond.arrayOf (.field (tmS i) "java/lang/String" "value" "[B") .byte ∈ fl0 := by decide +kernel
theorem fl_le : ∀ i, i < 13 → Cond.eq (.length (.field (tmS i) "java/lang/String" "value" "[B")) (.int (Int32.ofNat (slen.getD i 0))) ∈ fl0 := by decide +kernel
theorem fl_el : ∀ i, i < 13 → ∀ j, j < slen.getD i 0 → Cond.eq (.elem (.field (tmS i) "java/lang/String" "value" "[B") (.int (Int32.ofNat j))) (.int ((sbyt.getD i []).getD j 0)) ∈ fl0 := by decide +kernel
theorem fl_ne0 : ∀ j, j < 13 → 0 < j → Cond.not (Cond.eq (tmS 0) (tmS j)) ∈ fl0 := by decide +kernel
theorem fl_ne1 : ∀ j, j < 13 → 1 < j → Cond.not (Cond.eq (tmS 1) (tmS j)) ∈ fl0 := by decide +kernel
theorem fl_ne2 : ∀ j, j < 13 → 2 < j → Cond.not (Cond.eq (tmS 2) (tmS j)) ∈ fl0 := by decide +kernel
theorem fl_ne3 : ∀ j, j < 13 → 3 < j → Cond.not (Cond.eq (tmS 3) (tmS j)) ∈ fl0 := by decide +kernel
theorem fl_ne4 : ∀ j, j < 13 → 4 < j → Cond.not (Cond.eq (tmS 4) (tmS j)) ∈ fl0 := by decide +kernel
theorem fl_ne5 : ∀ j, j < 13 → 5 < j → Cond.not (Cond.eq (tmS 5) (tmS j)) ∈ fl0 := by decide +kernel
theorem fl_ne6 : ∀ j, j < 13 → 6 < j → Cond.not (Cond.eq (tmS 6) (tmS j)) ∈ fl0 := by decide +kernel
theorem fl_ne7 : ∀ j, j < 13 → 7 < j → Cond.not (Cond.eq (tmS 7) (tmS j)) ∈ fl0 := by decide +kernel
theorem fl_ne8 : ∀ j, j < 13 → 8 < j → Cond.not (Cond.eq (tmS 8) (tmS j)) ∈ fl0 := by decide +kernel
theorem fl_ne9 : ∀ j, j < 13 → 9 < j → Cond.not (Cond.eq (tmS 9) (tmS j)) ∈ fl0 := by decide +kernel
theorem fl_ne10 : ∀ j, j < 13 → 10 < j → Cond.not (Cond.eq (tmS 10) (tmS j)) ∈ fl0 := by decide +kernel
theorem fl_ne11 : ∀ j, j < 13 → 11 < j → Cond.not (Cond.eq (tmS 11) (tmS j)) ∈ fl0 := by decide +kernel
theorem fl_lt : ∀ i j, i < 13 → j < 13 → i < j → Cond.not (Cond.eq (tmS i) (tmS j)) ∈ fl0 := by
  intro i j hi hj hij
  rcases (show i = 0 ∨ i = 1 ∨ i = 2 ∨ i = 3 ∨ i = 4 ∨ i = 5 ∨ i = 6 ∨ i = 7 ∨ i = 8 ∨ i = 9 ∨ i = 10 ∨ i = 11 by omega) with rfl | rfl | rfl | rfl | rfl | rfl | rfl | rfl | rfl | rfl | rfl | rfl
  · exact fl_ne0 j hj hij
  · exact fl_ne1 j hj hij
  · exact fl_ne2 j hj hij
  · exact fl_ne3 j hj hij
  · exact fl_ne4 j hj hij
  · exact fl_ne5 j hj hij
  · exact fl_ne6 j hj hij
  · exact fl_ne7 j hj hij
  · exact fl_ne8 j hj hij
  · exact fl_ne9 j hj hij
  · exact fl_ne10 j hj hij
  · exact fl_ne11 j hj hij
theorem fl_ne : ∀ i, i < 13 → ∀ j, j < 13 → i ≠ j → Cond.not (Cond.eq (tmS i) (tmS j)) ∈ fl0 ∨ Cond.not (Cond.eq (tmS j) (tmS i)) ∈ fl0 := by
  intro i hi j hj hij
  rcases Nat.lt_or_gt_of_ne hij with h | h
  · exact Or.inl (fl_lt i j hi hj h)
  · exact Or.inr (fl_lt j i hj hi h)
theorem fl_nc : ∀ p ∈ ncp, Cond.not (.castable p.1 p.2) ∈ fl0 := by decide +kernel
theorem fl_cs : Cond.eq (.static "java/lang/String" "COMPACT_STRINGS" "Z") (.int 1) ∈ fl0 := by decide +kernel
theorem fl_si : Cond.isRef (.static "jdk/internal/util/Preconditions" "SIOOBE_FORMATTER" "Ljava/util/function/BiFunction;") ∈ fl0 := by decide +kernel
theorem tb_sr {s : State} {args : Array Value} (h : ∀ w ∈ lw_tbl, w.before args s = true) : ∀ i, i < 13 → (Cond.stringRef "LifeNoes$TextReader" (sidx.getD i 0) (stxt.getD i "")).before args s = true := by
  intro i hi
  rcases (show i = 0 ∨ i = 1 ∨ i = 2 ∨ i = 3 ∨ i = 4 ∨ i = 5 ∨ i = 6 ∨ i = 7 ∨ i = 8 ∨ i = 9 ∨ i = 10 ∨ i = 11 ∨ i = 12 by omega) with rfl | rfl | rfl | rfl | rfl | rfl | rfl | rfl | rfl | rfl | rfl | rfl | rfl
  · exact h _ (tin_2 (List.mem_of_getElem? (i := 139) rfl))
  · exact h _ (tin_2 (List.mem_of_getElem? (i := 192) rfl))
  · exact h _ (tin_2 (List.mem_of_getElem? (i := 193) rfl))
  · exact h _ (tin_2 (List.mem_of_getElem? (i := 194) rfl))
  · exact h _ (tin_2 (List.mem_of_getElem? (i := 195) rfl))
  · exact h _ (tin_2 (List.mem_of_getElem? (i := 196) rfl))
  · exact h _ (tin_2 (List.mem_of_getElem? (i := 201) rfl))
  · exact h _ (tin_2 (List.mem_of_getElem? (i := 206) rfl))
  · exact h _ (tin_2 (List.mem_of_getElem? (i := 219) rfl))
  · exact h _ (tin_2 (List.mem_of_getElem? (i := 228) rfl))
  · exact h _ (tin_2 (List.mem_of_getElem? (i := 233) rfl))
  · exact h _ (tin_2 (List.mem_of_getElem? (i := 238) rfl))
  · exact h _ (tin_2 (List.mem_of_getElem? (i := 239) rfl))
theorem known_C {s : State} {args : Array Value} (h : ∀ w ∈ lw_tbl, w.before args s = true) : EXC s :=
  ⟨va_Nw.of rfl (h _ (tin_1 (List.mem_of_getElem? (i := 104) rfl))),
   va_Nw.of rfl (h _ (tin_1 (List.mem_of_getElem? (i := 124) rfl))),
   va_Nw.of rfl (h _ (tin_1 (List.mem_of_getElem? (i := 160) rfl))),
   va_Nw.of rfl (h _ (tin_1 (List.mem_of_getElem? (i := 179) rfl))),
   ao_of (h _ (tin_1 (List.mem_of_getElem? (i := 158) rfl))),
   ao_of (h _ (tin_1 (List.mem_of_getElem? (i := 156) rfl))),
   ao_of (h _ (tin_1 (List.mem_of_getElem? (i := 36) rfl))),
   va_Nw.of rfl (h _ (tin_7 (List.mem_of_getElem? (i := 131) rfl))),
   va_Nw.of rfl (h _ (tin_7 (List.mem_of_getElem? (i := 132) rfl))),
   va_Nw.of rfl (h _ (tin_7 (List.mem_of_getElem? (i := 133) rfl))),
   va_Nw.of rfl (h _ (tin_7 (List.mem_of_getElem? (i := 134) rfl))),
   va_Nw.of rfl (h _ (tin_7 (List.mem_of_getElem? (i := 135) rfl)))⟩
theorem known_I {s : State} {args : Array Value} (h : ∀ w ∈ lw_tbl, w.before args s = true) (hf : ∀ w ∈ fl0, w.before args s = true) : EXI s :=
  ⟨va_Nw.of rfl (h _ (tin_7 (List.mem_of_getElem? (i := 129) rfl))),
   va_Nw.of rfl (h _ (tin_7 (List.mem_of_getElem? (i := 130) rfl))),
   fun p hp => va_Nc.of (hf _ (fl_nc p hp))⟩
theorem known_S {s : State} {args : Array Value} (h : ∀ w ∈ lw_tbl, w.before args s = true) (hf : ∀ w ∈ fl0, w.before args s = true) : ∃ adK adV : Nat → Nat, EXS adK adV (fun q => s.heap.size ≤ q) s s.heap := by
  have hA : ∀ a : Nat, a < s.heap.size → ¬ (fun q : Nat => s.heap.size ≤ q) a := fun a ha hb => absurd ha (Nat.not_lt.mpr hb)
  obtain ⟨adK, adV, hS, he⟩ := vk_Sof (A := fun q => s.heap.size ≤ q) (N := 13) (tm := tmS) (len := slen) (byt := sbyt) (by decide +kernel) (fun i hi => hf _ (fl_ex i hi)) (fun i hi => hf _ (fl_co i hi)) (fun i hi => hf _ (fl_ar i hi)) (fun i hi => hf _ (fl_le i hi)) (fun i hi j hj => hf _ (fl_el i hi j hj)) (fun i j hi hj hij => (fl_ne i hi j hj hij).imp (hf _) (hf _)) hA
  refine ⟨adK, adV, hS, ?_, ?_, fun i hi => vk_R.of (tb_sr h i hi) (he i hi), ?_⟩
  · exact va_Zof (h _ (tin_2 (List.mem_of_getElem? (i := 153) rfl))) (h _ (tin_1 (List.mem_of_getElem? (i := 16) rfl))) (va_eqt (hf _ fl_cs)) hA
  · exact va_Zqof (h _ (tin_2 (List.mem_of_getElem? (i := 169) rfl))) (h _ (tin_1 (List.mem_of_getElem? (i := 18) rfl))) (hf _ fl_si) hA
  · exact va_Nw.of rfl (h _ (tin_2 (List.mem_of_getElem? (i := 126) rfl)))
abbrev E0 (adK adV : Nat → Nat) : (Nat → Prop) → State → Heap → Prop := fun A U H => EXS adK adV A U H ∧ EXI U ∧ EXC U
theorem E0_ok (adK adV : Nat → Nat) : EOk (E0 adK adV) := by
  refine ⟨fun A u U H hW h => ?_, fun A U H H1 h hq => ?_, fun A B U H h hAB => ?_, fun A u U H hv h => ?_⟩
  · obtain ⟨⟨h1, h2, h3, h4, h5⟩, ⟨i1, i2, i3⟩, n1, n2, n3, n4, a1, a2, a3, k1, k2, k3, k4, k5⟩ := h
    exact ⟨⟨h1.moved hW.alike, h2.moved hW.alike, h3.moved hW.alike, fun j hj => (h4 j hj).warm hW, h5.warmM hW⟩, ⟨i1.warmC hW, i2.warmC hW, fun p hp => (i3 p hp).moved hW.alike⟩, n1.warmM hW, n2.warmM hW, n3.warmM hW, n4.warmM hW, ao_moved hW.alike a1, ao_moved hW.alike a2, ao_moved hW.alike a3, k1.warmC hW, k2.warmC hW, k3.warmC hW, k4.warmC hW, k5.warmC hW⟩
  · obtain ⟨⟨h1, h2, h3, h4, h5⟩, hi, hc⟩ := h
    exact ⟨⟨h1.kept hq, h2.kept hq, h3.kept hq, h4, h5⟩, hi, hc⟩
  · obtain ⟨⟨h1, h2, h3, h4, h5⟩, hi, hc⟩ := h
    exact ⟨⟨h1.narrow hAB, h2.narrow hAB, h3.narrow hAB, h4, h5⟩, hi, hc⟩
  · obtain ⟨⟨h1, h2, h3, h4, h5⟩, ⟨i1, i2, i3⟩, n1, n2, n3, n4, a1, a2, a3, k1, k2, k3, k4, k5⟩ := h
    have hal : u.vm.Alike U.vm := by rw [hv]; exact Vm.Alike.refl _
    exact ⟨⟨h1.moved hal, h2.moved hal, h3.moved hal, fun j hj => vk_R.same hv.symm (h4 j hj), va_Nw.same rfl hv h5⟩, ⟨va_Nw.same rfl hv i1, va_Nw.same rfl hv i2, fun p hp => (i3 p hp).moved hal⟩, va_Nw.same rfl hv n1, va_Nw.same rfl hv n2, va_Nw.same rfl hv n3, va_Nw.same rfl hv n4, ao_moved hal a1, ao_moved hal a2, ao_moved hal a3, va_Nw.same rfl hv k1, va_Nw.same rfl hv k2, va_Nw.same rfl hv k3, va_Nw.same rfl hv k4, va_Nw.same rfl hv k5⟩
theorem rel_first : REL O0 V0 V0 s00 (fun _ => S0) s00 M0 := by
  refine ⟨⟨0, 0, ⟨⟨by omega, by omega, by decide +kernel, by decide +kernel, by decide +kernel, by decide +kernel⟩, fun p hp => absurd hp (Nat.not_lt_zero p), fun q hq => absurd hq (Nat.not_lt_zero q), by decide +kernel, by decide +kernel, by decide +kernel, ⟨1, by omega, by omega, by decide +kernel⟩, ⟨0, by omega, by decide +kernel⟩, ⟨0, by omega, by decide +kernel⟩⟩, fun p hp => absurd hp (Nat.not_lt_zero p), ⟨by decide +kernel, 1, by omega, by omega, by decide +kernel⟩, by decide +kernel, by decide +kernel, by decide +kernel⟩,
    ⟨by decide +kernel, by decide +kernel, by decide +kernel, by decide +kernel, by decide +kernel, by decide +kernel, by decide +kernel⟩,
    ⟨0, ⟨by omega, by decide +kernel, by decide +kernel, fun i hi => absurd hi (Nat.not_lt_zero i)⟩, fun i hi => absurd hi (Nat.not_lt_zero i)⟩,
    ⟨0, by omega, by decide +kernel, by decide +kernel, fun i hi => absurd hi (Nat.not_lt_zero i)⟩, fun q hq => ?_, fun q hq => Or.inl ?_,
    ⟨0, by omega, by decide +kernel, by decide +kernel, fun i hi => absurd hi (Nat.not_lt_zero i)⟩, Or.inl ⟨by decide +kernel, by decide +kernel⟩⟩
  · rcases (show q = 0 ∨ q = 1 ∨ q = 2 ∨ q = 3 by omega) with rfl | rfl | rfl | rfl <;>
      exact ⟨by decide +kernel, by decide +kernel, Or.inl (by decide +kernel), ⟨0, by omega, by decide +kernel⟩, fun i hi => (by decide : (0 : Int64) = (0 : Int32).toInt64)⟩
  · rcases (show q = 0 ∨ q = 1 ∨ q = 2 ∨ q = 3 by omega) with rfl | rfl | rfl | rfl <;> exact ⟨by decide +kernel, by decide +kernel⟩
