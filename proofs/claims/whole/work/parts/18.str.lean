/-! The JDK's own methods on the text reader's words. -/
def slen : List Nat := [5, 5, 3, 4, 6, 4, 3, 4, 8, 5, 4, 4, 4]
def sbyt : List (List Int32) := [[115, 97, 121, 101, 114], [113, 117, 105, 99, 107], [98, 97, 114], [119, 97, 105, 116], [108, 101, 97, 103, 117, 101], [116, 111, 108, 100], [97, 103, 101], [110, 111, 101, 115], [112, 114, 111, 112, 111, 115, 97, 108], [119, 111, 114, 116, 104], [110, 101, 101, 100], [103, 114, 111, 119], [116, 117, 114, 110]]
def sidx : List Nat := [131, 133, 105, 135, 137, 139, 99, 107, 71, 120, 80, 86, 88]
def stxt : List String := ["sayer", "quick", "bar", "wait", "league", "told", "age", "noes", "proposal", "worth", "need", "grow", "turn"]
/-- the byte at k of the word j -/
def sch (j : Nat) (i : Int32) : Int32 := (sbyt.getD j []).getD i.toNatClampNeg 0 &&& 255
/-- what is known of words and statics -/
def EXS (adK adV : Nat → Nat) (A : Nat → Prop) (U : State) (H : Heap) : Prop :=
  vk_S 13 slen sbyt adK adV A U H ∧ va_Z "java/lang/String" "COMPACT_STRINGS" "Z" (.int 1) A U H ∧ va_Zq "jdk/internal/util/Preconditions" "SIOOBE_FORMATTER" "Ljava/util/function/BiFunction;" A U H ∧
    (∀ j : Nat, j < 13 → vk_R "LifeNoes$TextReader" (sidx.getD j 0) (stxt.getD j "") (adK j) U) ∧ va_Nw (.methodLinkNest "LifeNoes$TextReader" 149 ⟨"LifeNoes", "within", "(III)Z"⟩ "LifeNoes") U
abbrev HX (G : g_G) (adK adV : Nat → Nat) : Prop := ∀ (A : Nat → Prop) (U : State) (H : Heap), G.2.2 A U H → EXS adK adV A U H
section K18
variable {p : Program} {l : Launch} {e : Env} {R : Room} {s : State} {m : MethodId} {args : Array Value} {below : List Frame} {meth : Method} {c : Code} {H : Heap} {locs : List Loc} {cells slots : Nat} {Q : State → Prop}
variable {cc : ByteArray} {nL pc : Nat} {ls : Array Slot} {rest st0 : List Value} {G : g_G} {A : Nat → Prop} {own : String} {w w1 wc X Y : va_W}
section Calls
variable {y : MethodName} {bytes : ByteArray} {maxL idx n : Nat} {ret : Option FieldType} {rm : Room} {As : List Value} {b : Addr} {C : String} {ty : FieldType}
theorem scall_v (XX : Cx G A p s m meth c cc nL own args) (I : Iv G A s H locs w) (hls : ls.size = nL) (hc : HV l G y (Cond.code y bytes maxL ret :: gT) rm As [] []) (k : KS own idx y bytes maxL ret n) (hn : As.length = n) (hst : st0 = As.reverse ++ rest) (hcat : (rest.map fun v => v.category).sum ≤ 8)
    (hR : rm.cells = 0 ∧ rm.slots = 0 ∧ rm.frames + 1 ≤ R.frames ∧ 8 + (maxL + 11) + rm.locals ≤ R.locals) (hcs : cells ≤ R.cells ∧ slots ≤ R.slots) (hdg : decode cc pc = .ok (.invokestatic idx, 3))
    (kk : ∀ (H1 : Heap) (locs1 : List Loc), Iv G A s H1 locs1 w → W p l e R s m args below meth c H1 locs1 cells slots Q (F0 m (pc + 3) ls rest)) : W p l e R s m args below meth c H locs cells slots Q (F0 m pc ls st0) := by
  subst hst
  have I2 := I.none
  refine va_callv (va_runS (As := As) (rest := rest) XX.fix (hc H.size) (va_cwS n XX.t k.1 rfl hR.1 hR.2.1 k.2 hR.2.2) ⟨blind0 XX.ok, fun U hU hW => ⟨rfl, by rw [hU], by rw [hU]; exact midP I2.1, va_K.moved hW.alike XX.K, (midD I2.2.1).weaken (fun _ _ _ _ => trivial), XX.Ec I2 hU hW⟩⟩ rfl hn hls rfl (lv_room hcat) hdg ⟨hcs.1, hcs.2⟩) I.2.2.1 (fun q _ h => midF I2.2.1 I.2.2.1 I.2.2.2 q h) (midF I2.2.1 I.2.2.1 I.2.2.2) (fun u t H1 locs1 ht hvm hw hB hz1 hk1 hS => ?_)
  obtain ⟨hP1, -, hD1⟩ := hB
  rw [ht] at hP1
  exact kk H1 locs1 (I2.back hk1 hP1 hD1 hS)
/-- a static function of a nest mate -/
theorem nscall_i {r : Int32} {host : String} (XX : Cx G A p s m meth c cc nL own args) (I : Iv G A s H locs w) (hls : ls.size = nL) (hc : HI l G y (Cond.code y bytes maxL ret :: gT) rm ty As [] r []) (hnest : va_Nw (.methodLinkNest own idx y host) s) (k1 : Cond.static y ∈ gT) (k2 : Cond.initialized y.cls ∈ gT) (k3 : Cond.code y bytes maxL ret ∈ gT) (k4 : y.cls ≠ "java/lang/invoke/MethodHandle" ∧ y.cls ≠ "java/lang/invoke/VarHandle" ∧ (parseMethodDescriptor y.desc).map (fun d => d.parameters.length) = some n) (hn : As.length = n) (hst : st0 = As.reverse ++ rest) (hcat : (rest.map fun v => v.category).sum ≤ 8)
    (hR : rm.cells = 0 ∧ rm.slots = 0 ∧ rm.frames + 1 ≤ R.frames ∧ 8 + (maxL + 11) + rm.locals ≤ R.locals) (hcs : cells ≤ R.cells ∧ slots ≤ R.slots) (hdg : decode cc pc = .ok (.invokestatic idx, 3))
    (kk : ∀ (H1 : Heap) (locs1 : List Loc), narrow ty (.int r) = .int r → Iv G A s H1 locs1 w → W p l e R s m args below meth c H1 locs1 cells slots Q (F0 m (pc + 3) ls (.int r :: rest))) : W p l e R s m args below meth c H locs cells slots Q (F0 m pc ls st0) := by
  subst hst
  have I2 := I.none
  have hG : GoodIn gT (Cond.code y bytes maxL ret :: gT) := fun w hw => by
    rcases List.mem_cons.mp hw with rfl | hw
    · exact good_all _ k3
    · exact good_all w hw
  refine va_calli (va_runSN (As := As) (rest := rest) XX.fix (hc H.size) ⟨va_cnB n XX.t hG rfl hR.1 hR.2.1 hnest (XX.t _ k2) k4 hR.2.2, XX.t _ k1, trivial⟩ ⟨blind0 XX.ok, fun U hU hW => ⟨rfl, by rw [hU], by rw [hU]; exact midP I2.1, va_K.moved hW.alike XX.K, (midD I2.2.1).weaken (fun _ _ _ _ => trivial), XX.Ec I2 hU hW⟩⟩ rfl hn hls rfl (lv_room hcat) hdg ⟨hcs.1, hcs.2⟩) I.2.2.1 (fun q _ h => midF I2.2.1 I.2.2.1 I.2.2.2 q h) (midF I2.2.1 I.2.2.1 I.2.2.2) (fun r1 u t H1 locs1 ht hvm hw hB hz1 hk1 hS => ?_)
  obtain ⟨hP1, -, hD1⟩ := hB
  rw [ht] at hP1
  obtain ⟨rfl, hz⟩ := hw
  exact kk H1 locs1 hz (I2.back hk1 hP1 hD1 hS)
end Calls
theorem vin_neg {x : Int32} {n : Nat} (h : vp_in x n) : ¬ x < 0 := fun q => h (Or.inl q)
theorem vin_ltI {x : Int32} {n : Nat} (h : vp_in x n) (hn : n < 2 ^ 31) : x < Int32.ofNat n := by
  have h1 : ¬ x < 0 := vin_neg h
  have h2 : x.toNatClampNeg < n := vin_lt h
  rw [Int32.lt_iff_toInt_lt] at h1 ⊢
  rw [Int32.toInt_ofNat_of_lt hn]
  have h0 : (0 : Int32).toInt = 0 := rfl
  rw [h0] at h1
  have : (x.toNatClampNeg : Int) = x.toInt := by
    show ((x.toInt.toNat : Nat) : Int) = x.toInt
    omega
  omega
theorem rc_str {adK adV : Nat → Nat} {j : Nat} (E : EXS adK adV A s s.heap) (hj : j < 13) (I : Iv G A s H locs w) : Rc s H "java/lang/String" (adK j) := vk_recv E.1 hj I.2.2.1
end K18
theorem kV_J0_335 : KV RJ0 335 RJ0 yJ0_coder_7d493 cJ0_coder_7d493 1 (some .byte) 0 := KV.mk wd_388 wd_389 wd_390 wd_16 wd_391 (by decide +kernel)
theorem kV_J0_492 : KV RJ0 492 RJ0 yJ0_isLatin1_aae02 cJ0_isLatin1_aae02 1 (some .boolean) 0 := KV.mk wd_398 wd_399 wd_400 wd_16 wd_401 (by decide +kernel)
theorem kS_J0_1059 : KS RJ0 1059 yJ3_checkIndex_8e157 cJ3_checkIndex_8e157 3 (some .int) 3 := KS.mk wd_410 wd_411 wd_18 wd_412 (by decide +kernel)
theorem kS_J1_9 : KS RJ1 9 yJ0_checkIndex_df160 cJ0_checkIndex_df160 2 none 2 := KS.mk wd_405 wd_406 wd_16 wd_407 (by decide +kernel)
theorem kS_J0_495 : KS RJ0 495 yJ1_charAt_3b067 cJ1_charAt_3b067 2 (some .char) 2 := KS.mk wd_402 wd_403 wd_17 wd_404 (by decide +kernel)
set_option maxRecDepth 100000 in
theorem j_coder (l : Launch) (G : g_G) (OK : EOk G.2.2) (adK adV : Nat → Nat) (hX : HX G adK adV) (j : Nat) (hj : j < 13) : HI l G yJ0_coder_7d493 (Cond.code yJ0_coder_7d493 cJ0_coder_7d493 1 (some .byte) :: gT) { frames := 0, cells := 0, slots := 0, locals := 0 } .byte [.ref (adK j)] [] 0 [] := by
  refine HI.mk (lv := [(0, .ref (adK j))]) OK (by decide) (Nat.le_of_ble_eq_true rfl) rfl ?_
  intro p e s0 m args below meth c ls XX hr I hl
  have hx := XX.x
  have hb := XX.b
  have E := hX _ _ _ XX.E
  refine va_gets hx hb E.2.1 I.2.2.1 XX.o (XX.t _ wd_392) (fun _ h => h) dJ0_coder_7d493_0 ?_
  refine lv_if_eq (tgt := 13) hx hb dJ0_coder_7d493_3 (by decide) (fun c1 => absurd c1 (by decide)) (fun c1 => ?_)
  refine lv_aload_n hx hb dJ0_coder_7d493_6 rfl (lv_at hl 0 rfl) ?_
  refine vk_getf hx hb (E.1.1 j hj).2.1 I.2.2.1 XX.o (XX.t _ wd_1577) (fun _ h => h) dJ0_coder_7d493_7 ?_
  refine lv_goto (tgt := 14) hx hb dJ0_coder_7d493_10 (by decide) ?_
  exact e_z XX hr I rfl rfl dJ0_coder_7d493_14
set_option maxRecDepth 100000 in
theorem j_isLatin1 (l : Launch) (G : g_G) (OK : EOk G.2.2) (adK adV : Nat → Nat) (hX : HX G adK adV) (j : Nat) (hj : j < 13) : HI l G yJ0_isLatin1_aae02 (Cond.code yJ0_isLatin1_aae02 cJ0_isLatin1_aae02 1 (some .boolean) :: gT) { frames := 0, cells := 0, slots := 0, locals := 0 } .boolean [.ref (adK j)] [] 1 [] := by
  refine HI.mk (lv := [(0, .ref (adK j))]) OK (by decide) (Nat.le_of_ble_eq_true rfl) rfl ?_
  intro p e s0 m args below meth c ls XX hr I hl
  have hx := XX.x
  have hb := XX.b
  have E := hX _ _ _ XX.E
  refine va_gets hx hb E.2.1 I.2.2.1 XX.o (XX.t _ wd_392) (fun _ h => h) dJ0_isLatin1_aae02_0 ?_
  refine lv_if_eq (tgt := 17) hx hb dJ0_isLatin1_aae02_3 (by decide) (fun c1 => absurd c1 (by decide)) (fun c1 => ?_)
  refine lv_aload_n hx hb dJ0_isLatin1_aae02_6 rfl (lv_at hl 0 rfl) ?_
  refine vk_getf hx hb (E.1.1 j hj).2.1 I.2.2.1 XX.o (XX.t _ wd_1577) (fun _ h => h) dJ0_isLatin1_aae02_7 ?_
  refine lv_if_ne (tgt := 17) hx hb dJ0_isLatin1_aae02_10 (by decide) (fun c1 => absurd rfl c1) (fun c1 => ?_)
  refine lv_iconst (v := 1) hx hb dJ0_isLatin1_aae02_13 (by decide) ?_
  refine lv_goto (tgt := 18) hx hb dJ0_isLatin1_aae02_14 (by decide) ?_
  exact e_z XX hr I rfl rfl dJ0_isLatin1_aae02_18
set_option maxRecDepth 100000 in
theorem j_length (l : Launch) (G : g_G) (OK : EOk G.2.2) (adK adV : Nat → Nat) (hX : HX G adK adV) (j : Nat) (hj : j < 13) (r : Int32) (hlr : Int32.ofNat (slen.getD j 0) = r) (hsh : r >>> ((0 : Int32) &&& 31) = r) : HI l G yJ0_length_8abf5 (Cond.code yJ0_length_8abf5 cJ0_length_8abf5 1 (some .int) :: gT) { frames := 1, cells := 0, slots := 0, locals := 20 } .int [.ref (adK j)] [] r [] := by
  refine HI.mk (lv := [(0, .ref (adK j))]) OK (by decide) (Nat.le_of_ble_eq_true rfl) rfl ?_
  intro p e s0 m args below meth c ls XX hr I hl
  have hx := XX.x
  have hb := XX.b
  have E := hX _ _ _ XX.E
  refine lv_aload_n hx hb dJ0_length_8abf5_0 rfl (lv_at hl 0 rfl) ?_
  refine vk_getf hx hb (E.1.1 j hj).2.2.1 I.2.2.1 XX.o (XX.t _ wd_1576) (fun _ h => h) dJ0_length_8abf5_1 ?_
  refine va_tlen hx hb (E.1.1 j hj).2.2.2 I.2.2.1 hlr dJ0_length_8abf5_4 ?_
  refine lv_aload_n hx hb dJ0_length_8abf5_5 rfl (lv_at hl 0 rfl) ?_
  refine call_i (X := []) (wc := []) (Y := []) (rest := [.int r]) XX I hl.1 (j_coder l G OK adK adV hX j hj) kV_J0_335 (rc_str E hj I) rfl rfl (Nat.le_of_ble_eq_true rfl) ⟨rfl, rfl, Nat.le_of_ble_eq_true rfl, Nat.le_of_ble_eq_true rfl⟩ ⟨Nat.zero_le _, Nat.zero_le _⟩ dJ0_length_8abf5_6 (fun H locs hz I => ?_)
  refine lv_ishr hx hb dJ0_length_8abf5_9 ?_
  exact e_i rfl XX hr I hsh dJ0_length_8abf5_10
set_option maxRecDepth 100000 in
theorem j_pre0 (l : Launch) (G : g_G) (OK : EOk G.2.2) (x n : Int32) (h1 : ¬ x < 0) (h2 : x < n) : HI l G yJ3_checkIndex_8e157 (Cond.code yJ3_checkIndex_8e157 cJ3_checkIndex_8e157 3 (some .int) :: gT) { frames := 0, cells := 0, slots := 0, locals := 0 } .int [.int x, .int n, .null] [] x [] := by
  refine HI.mk (lv := [(0, .int x), (1, .int n), (2, .null)]) OK (by decide) (Nat.le_of_ble_eq_true rfl) rfl ?_
  intro p e s0 m args below meth c ls XX hr I hl
  have hx := XX.x
  have hb := XX.b
  refine lv_iload_n hx hb dJ3_checkIndex_8e157_0 rfl (lv_at hl 0 rfl) ?_
  refine lv_if_lt (tgt := 9) hx hb dJ3_checkIndex_8e157_1 (by decide) (fun c1 => absurd c1 h1) (fun c1 => ?_)
  refine lv_iload_n hx hb dJ3_checkIndex_8e157_4 rfl (lv_at hl 0 rfl) ?_
  refine lv_iload_n hx hb dJ3_checkIndex_8e157_5 rfl (lv_at hl 1 rfl) ?_
  refine lv_icmp_lt (tgt := 16) hx hb dJ3_checkIndex_8e157_6 (by decide) (fun c1 => ?_) (fun c1 => absurd h2 c1)
  refine lv_iload_n hx hb dJ3_checkIndex_8e157_16 rfl (lv_at hl 0 rfl) ?_
  exact e_i rfl XX hr I rfl dJ3_checkIndex_8e157_17
set_option maxRecDepth 100000 in
theorem j_pre1 (l : Launch) (G : g_G) (OK : EOk G.2.2) (x n : Int32) (f : Nat) (h1 : ¬ x < 0) (h2 : x < n) : HI l G yJ3_checkIndex_8e157 (Cond.code yJ3_checkIndex_8e157 cJ3_checkIndex_8e157 3 (some .int) :: gT) { frames := 0, cells := 0, slots := 0, locals := 0 } .int [.int x, .int n, .ref f] [] x [] := by
  refine HI.mk (lv := [(0, .int x), (1, .int n), (2, .ref f)]) OK (by decide) (Nat.le_of_ble_eq_true rfl) rfl ?_
  intro p e s0 m args below meth c ls XX hr I hl
  have hx := XX.x
  have hb := XX.b
  refine lv_iload_n hx hb dJ3_checkIndex_8e157_0 rfl (lv_at hl 0 rfl) ?_
  refine lv_if_lt (tgt := 9) hx hb dJ3_checkIndex_8e157_1 (by decide) (fun c1 => absurd c1 h1) (fun c1 => ?_)
  refine lv_iload_n hx hb dJ3_checkIndex_8e157_4 rfl (lv_at hl 0 rfl) ?_
  refine lv_iload_n hx hb dJ3_checkIndex_8e157_5 rfl (lv_at hl 1 rfl) ?_
  refine lv_icmp_lt (tgt := 16) hx hb dJ3_checkIndex_8e157_6 (by decide) (fun c1 => ?_) (fun c1 => absurd h2 c1)
  refine lv_iload_n hx hb dJ3_checkIndex_8e157_16 rfl (lv_at hl 0 rfl) ?_
  exact e_i rfl XX hr I rfl dJ3_checkIndex_8e157_17
set_option maxRecDepth 100000 in
theorem j_checkIndex (l : Launch) (G : g_G) (OK : EOk G.2.2) (adK adV : Nat → Nat) (hX : HX G adK adV) (x n : Int32) (h1 : ¬ x < 0) (h2 : x < n) : HV l G yJ0_checkIndex_df160 (Cond.code yJ0_checkIndex_df160 cJ0_checkIndex_df160 2 none :: gT) { frames := 1, cells := 0, slots := 0, locals := 22 } [.int x, .int n] [] [] := by
  refine HV.mk (lv := [(0, .int x), (1, .int n)]) OK (by decide) (Nat.le_of_ble_eq_true rfl) rfl ?_
  intro p e s0 m args below meth c ls XX hr I hl
  have hx := XX.x
  have hb := XX.b
  have E := hX _ _ _ XX.E
  refine lv_iload_n hx hb dJ0_checkIndex_df160_0 rfl (lv_at hl 0 rfl) ?_
  refine lv_iload_n hx hb dJ0_checkIndex_df160_1 rfl (lv_at hl 1 rfl) ?_
  rcases E.2.2.1 with hZ | ⟨f, hZ⟩
  · refine va_gets hx hb hZ I.2.2.1 XX.o (XX.t _ wd_408) (fun _ h => h) dJ0_checkIndex_df160_2 ?_
    refine scall_i (rest := []) XX I hl.1 (j_pre0 l G OK x n h1 h2) kS_J0_1059 rfl rfl (Nat.le_of_ble_eq_true rfl) ⟨rfl, rfl, Nat.le_of_ble_eq_true rfl, Nat.le_of_ble_eq_true rfl⟩ ⟨Nat.zero_le _, Nat.zero_le _⟩ dJ0_checkIndex_df160_5 (fun H locs hz I => ?_)
    refine lv_pop hx hb dJ0_checkIndex_df160_8 rfl ?_
    exact e_v XX hr I dJ0_checkIndex_df160_9
  · refine va_gets hx hb hZ I.2.2.1 XX.o (XX.t _ wd_408) (fun _ h => h) dJ0_checkIndex_df160_2 ?_
    refine scall_i (rest := []) XX I hl.1 (j_pre1 l G OK x n f h1 h2) kS_J0_1059 rfl rfl (Nat.le_of_ble_eq_true rfl) ⟨rfl, rfl, Nat.le_of_ble_eq_true rfl, Nat.le_of_ble_eq_true rfl⟩ ⟨Nat.zero_le _, Nat.zero_le _⟩ dJ0_checkIndex_df160_5 (fun H locs hz I => ?_)
    refine lv_pop hx hb dJ0_checkIndex_df160_8 rfl ?_
    exact e_v XX hr I dJ0_checkIndex_df160_9
set_option maxRecDepth 100000 in
theorem j_lat (l : Launch) (G : g_G) (OK : EOk G.2.2) (adK adV : Nat → Nat) (hX : HX G adK adV) (j : Nat) (hj : j < 13) (n x : Int32) (hlr : Int32.ofNat (slen.getD j 0) = n) (hin : vp_in x (slen.getD j 0)) (h1 : ¬ x < 0) (h2 : x < n) : HI l G yJ1_charAt_3b067 (Cond.code yJ1_charAt_3b067 cJ1_charAt_3b067 2 (some .char) :: gT) { frames := 2, cells := 0, slots := 0, locals := 43 } .char [.ref (adV j), .int x] [] (sch j x) [] := by
  refine HI.mk (lv := [(0, .ref (adV j)), (1, .int x)]) OK (by decide) (Nat.le_of_ble_eq_true rfl) rfl ?_
  intro p e s0 m args below meth c ls XX hr I hl
  have hx := XX.x
  have hb := XX.b
  have E := hX _ _ _ XX.E
  refine lv_iload_n hx hb dJ1_charAt_3b067_0 rfl (lv_at hl 1 rfl) ?_
  refine lv_aload_n hx hb dJ1_charAt_3b067_1 rfl (lv_at hl 0 rfl) ?_
  refine va_tlen hx hb (E.1.1 j hj).2.2.2 I.2.2.1 hlr dJ1_charAt_3b067_2 ?_
  refine scall_v (rest := []) XX I hl.1 (j_checkIndex l G OK adK adV hX x n h1 h2) kS_J1_9 rfl rfl (Nat.le_of_ble_eq_true rfl) ⟨rfl, rfl, Nat.le_of_ble_eq_true rfl, Nat.le_of_ble_eq_true rfl⟩ ⟨Nat.zero_le _, Nat.zero_le _⟩ dJ1_charAt_3b067_3 (fun H locs I => ?_)
  refine lv_aload_n hx hb dJ1_charAt_3b067_6 rfl (lv_at hl 0 rfl) ?_
  refine lv_iload_n hx hb dJ1_charAt_3b067_7 rfl (lv_at hl 1 rfl) ?_
  refine va_tb hx hb (E.1.1 j hj).2.2.2 I.2.2.1 hin rfl dJ1_charAt_3b067_8 ?_
  refine lv_sipush (v := 255) hx hb dJ1_charAt_3b067_9 (by decide) ?_
  refine lv_iand hx hb dJ1_charAt_3b067_12 ?_
  refine lv_i2c hx hb dJ1_charAt_3b067_13 (sc_c2 _) ?_
  exact e_z XX hr I (sc_nar _) rfl dJ1_charAt_3b067_14
set_option maxRecDepth 100000 in
theorem j_charAt (l : Launch) (G : g_G) (OK : EOk G.2.2) (adK adV : Nat → Nat) (hX : HX G adK adV) (j : Nat) (hj : j < 13) (n x : Int32) (hlr : Int32.ofNat (slen.getD j 0) = n) (hin : vp_in x (slen.getD j 0)) (h1 : ¬ x < 0) (h2 : x < n) : HI l G yJ0_charAt_5068e (Cond.code yJ0_charAt_5068e cJ0_charAt_5068e 2 (some .char) :: gT) { frames := 3, cells := 0, slots := 0, locals := 64 } .char [.ref (adK j), .int x] [] (sch j x) [] := by
  refine HI.mk (lv := [(0, .ref (adK j)), (1, .int x)]) OK (by decide) (Nat.le_of_ble_eq_true rfl) rfl ?_
  intro p e s0 m args below meth c ls XX hr I hl
  have hx := XX.x
  have hb := XX.b
  have E := hX _ _ _ XX.E
  refine lv_aload_n hx hb dJ0_charAt_5068e_0 rfl (lv_at hl 0 rfl) ?_
  refine call_i (X := []) (wc := []) (Y := []) (rest := []) XX I hl.1 (j_isLatin1 l G OK adK adV hX j hj) kV_J0_492 (rc_str E hj I) rfl rfl (Nat.le_of_ble_eq_true rfl) ⟨rfl, rfl, Nat.le_of_ble_eq_true rfl, Nat.le_of_ble_eq_true rfl⟩ ⟨Nat.zero_le _, Nat.zero_le _⟩ dJ0_charAt_5068e_1 (fun H locs hz I => ?_)
  refine lv_if_eq (tgt := 16) hx hb dJ0_charAt_5068e_4 (by decide) (fun c1 => absurd c1 (by decide)) (fun c1 => ?_)
  refine lv_aload_n hx hb dJ0_charAt_5068e_7 rfl (lv_at hl 0 rfl) ?_
  refine vk_getf hx hb (E.1.1 j hj).2.2.1 I.2.2.1 XX.o (XX.t _ wd_1576) (fun _ h => h) dJ0_charAt_5068e_8 ?_
  refine lv_iload_n hx hb dJ0_charAt_5068e_11 rfl (lv_at hl 1 rfl) ?_
  refine scall_i (rest := []) XX I hl.1 (j_lat l G OK adK adV hX j hj n x hlr hin h1 h2) kS_J0_495 rfl rfl (Nat.le_of_ble_eq_true rfl) ⟨rfl, rfl, Nat.le_of_ble_eq_true rfl, Nat.le_of_ble_eq_true rfl⟩ ⟨Nat.zero_le _, Nat.zero_le _⟩ dJ0_charAt_5068e_12 (fun H locs hz I => ?_)
  exact e_z XX hr I hz rfl dJ0_charAt_5068e_15
