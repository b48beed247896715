/-! Families of objects, references that are told by a number, virtual and super calls, static calls with cells. -/
abbrev g_Sf : Type := Nat → g_St
def ups (h : g_Sf) (q : Nat) (s : g_St) : g_Sf := fun j => if j = q then s else h j
def HQ (l : Launch) (G : g_G) (y : MethodName) (ws : List Cond) (rm : Room) (avs : List Value) (w : va_W) (r : Option Nat) (w1 : va_W) : Prop :=
  ∀ sz : Nat, Met l y ws rm (Pre0 G avs w sz) (va_Qq (fun (r1 : Option Nat) (_ : Unit) => r1 = r) (Bk G w w1 sz) (va_A w sz)) 0 0 (va_A w sz)
abbrev QQ (G : g_G) (below : List Frame) (r : Option Nat) (w w1 : va_W) (args : Array Value) (s : State) : State → Prop := MQ below (va_Qq (fun (r1 : Option Nat) (_ : Unit) => r1 = r) (Bk G w w1 s.heap.size) (va_A w s.heap.size)) args s 0 0 (va_A w s.heap.size)
section K15
variable {p : Program} {l : Launch} {e : Env} {R : Room} {s : State} {m : MethodId} {args : Array Value} {below : List Frame} {meth : Method} {c : Code} {H : Heap} {locs : List Loc} {cells slots : Nat} {Q : State → Prop}
variable {cc : ByteArray} {nL pc : Nat} {ls : Array Slot} {rest st0 : List Value} {G : g_G} {A : Nat → Prop} {own : String} {w w1 wc X Y : va_W}
theorem HQ.mk (OK : EOk G.2.2) {y : MethodName} {maxL : Nat} {ret : Option FieldType} {rm : Room} {avs : List Value} {r : Option Nat} {lv : List (Nat × Value)} (hy : plainName y.cls = true) (hn : (lg_sl avs).length ≤ maxL) (hlv : lv_args 0 avs = lv)
    (body : ∀ (p : Program) (e : Env) (s : State) (m : MethodId) (args : Array Value) (below : List Frame) (meth : Method) (c : Code) (ls : Array Slot), Cx G (va_A w s.heap.size) p s m meth c cc maxL y.cls args → meth.sig.returnType = ret → Iv G (va_A w s.heap.size) s s.heap [] w → lv_has ls maxL lv →
      W p l e rm s m args below meth c s.heap [] 0 0 (QQ G below r w w1 args s) (F0 m 0 ls [])) :
    HQ l G y (Cond.code y cc maxL ret :: gT) rm avs w r w1 := by
  intro sz
  refine Met.ofW (cc := cc) (maxL := maxL) (ret := ret) hy rfl ?_
  intro p e s m args below meth c s₁ B hml hv
  obtain ⟨rfl, rfl, hP, hK, hD0, hE⟩ := hv
  have hts := atoms_spec (ws := Cond.code y cc maxL ret :: gT) B.pre
  have hl := lv_entry avs (n := maxL) hn
  rw [lg_entry_eq]
  rw [hlv] at hl
  exact body p e s m _ below meth c _ ⟨B.exec, B.bytes, hml, findClass_of_methodNamed B.named, fun w h => hts w (List.mem_cons_of_mem _ h), hK, B.notSynchronized, OK, hE⟩ B.returns ⟨hP, hD0.self (sz := s.heap.size), va_S.rf, fun q h => Or.inr h⟩ hl
theorem e_q {r : Option Nat} {v : Value} {nm : String} (XX : Cx G (va_A w s.heap.size) p s m meth c cc nL own args) (hr : meth.sig.returnType = some (.object nm)) (I : Iv G (va_A w s.heap.size) s H locs w1) (hv : v = va_rf r) (hdg : decode cc pc = .ok (.areturn, 1)) :
    W p l e R s m args below meth c H locs 0 0 (QQ G below r w w1 args s) (F0 m pc ls [v]) :=
  W.aret XX.x XX.b hr (Or.inl ⟨nm, rfl⟩) (by rw [hv]; cases r with
    | none => exact Or.inl rfl
    | some a => exact Or.inr ⟨a, rfl⟩) (fun t ht hW => ⟨⟨r, (), by rw [hv], rfl, by rw [ht]; exact I.1, va_K.moved hW.alike XX.K, I.2.1⟩, I.2.2.1.F ht⟩) I.2.2.1.2.2 hdg XX.lk
section Calls
variable {y : MethodName} {bytes : ByteArray} {maxL idx n : Nat} {ret : Option FieldType} {rm : Room} {As : List Value} {b : Addr} {C : String} {ty : FieldType}
theorem call_q {r : Option Nat} (XX : Cx G A p s m meth c cc nL own args) (I : Iv G A s H locs (X ++ (wc ++ Y))) (hls : ls.size = nL) (hc : HQ l G y (Cond.code y bytes maxL ret :: gT) rm (.ref b :: As) wc r w1) (k : KV own idx C y bytes maxL ret n) (hrc : Rc s H C b) (hn : As.length = n) (hst : st0 = As.reverse ++ .ref b :: rest) (hcat : (rest.map fun v => v.category).sum ≤ 8)
    (hR : rm.cells = 0 ∧ rm.slots = 0 ∧ rm.frames + 1 ≤ R.frames ∧ 8 + (maxL + 11) + rm.locals ≤ R.locals) (hcs : cells ≤ R.cells ∧ slots ≤ R.slots) (hdg : decode cc pc = .ok (.invokevirtual idx, 3))
    (kk : ∀ (H1 : Heap) (locs1 : List Loc), Iv G A s H1 locs1 (X ++ (w1 ++ Y)) → W p l e R s m args below meth c H1 locs1 cells slots Q (F0 m (pc + 3) ls (va_rf r :: rest))) : W p l e R s m args below meth c H locs cells slots Q (F0 m pc ls st0) := by
  subst hst
  refine va_callq (va_runV (As := As) (rest := rest) XX.fix (hc H.size) (cwV n XX.t k.1 rfl hR.1 hR.2.1 k.2 hR.2.2) ⟨blind0 XX.ok, hrc, fun U hU hW => ⟨rfl, by rw [hU], by rw [hU]; exact midP I.1, va_K.moved hW.alike XX.K, (midD I.2.1).weaken (fun _ _ _ _ => trivial), XX.Ec I hU hW⟩⟩ rfl hn hls rfl (lv_room hcat) hdg ⟨hcs.1, hcs.2⟩) I.2.2.1 (fun q _ h => midF I.2.1 I.2.2.1 I.2.2.2 q h) (midF I.2.1 I.2.2.1 I.2.2.2) (fun r1 u t H1 locs1 ht hvm hw hB hz1 hk1 hS => ?_)
  obtain ⟨hP1, -, hD1⟩ := hB
  rw [ht] at hP1
  subst hw
  exact kk H1 locs1 (I.back hk1 hP1 hD1 hS)
/-- a static call with cells -/
theorem swcall_i {r : Int32} (XX : Cx G A p s m meth c cc nL own args) (I : Iv G A s H locs (X ++ (wc ++ Y))) (hls : ls.size = nL) (hc : HI l G y (Cond.code y bytes maxL ret :: gT) rm ty As wc r w1) (k : KS own idx y bytes maxL ret n) (hn : As.length = n) (hst : st0 = As.reverse ++ rest) (hcat : (rest.map fun v => v.category).sum ≤ 8)
    (hR : rm.cells = 0 ∧ rm.slots = 0 ∧ rm.frames + 1 ≤ R.frames ∧ 8 + (maxL + 11) + rm.locals ≤ R.locals) (hcs : cells ≤ R.cells ∧ slots ≤ R.slots) (hdg : decode cc pc = .ok (.invokestatic idx, 3))
    (kk : ∀ (H1 : Heap) (locs1 : List Loc), narrow ty (.int r) = .int r → Iv G A s H1 locs1 (X ++ (w1 ++ Y)) → W p l e R s m args below meth c H1 locs1 cells slots Q (F0 m (pc + 3) ls (.int r :: rest))) : W p l e R s m args below meth c H locs cells slots Q (F0 m pc ls st0) := by
  subst hst
  refine va_calli (va_runS (As := As) (rest := rest) XX.fix (hc H.size) (va_cwS n XX.t k.1 rfl hR.1 hR.2.1 k.2 hR.2.2) ⟨blind0 XX.ok, fun U hU hW => ⟨rfl, by rw [hU], by rw [hU]; exact midP I.1, va_K.moved hW.alike XX.K, (midD I.2.1).weaken (fun _ _ _ _ => trivial), XX.Ec I hU hW⟩⟩ rfl hn hls rfl (lv_room hcat) hdg ⟨hcs.1, hcs.2⟩) I.2.2.1 (fun q _ h => midF I.2.1 I.2.2.1 I.2.2.2 q h) (midF I.2.1 I.2.2.1 I.2.2.2) (fun r1 u t H1 locs1 ht hvm hw hB hz1 hk1 hS => ?_)
  obtain ⟨hP1, -, hD1⟩ := hB
  rw [ht] at hP1
  obtain ⟨rfl, hz⟩ := hw
  exact kk H1 locs1 hz (I.back hk1 hP1 hD1 hS)
end Calls
/-- a virtual call whose name is resolved in a class above -/
def KU (own : String) (idx : Nat) (C owner : String) (x y : MethodName) (bytes : ByteArray) (maxL : Nat) (ret : Option FieldType) (n : Nat) : Prop :=
  ∀ (R : Room) (s : State) (args : Array Value) (rm : Room), (∀ w ∈ gT, w.before args s = true) → rm.cells = 0 → rm.slots = 0 → (rm.frames + 1 ≤ R.frames ∧ 8 + (maxL + 11) + rm.locals ≤ R.locals) → va_CU R s args own C owner idx x y bytes maxL ret (Cond.code y bytes maxL ret :: gT) rm 0 0 n
theorem KU.mkU {own C owner : String} {idx : Nat} {x y : MethodName} {bytes : ByteArray} {maxL : Nat} {ret : Option FieldType} {n : Nat} (h1 : Cond.methodLink own idx x ∈ gT) (h2 : Cond.sameMethod x.cls owner x.name x.desc ∈ gT) (h3 : Cond.selects C x y ∈ gT) (h4 : Cond.instanceMethod y ∈ gT) (h5 : Cond.initialized y.cls ∈ gT) (h6 : Cond.code y bytes maxL ret ∈ gT)
    (hyx : y = ⟨owner, x.name, x.desc⟩) (hd : owner ≠ "java/lang/invoke/MethodHandle" ∧ owner ≠ "java/lang/invoke/VarHandle" ∧ (parseMethodDescriptor x.desc).map (fun d => d.parameters.length) = some n) : KU own idx C owner x y bytes maxL ret n := by
  intro R s args rm hts e1 e2 hR
  refine va_cwU n hts (fun w hw => good_all w ?_) rfl e1 e2 hyx hd hR
  simp only [va_wsU, List.cons_append, List.nil_append, List.mem_cons] at hw
  rcases hw with rfl | rfl | rfl | rfl | rfl | rfl | hw
  · exact h1
  · exact h2
  · exact h3
  · exact h4
  · exact h5
  · exact h6
  · exact hw
theorem KU.mkO {own C owner : String} {idx : Nat} {x y : MethodName} {bytes b0 : ByteArray} {maxL m0 : Nat} {ret r0 : Option FieldType} {n : Nat} (h1 : Cond.methodLink own idx x ∈ gT) (h2 : Cond.sameMethod x.cls owner x.name x.desc ∈ gT) (h3 : Cond.selects C x y ∈ gT) (h4 : Cond.instanceMethod y ∈ gT) (h5 : Cond.initialized y.cls ∈ gT) (h6 : Cond.code y bytes maxL ret ∈ gT)
    (h7 : Cond.instanceMethod ⟨owner, x.name, x.desc⟩ ∈ gT) (h8 : Cond.code ⟨owner, x.name, x.desc⟩ b0 m0 r0 ∈ gT) (hd : owner ≠ "java/lang/invoke/MethodHandle" ∧ owner ≠ "java/lang/invoke/VarHandle" ∧ (parseMethodDescriptor x.desc).map (fun d => d.parameters.length) = some n) : KU own idx C owner x y bytes maxL ret n := by
  intro R s args rm hts e1 e2 hR
  refine va_cwO n hts (fun w hw => good_all w ?_) rfl e1 e2 h8 hd hR
  simp only [va_wsO, List.cons_append, List.nil_append, List.mem_cons] at hw
  rcases hw with rfl | rfl | rfl | rfl | rfl | rfl | rfl | hw
  · exact h1
  · exact h2
  · exact h7
  · exact h3
  · exact h4
  · exact h5
  · exact h6
  · exact hw
theorem ucall_i {x y : MethodName} {bytes : ByteArray} {maxL idx n : Nat} {ret : Option FieldType} {rm : Room} {As : List Value} {b : Addr} {C owner : String} {ty : FieldType} {r : Int32} (XX : Cx G A p s m meth c cc nL own args) (I : Iv G A s H locs (X ++ (wc ++ Y))) (hls : ls.size = nL) (hc : HI l G y (Cond.code y bytes maxL ret :: gT) rm ty (.ref b :: As) wc r w1) (k : KU own idx C owner x y bytes maxL ret n) (hrc : Rc s H C b) (hn : As.length = n) (hst : st0 = As.reverse ++ .ref b :: rest) (hcat : (rest.map fun v => v.category).sum ≤ 8)
    (hR : rm.cells = 0 ∧ rm.slots = 0 ∧ rm.frames + 1 ≤ R.frames ∧ 8 + (maxL + 11) + rm.locals ≤ R.locals) (hcs : cells ≤ R.cells ∧ slots ≤ R.slots) (hdg : decode cc pc = .ok (.invokevirtual idx, 3))
    (kk : ∀ (H1 : Heap) (locs1 : List Loc), narrow ty (.int r) = .int r → Iv G A s H1 locs1 (X ++ (w1 ++ Y)) → W p l e R s m args below meth c H1 locs1 cells slots Q (F0 m (pc + 3) ls (.int r :: rest))) : W p l e R s m args below meth c H locs cells slots Q (F0 m pc ls st0) := by
  subst hst
  refine va_calli (va_runU (As := As) (rest := rest) XX.fix (hc H.size) (k R s args rm XX.t hR.1 hR.2.1 hR.2.2) ⟨blind0 XX.ok, hrc, fun U hU hW => ⟨rfl, by rw [hU], by rw [hU]; exact midP I.1, va_K.moved hW.alike XX.K, (midD I.2.1).weaken (fun _ _ _ _ => trivial), XX.Ec I hU hW⟩⟩ rfl hn hls rfl (lv_room hcat) hdg ⟨hcs.1, hcs.2⟩) I.2.2.1 (fun q _ h => midF I.2.1 I.2.2.1 I.2.2.2 q h) (midF I.2.1 I.2.2.1 I.2.2.2) (fun r1 u t H1 locs1 ht hvm hw hB hz1 hk1 hS => ?_)
  obtain ⟨hP1, -, hD1⟩ := hB
  rw [ht] at hP1
  obtain ⟨rfl, hz⟩ := hw
  exact kk H1 locs1 hz (I.back hk1 hP1 hD1 hS)
/-- a super call: the name x is resolved in the class above own, its method y stands there or above that -/
def KP (own : String) (idx : Nat) (x y : MethodName) (bytes : ByteArray) (maxL : Nat) (ret : Option FieldType) (n : Nat) : Prop :=
  Cond.methodLink own idx x ∈ gT ∧ Cond.sameMethod x.cls y.cls x.name x.desc ∈ gT ∧ Cond.superclass own x.cls ∈ gT ∧ Cond.instanceMethod y ∈ gT ∧ Cond.initialized y.cls ∈ gT ∧ Cond.code y bytes maxL ret ∈ gT ∧ y = ⟨y.cls, x.name, x.desc⟩ ∧ x.name ≠ "<init>" ∧ (x.cls = y.cls ∨ Cond.superclass x.cls y.cls ∈ gT) ∧ (parseMethodDescriptor y.desc).map (fun d => d.parameters.length) = some n
theorem super_up {T : State} (XX : Cx G A p s m meth c cc nL own args) (X0 : Stand p l e R s m args below meth c T locs cells slots) {idx n maxL : Nat} {x y : MethodName} {bytes : ByteArray} {ret : Option FieldType} (k : KP own idx x y bytes maxL ret n)
    {b : Addr} {cellB : Cell} {kB : Class} (hcell : T.heap[b]? = some cellB) (hobj : cellB.vm.isStatics = false) (hkB : s.vm.classes[cellB.cls]? = some kB) {g : JFrame} (hg : g.method = m) {argsL rest : List Value} (hn : argsL.length = n) (hstack : g.stack = argsL.reverse ++ .ref b :: rest) (hdg : decode c.code g.pc = .ok (.invokespecial idx, 3)) :
    ∃ (mk : MethodId) (vm' : Vm), s.methodNamed? y = some mk ∧ Stand p l e R s m args below meth c (T.setVm vm') locs cells slots ∧
      ∀ target, Steps p.tables e below (doInvoke e ((T.setVm vm').setTop { g with stack := rest }) [] mk (.ref b :: argsL).toArray).1 target → Steps p.tables e below (T.setTop g) target := by
  obtain ⟨k1, k2, k3, k4, k5, k6, k7, k8, k9, k10⟩ := k
  obtain ⟨mk, methM, hnamed, hmethM, hstM, habM⟩ := Cond.instanceMethod_spec (XX.t _ k4)
  obtain ⟨methM', cM, hmethM', -, -, -, -, -, -, hsigM⟩ := Cond.code_spec hnamed (XX.t _ k6)
  cases hmethM.symm.trans hmethM'
  obtain ⟨ps, dk, kp, hps, hdk, hkp, hsuper, -, -, hnid⟩ := Cond.superclass_spec XX.o (XX.t _ k3)
  have hn' : s.methodNamed? ⟨y.cls, x.name, x.desc⟩ = some mk := by rw [← k7]; exact hnamed
  have hyc : s.vm.findClass y.cls = some mk.cls := findClass_of_methodNamed hnamed
  have hsub : s.vm.isSubclass ps mk.cls = true := by
    rcases k9 with e | e
    · have : ps = mk.cls := Option.some.inj (hps.symm.trans (by rw [e]; exact hyc))
      rw [this]; simp [Vm.isSubclass, Vm.isSubclassAux]
    · obtain ⟨p2, dk2, kp2, hp2, hdk2, -, hs2, -, -, -⟩ := Cond.superclass_spec hps (XX.t _ e)
      have e2 : p2 = mk.cls := Option.some.inj (hp2.symm.trans hyc)
      have hlt : ps < s.vm.classes.size := (Array.getElem?_eq_some_iff.mp hdk2).1
      obtain ⟨n9, hn9⟩ : ∃ n9 : Nat, s.vm.classes.size = n9 + 1 := Nat.exists_eq_succ_of_ne_zero (Nat.ne_of_gt (Nat.lt_of_le_of_lt (Nat.zero_le _) hlt))
      unfold Vm.isSubclass
      rw [hn9, Vm.isSubclassAux, hdk2]
      simp only [hs2, e2]
      rw [Vm.isSubclassAux]
      simp
  have hlen : argsL.length = methM.sig.parameters.length := by
    rw [hn]
    have h2 := k10
    rw [hsigM] at h2
    exact (Option.some.inj h2).symm
  obtain ⟨vm₁, X₁, hstep₁⟩ := X0.invokespecialUp XX.x XX.o (XX.t _ k1) (XX.t _ k2) hn' hmethM hstM habM k8 hdk hnid hps hsuper hsub (a := b) (cell := cellB) hcell (fun z h => by rw [h] at hobj; cases hobj) hkB (g := g) hg (argsL := argsL) (rest := rest) hlen hstack hdg
  exact ⟨mk, vm₁, hnamed, X₁, hstep₁⟩
theorem pcall_i {x y : MethodName} {bytes : ByteArray} {maxL idx n : Nat} {ret : Option FieldType} {rm : Room} {As : List Value} {b : Addr} {C : String} {ty : FieldType} {r : Int32} (XX : Cx G A p s m meth c cc nL own args) (I : Iv G A s H locs (X ++ (wc ++ Y))) (hls : ls.size = nL) (hc : HI l G y (Cond.code y bytes maxL ret :: gT) rm ty (.ref b :: As) wc r w1) (k : KP own idx x y bytes maxL ret n) (hrc : Rc s H C b) {cC : ClassId} (hat : ClassAt s C cC) (hn : As.length = n) (hst : st0 = As.reverse ++ .ref b :: rest) (hcat : (rest.map fun v => v.category).sum ≤ 8)
    (hR : rm.cells = 0 ∧ rm.slots = 0 ∧ rm.frames + 1 ≤ R.frames ∧ 8 + (maxL + 11) + rm.locals ≤ R.locals) (hcs : cells ≤ R.cells ∧ slots ≤ R.slots) (hdg : decode cc pc = .ok (.invokespecial idx, 3))
    (kk : ∀ (H1 : Heap) (locs1 : List Loc), narrow ty (.int r) = .int r → Iv G A s H1 locs1 (X ++ (w1 ++ Y)) → W p l e R s m args below meth c H1 locs1 cells slots Q (F0 m (pc + 3) ls (.int r :: rest))) : W p l e R s m args below meth c H locs cells slots Q (F0 m pc ls st0) := by
  subst hst
  have run : va_Run p l e R s m args below meth c H locs cells slots 0 0 (F0 m pc ls (As.reverse ++ .ref b :: rest)) rest ((va_Qi (fun (r1 : Int32) (_ : Unit) => r1 = r ∧ narrow ty (.int r) = .int r) (Bk G wc w1 H.size) (va_A wc H.size)) (Value.ref b :: As).toArray) (va_A wc H.size) := by
    have hpay : ∀ w ∈ (Cond.code y bytes maxL ret :: gT), ∀ (a' : Array Value) (U : State), s.WarmedH U.vm → w.before a' U = true := pay_in XX.t (fun w hw => by
      rcases List.mem_cons.mp hw with rfl | hw
      · exact good_all _ k.2.2.2.2.2.1
      · exact good_all w hw)
    have hK : Back l R p e below s args y 3 8 (PreOf R 0 0 (Pre0 G (.ref b :: As) wc H.size)) (PostOf _ 0 0 (va_A wc H.size)) := back_of (bytes := bytes) (maxL := maxL) (ret := ret) (hc H.size) (blind0 XX.ok) hR.1 hR.2.1 hR.2.2.1 hR.2.2.2 hpay List.mem_cons_self (fun a' U hW => word_at hW (Or.inl (by first | rfl | simp [Cond.onTables, Cond.keeps, Cond.steady])) (XX.t _ k.2.2.2.2.1))
    obtain ⟨cellB, hcB, hoB, hclB⟩ := hrc
    obtain ⟨hfc, kB, hkB, -⟩ := hat
    cases hfc.symm.trans hclB
    intro T hT X0
    obtain ⟨mk, vm₁, hnamed, X₁, hstep₁⟩ := super_up XX X0 k (by rw [hT]; exact hcB) hoB hkB (g := F0 m pc ls (As.reverse ++ .ref b :: rest)) rfl hn rfl (by rw [XX.b]; exact hdg)
    obtain ⟨v, B, X', hpost, hsteps⟩ := hK m meth c ⟨T.setVm vm₁, locs, cells, slots⟩ { (F0 m pc ls (As.reverse ++ .ref b :: rest)) with stack := rest } (.invokespecial idx) mk (Value.ref b :: As).toArray X₁ rfl (hls.trans XX.ml.symm) (by rw [XX.b]; exact hdg) (lv_room hcat) (X₁.named hnamed) ⟨hcs.1, hcs.2, rfl, by show (T.setVm vm₁).heap.size = _; rw [show (T.setVm vm₁).heap = T.heap from rfl, hT], by show va_P _ _ _ (T.setVm vm₁).heap; rw [show (T.setVm vm₁).heap = T.heap from rfl, hT]; exact midP I.1, va_K.moved X₁.warmed.alike XX.K, (midD I.2.1).weaken (fun _ _ _ _ => trivial), XX.Ec I (U := T.setVm vm₁) hT X₁.warmed⟩
    obtain ⟨U', l2, c2, s2⟩ := B
    obtain ⟨g', mk', t, L, e1, e2, hq, h1, hL, h2, h3⟩ := hpost
    dsimp only [Pt.U, Pt.locs, Pt.cells, Pt.slots] at X' e1 e2 h1 h2 h3 hsteps hq
    subst h1; subst h2; subst h3
    exact ⟨v, (T.setVm vm₁).calling g' mk' (Value.ref b :: As).toArray, t, U', L, hT, X', hL, e1, e2, hq, fun target h => hstep₁ _ (by rw [doInvoke_state]; exact hsteps.trans h)⟩
  refine va_calli run I.2.2.1 (fun q _ h => midF I.2.1 I.2.2.1 I.2.2.2 q h) (midF I.2.1 I.2.2.1 I.2.2.2) (fun r1 u t H1 locs1 ht hvm hw hB hz1 hk1 hS => ?_)
  obtain ⟨hP1, -, hD1⟩ := hB
  rw [ht] at hP1
  obtain ⟨rfl, hz⟩ := hw
  exact kk H1 locs1 hz (I.back hk1 hP1 hD1 hS)
end K15
