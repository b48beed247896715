/-! Constructors: new cells lie behind the first cell of the world; a constructor's contract tells a world that it leaves. -/
def EXC (U : State) : Prop := va_Nw (.methodLinkNest "LifeNoes" 25 yX0_init "LifeNoes") U ∧ va_Nw (.methodLinkNest "LifeNoes" 32 yX6_init "LifeNoes") U ∧ va_Nw (.methodLinkNest "LifeNoes" 77 yX5_init "LifeNoes") U ∧ va_Nw (.methodLinkNest "LifeNoes" 80 yX8_init "LifeNoes") U ∧
  va_AO "LifeNoes$Sayer" U ∧ va_AO "LifeNoes$Sheet" U ∧ va_AOA .int U ∧
  va_Nw (.castable "LifeNoes$Quick" "LifeNoes$Sayer") U ∧ va_Nw (.castable "LifeNoes$Bar" "LifeNoes$Sayer") U ∧ va_Nw (.castable "LifeNoes$Wait" "LifeNoes$Sayer") U ∧ va_Nw (.castable "LifeNoes$League" "LifeNoes$Sayer") U ∧ va_Nw (.castable "LifeNoes$Told" "LifeNoes$Sayer") U
abbrev HXC (G : g_G) : Prop := ∀ (A : Nat → Prop) (U : State) (H : Heap), G.2.2 A U H → EXC U
abbrev BkC (G : g_G) (w : va_W) (sz : Nat) : va_W → State → Prop := fun w1 t => va_P G.1 vwCl w1 t.heap ∧ va_K G.1 vwCl (g_ty G.2.1) t ∧ va_D (va_A w sz) w1
def HC (l : Launch) (G : g_G) (y : MethodName) (ws : List Cond) (rm : Room) (avs : List Value) (w : va_W) (mc ms : Nat) (Post : va_W → Prop) : Prop :=
  ∀ sz : Nat, Met l y ws rm (Pre0 G avs w sz) (va_Qv (fun w1 : va_W => Post w1) (BkC G w sz) (va_A w sz)) mc ms (va_A w sz)
abbrev QC (G : g_G) (below : List Frame) (w : va_W) (mc ms : Nat) (Post : va_W → Prop) (args : Array Value) (s : State) : State → Prop := MQ below (va_Qv (fun w1 : va_W => Post w1) (BkC G w s.heap.size) (va_A w s.heap.size)) args s mc ms (va_A w s.heap.size)
section K80
variable {p : Program} {l : Launch} {e : Env} {R : Room} {s : State} {m : MethodId} {args : Array Value} {below : List Frame} {meth : Method} {c : Code} {H : Heap} {locs : List Loc} {cells slots cells1 slots1 : Nat} {Q : State → Prop}
variable {cc : ByteArray} {nL pc : Nat} {ls : Array Slot} {rest st0 : List Value} {G : g_G} {A : Nat → Prop} {own : String} {w w1 wc X Y : va_W} {t : Nat × va_E} {mc ms : Nat} {Post : va_W → Prop}
theorem HC.mk (OK : EOk G.2.2) {y : MethodName} {maxL : Nat} {rm : Room} {avs : List Value} {lv : List (Nat × Value)} (hy : plainName y.cls = true) (hn : (lg_sl avs).length ≤ maxL) (hlv : lv_args 0 avs = lv) (hini : y.name = "<init>")
    (body : ∀ (p : Program) (e : Env) (s : State) (m : MethodId) (args : Array Value) (below : List Frame) (meth : Method) (c : Code) (ls : Array Slot), Cx G (va_A w s.heap.size) p s m meth c cc maxL y.cls args → meth.name = "<init>" → meth.sig.returnType = none → Iv G (va_A w s.heap.size) s s.heap [] w → lv_has ls maxL lv →
      W p l e rm s m args below meth c s.heap [] 0 0 (QC G below w mc ms Post args s) (F0 m 0 ls [])) :
    HC l G y (Cond.code y cc maxL none :: gT) rm avs w mc ms Post := by
  intro sz
  refine Met.ofW (cc := cc) (maxL := maxL) (ret := none) hy rfl ?_
  intro p e s m args below meth c s₁ B hml hv
  obtain ⟨rfl, rfl, hP, hK, hD0, hE⟩ := hv
  have hts := atoms_spec (ws := Cond.code y cc maxL none :: gT) B.pre
  have hl := lv_entry avs (n := maxL) hn
  rw [lg_entry_eq]
  rw [hlv] at hl
  exact body p e s m _ below meth c _ ⟨B.exec, B.bytes, hml, findClass_of_methodNamed B.named, fun w h => hts w (List.mem_cons_of_mem _ h), hK, B.notSynchronized, OK, hE⟩ ((name_of_methodNamed B.named B.method).1.trans hini) B.returns ⟨hP, hD0.self (sz := s.heap.size), va_S.rf, fun q h => Or.inr h⟩ hl
theorem e_c (XX : Cx G (va_A w s.heap.size) p s m meth c cc nL own args) (hr : meth.sig.returnType = none) (I : Iv G (va_A w s.heap.size) s H locs w1) (hp : Post w1) (hdg : decode cc pc = .ok (.return_, 1)) :
    W p l e R s m args below meth c H locs mc ms (QC G below w mc ms Post args s) (F0 m pc ls []) :=
  W.vret XX.x XX.b hr (fun t ht hW => ⟨⟨w1, rfl, hp, by rw [ht]; exact I.1, va_K.moved hW.alike XX.K, I.2.1⟩, I.2.2.1.F ht⟩) I.2.2.1.2.2 hdg XX.lk
/-- the cells in another order -/
theorem Iv.pick (I : Iv G A s H locs w) (is : List Nat) (hn : va_nd is = true) (hs : is.map (fun i => w[i]?) = w1.map some) : Iv G A s H locs w1 := by
  refine ⟨fun k q hq => ?_, I.2.1.sub is hn hs, I.2.2.1, I.2.2.2⟩
  have h1 : (is.map (fun i => w[i]?))[k]? = some (some q) := by rw [hs, List.getElem?_map, hq]; rfl
  rw [List.getElem?_map] at h1
  cases hi : is[k]? with
  | none => rw [hi] at h1; cases h1
  | some i => rw [hi] at h1; exact I.1 i q (Option.some.inj h1)
theorem arrV_same {cA : ClassId} {n : Nat} {f g : Nat → Value} (h : ∀ j, j < n → f j = g j) : arrV cA n f = arrV cA n g := by
  unfold arrV
  congr 1
  congr 1
  funext j
  exact h j.val j.isLt
/-- an array of references, told by another function -/
theorem Iv.refun (I : Iv G A s H locs w) (q0 : Nat) {a : Nat} {cA : ClassId} {n : Nat} {f : Nat → Option Nat} (g : Nat → Option Nat) (he : w[q0]? = some (a, .inl (cA, n, .inr (.inr (.inr (.inr f)))))) (h : ∀ j, j < n → f j = g j) (hs : w.set q0 (a, .inl (cA, n, .inr (.inr (.inr (.inr g))))) = w1) : Iv G A s H locs w1 := by
  subst hs
  refine ⟨fun k q hq => ?_, I.2.1.set he, I.2.2.1, I.2.2.2⟩
  by_cases hk : q0 = k
  · subst hk
    have hl : q0 < w.length := (List.getElem?_eq_some_iff.mp he).1
    rw [List.getElem?_set_self hl] at hq
    cases hq
    have h1 : H[a]? = some (vp_cell cA (n, .inr (.inr (.inr (.inr f))))) := I.1 q0 _ he
    show H[a]? = some (vp_cell cA (n, .inr (.inr (.inr (.inr g)))))
    rw [h1, vp_cell_q, vp_cell_q]
    exact congrArg some (arrV_same (fun j hj => by rw [h j hj]))
  · rw [List.getElem?_set_ne hk] at hq
    exact I.1 k q hq
theorem r_new {C : String} {T : u_T} {N ci index : Nat} {ty0 : Nat → FieldType} (F : KF C T N ci ty0) (XX : Cx G A p s m meth c cc nL own args) (I : Iv G A s H locs (t :: w)) (hcl : Cond.classLink own index C ∈ gT) (hinst : Cond.instantiable C N ∈ gT) (hini : Cond.initialized C ∈ gT) {fs : List Value} (hfs : ∀ j, j < N → defaultValue (ty0 j) = vp_V fs j) (hce : cells + 1 = cells1) (hse : slots + N = slots1) (hR : cells1 ≤ R.cells ∧ slots1 ≤ R.slots) (hdg : decode cc pc = .ok (.new index, 3))
    (kk : ∀ (q : Nat) (H1 : Heap), Iv G A s H1 locs (t :: ((q, .inr (ci, fs)) :: w)) → W p l e R s m args below meth c H1 locs cells1 slots1 Q (F0 m (pc + 3) ls (.ref q :: rest))) : W p l e R s m args below meth c H locs cells slots Q (F0 m pc ls rest) := by
  subst hce
  subst hse
  exact va_new XX.x XX.b XX.t F.1 ty0 F.2.2.1 XX.o (XX.t _ hcl) (XX.t _ hinst) (XX.t _ hini) XX.K I.1 I.2.1 I.2.2.1 I.2.2.2 F.2.1 hfs hR.1 hR.2 hdg (fun q H1 h1 h2 h3 => kk q H1 (Iv.perm ⟨h1, h2, h3, I.2.2.2⟩ ((List.perm_append_singleton _ _).cons _)))
theorem cA_of {k : Nat} {cA cB : ClassId} {ty : FieldType} (hK : va_K G.1 vwCl (g_ty G.2.1) s) (hk : (g_ty G.2.1)[k]? = some (cB, ty)) (hK2 : va_K G.1 vwCl (g_ty G.2.1 ++ [(cA, ty)]) s) : cA = cB := by
  have h1 := (hK.2 k _ hk).2
  have h2 := (hK2.2 5 (cA, ty) rfl).2
  cases ty with
  | object C =>
    obtain ⟨_, _, _, _, _, e1⟩ := h1
    obtain ⟨_, _, _, _, _, e2⟩ := h2
    exact Option.some.inj (e2.symm.trans e1)
  | _ => exact Option.some.inj (h2.symm.trans h1)
theorem r_newaI (XX : Cx G A p s m meth c cc nL own args) (I : Iv G A s H locs (t :: w)) {n : Int32} {N : Nat} (hn : ¬ n < 0) (hN : n.toNatClampNeg = N) (hb : N * componentBytes .int ≤ 536870912) (hce : cells + 1 = cells1) (hse : slots + N = slots1) (hR : cells1 ≤ R.cells ∧ slots1 ≤ R.slots) (hdg : decode cc pc = .ok (.newarray .int, 2))
    (kk : ∀ (q : Nat) (H1 : Heap), Iv G A s H1 locs (t :: ((q, .inl (G.2.1 0, N, .inl (fun _ => 0))) :: w)) → W p l e R s m args below meth c H1 locs cells1 slots1 Q (F0 m (pc + 2) ls (.ref q :: rest))) : W p l e R s m args below meth c H locs cells slots Q (F0 m pc ls (.int n :: rest)) := by
  subst hce
  subst hse
  refine va_newa (atype := .int) (a0 := (N, .inl (fun _ => 0))) XX.x XX.b (XX.t _ wd_101) rfl XX.K I.1 I.2.1 I.2.2.1 I.2.2.2 (fun cA => rfl) hn hN hb hR.1 hR.2 hdg (fun q cA H1 hK2 h1 h2 h3 => ?_)
  have e := cA_of (k := 0) XX.K rfl hK2
  subst e
  exact kk q H1 (Iv.perm ⟨h1, h2, h3, I.2.2.2⟩ ((List.perm_append_singleton _ _).cons _))
theorem r_newaL (XX : Cx G A p s m meth c cc nL own args) (I : Iv G A s H locs (t :: w)) {n : Int32} {N : Nat} (hn : ¬ n < 0) (hN : n.toNatClampNeg = N) (hb : N * componentBytes .long ≤ 536870912) (hce : cells + 1 = cells1) (hse : slots + N = slots1) (hR : cells1 ≤ R.cells ∧ slots1 ≤ R.slots) (hdg : decode cc pc = .ok (.newarray .long, 2))
    (kk : ∀ (q : Nat) (H1 : Heap), Iv G A s H1 locs (t :: ((q, .inl (G.2.1 1, N, .inr (.inl (fun _ => 0)))) :: w)) → W p l e R s m args below meth c H1 locs cells1 slots1 Q (F0 m (pc + 2) ls (.ref q :: rest))) : W p l e R s m args below meth c H locs cells slots Q (F0 m pc ls (.int n :: rest)) := by
  subst hce
  subst hse
  refine va_newa (atype := .long) (a0 := (N, .inr (.inl (fun _ => 0)))) XX.x XX.b (XX.t _ wd_121) rfl XX.K I.1 I.2.1 I.2.2.1 I.2.2.2 (fun cA => rfl) hn hN hb hR.1 hR.2 hdg (fun q cA H1 hK2 h1 h2 h3 => ?_)
  have e := cA_of (k := 1) XX.K rfl hK2
  subst e
  exact kk q H1 (Iv.perm ⟨h1, h2, h3, I.2.2.2⟩ ((List.perm_append_singleton _ _).cons _))
theorem r_newq {C : String} {k index : Nat} (XX : Cx G A p s m meth c cc nL own args) (I : Iv G A s H locs (t :: w)) {cB : ClassId} (hk : (g_ty G.2.1)[k]? = some (cB, .object C)) (hcl : Cond.classLink own index C ∈ gT) (hao : va_AO C s) {n : Int32} {N : Nat} (hn : ¬ n < 0) (hN : n.toNatClampNeg = N) (hb : N * 4 ≤ 536870912) (hce : cells + 1 = cells1) (hse : slots + N = slots1) (hR : cells1 ≤ R.cells ∧ slots1 ≤ R.slots) (hdg : decode cc pc = .ok (.anewarray index, 3))
    (kk : ∀ (q : Nat) (H1 : Heap), Iv G A s H1 locs (t :: ((q, .inl (cB, N, .inr (.inr (.inr (.inr (fun _ => none)))))) :: w)) → W p l e R s m args below meth c H1 locs cells1 slots1 Q (F0 m (pc + 3) ls (.ref q :: rest))) : W p l e R s m args below meth c H locs cells slots Q (F0 m pc ls (.int n :: rest)) := by
  subst hce
  subst hse
  refine va_newq XX.x XX.b XX.o (XX.t _ hcl) hao XX.K I.1 I.2.1 I.2.2.1 I.2.2.2 hn hN hb hR.1 hR.2 hdg (fun q cA H1 hK2 h1 h2 h3 => ?_)
  have e := cA_of XX.K hk hK2
  subst e
  exact kk q H1 (Iv.perm ⟨h1, h2, h3, I.2.2.2⟩ ((List.perm_append_singleton _ _).cons _))
theorem rows_of {L : List Nat} {f : Nat → va_E} {e : va_E} : va_pl ([] ++ L) (vr_up f L e) = L.map (fun a => (a, e)) := by
  rw [List.nil_append]
  unfold va_pl
  apply List.map_congr_left
  intro a ha
  rw [vr_up_in ha]
theorem r_mna {index : Nat} (XX : Cx G A p s m meth c cc nL own args) (I : Iv G A s H locs (t :: w)) (hcl : Cond.classLink own index "[[I" ∈ gT) (hao : va_AOA .int s) {n k : Int32} {N K : Nat} (hn : ¬ n < 0) (hk : ¬ k < 0) (hN : n.toNatClampNeg = N) (hM : k.toNatClampNeg = K) (hb1 : N * 4 ≤ 536870912) (hb2 : K * componentBytes .int ≤ 536870912) (hb3 : K ≤ 536870912) (hce : cells + 1 + N = cells1) (hse : slots + N + N * K = slots1) (hR : cells1 ≤ R.cells ∧ slots1 ≤ R.slots) (hdg : decode cc pc = .ok (.multianewarray index 2, 4))
    (kk : ∀ (q : Nat) (r : Nat → Nat) (H1 : Heap), Iv G A s H1 locs (t :: ((q, .inl (G.2.1 4, N, .inr (.inr (.inr (.inr (fun i => some (r i))))))) :: ((List.range N).map (fun i => (r i, .inl (G.2.1 0, K, .inl (fun _ => 0)))) ++ w))) → W p l e R s m args below meth c H1 locs cells1 slots1 Q (F0 m (pc + 4) ls (.ref q :: rest))) : W p l e R s m args below meth c H locs cells slots Q (F0 m pc ls (.int k :: .int n :: rest)) := by
  subst hce
  subst hse
  have P0 : va_P G.1 vwCl ((t :: w) ++ va_pl [] (fun _ => .inr (0, []))) H := by
    show va_P G.1 vwCl ((t :: w) ++ []) H
    rw [List.append_nil]
    exact I.1
  have D0 : va_D A ((t :: w) ++ va_pl [] (fun _ => .inr (0, []))) := by
    show va_D A ((t :: w) ++ [])
    rw [List.append_nil]
    exact I.2.1
  refine va_mna (ty := .int) (z := (K, .inl (fun _ => 0))) XX.x XX.b XX.o (XX.t _ hcl) hao (XX.t _ wd_101) (XX.K.2 0 _ rfl).2 XX.K P0 D0 I.2.2.1 I.2.2.2 hn hk hN hM hb1 hb2 hb3 rfl rfl (by have := hR.1; omega) (by have := hR.2; omega) (fun cA => arrV_new cA K (.int 0)) hdg (fun q r cA H1 hr1 hr2 hK2 h1 h2 h3 => ?_)
  have e := cA_of (k := 4) XX.K rfl hK2
  subst e
  rw [rows_of, List.map_map] at h1 h2
  have J : Iv G A s H1 locs (((t :: w) ++ [(q, .inl (G.2.1 4, N, .inr (.inr (.inr (.inr (fun i => if i < N then some (r i) else none))))))]) ++ (List.range N).map (fun i => (r i, .inl (G.2.1 0, K, .inl (fun _ => 0))))) := ⟨h1, h2, h3, I.2.2.2⟩
  have J2 : Iv G A s H1 locs (t :: ((q, .inl (G.2.1 4, N, .inr (.inr (.inr (.inr (fun i => if i < N then some (r i) else none)))))) :: ((List.range N).map (fun i => (r i, .inl (G.2.1 0, K, .inl (fun _ => 0)))) ++ w))) := J.perm (by
    rw [List.append_assoc, List.cons_append]
    refine List.Perm.cons _ ?_
    refine List.perm_append_comm.trans ?_
    exact List.Perm.refl _)
  exact kk q r H1 (J2.refun 1 (fun i => some (r i)) rfl (fun j hj => if_pos hj) rfl)
theorem r_putF {C : String} {T : u_T} {N ci index : Nat} {ty0 : Nat → FieldType} (F : KF C T N ci ty0) (XX : Cx G A p s m meth c cc nL own args) (I : Iv G A s H locs (t :: w)) {a : Addr} {fs : List Value} (he : t = (a, .inr (ci, fs))) (k : Nat) (hk : k < N) (hlink : Cond.fieldLink own index (T k).1 (T k).2.1 (T k).2.2.1 ∈ gT) (hfin : (T k).2.2.2 = true) (hin2 : meth.name = "<init>") (hdecl : (T k).1 = own) {v : Value} (hn : narrow (ty0 k) v = v) (hfit : fits (ty0 k) v = true) (hl : k < fs.length) {fs1 : List Value} (heq : fs.set k v = fs1) (hdg : decode cc pc = .ok (.putfield index, 3))
    (kk : ∀ (H1 : Heap) (locs1 : List Loc), Iv G A s H1 locs1 ((a, .inr (ci, fs1)) :: w) → W p l e R s m args below meth c H1 locs1 cells slots Q (F0 m (pc + 3) ls rest)) : W p l e R s m args below meth c H locs cells slots Q (F0 m pc ls (v :: .ref a :: rest)) := by
  subst heq
  subst he
  exact va_putF (T := T) (N := N) (ci := ci) XX.x XX.b XX.t F.1 ty0 F.2.2.1 F.2.2.2 XX.o XX.K I.1 I.2.1 I.2.2.1 0 rfl F.2.1 k hk (XX.t _ hlink) (fun _ h => h) hfin hin2 hdecl (F.2.2.1 k hk) hn hfit hl hdg (fun H1 locs1 h1 h2 h3 => kk H1 locs1 ⟨h1, h2, h3, I.2.2.2⟩)
theorem r_put0 {C : String} {T : u_T} {N ci index : Nat} {ty0 : Nat → FieldType} (F : KF C T N ci ty0) (XX : Cx G A p s m meth c cc nL own args) (I : Iv G A s H locs (t :: w)) {a : Addr} {fs : List Value} (he : t = (a, .inr (ci, fs))) (k : Nat) (hk : k < N) (hlink : Cond.fieldLink own index (T k).1 (T k).2.1 (T k).2.2.1 ∈ gT) (hfin : (T k).2.2.2 = false) {v : Value} (hn : narrow (ty0 k) v = v) (hfit : fits (ty0 k) v = true) (hl : k < fs.length) {fs1 : List Value} (heq : fs.set k v = fs1) (hdg : decode cc pc = .ok (.putfield index, 3))
    (kk : ∀ (H1 : Heap) (locs1 : List Loc), Iv G A s H1 locs1 ((a, .inr (ci, fs1)) :: w) → W p l e R s m args below meth c H1 locs1 cells slots Q (F0 m (pc + 3) ls rest)) : W p l e R s m args below meth c H locs cells slots Q (F0 m pc ls (v :: .ref a :: rest)) := by
  subst heq
  subst he
  exact r_put (T := T) (N := N) (ci := ci) F XX I 0 rfl k hk hlink hfin hn hfit hl rfl hdg kk
theorem r_obj {idx : Nat} (XX : Cx G A p s m meth c cc nL own args) (hls : ls.size = nL) (hlink : Cond.methodLink own idx ⟨"java/lang/Object", "<init>", "()V"⟩ ∈ gT) {a : Addr} (hR : 1 ≤ R.frames ∧ 12 ≤ R.locals) (hdg : decode cc pc = .ok (.invokespecial idx, 3))
    (kk : W p l e R s m args below meth c H locs cells slots Q (F0 m (pc + 3) ls [])) : W p l e R s m args below meth c H locs cells slots Q (F0 m pc ls [.ref a]) :=
  W.objInit XX.x XX.b XX.o (XX.t _ hlink) (XX.t _ wd_27) (XX.t _ wd_28) rfl (by rw [XX.ml]; exact hls) rfl hdg hR.1 (by show 2 * 0 + (([] : List Value).map fun v => v.category).sum + 12 ≤ R.locals; simpa using hR.2) kk
theorem call_c {y : MethodName} {bytes : ByteArray} {maxL idx n : Nat} {rm : Room} {As : List Value} {b : Addr} (XX : Cx G A p s m meth c cc nL own args) (I : Iv G A s H locs (X ++ (wc ++ Y))) (hls : ls.size = nL) (hc : HC l G y (Cond.code y bytes maxL none :: gT) rm (.ref b :: As) wc mc ms Post)
    (h1 : Cond.methodLink own idx y ∈ gT) (h2 : Cond.instanceMethod y ∈ gT) (h3 : Cond.initialized y.cls ∈ gT) (h4 : Cond.code y bytes maxL none ∈ gT) (hd : y.cls ≠ "java/lang/invoke/MethodHandle" ∧ y.cls ≠ "java/lang/invoke/VarHandle" ∧ (parseMethodDescriptor y.desc).map (fun d => d.parameters.length) = some n) (hy1 : y.name = "<init>") (hn : As.length = n) (hst : st0 = As.reverse ++ .ref b :: rest) (hcat : (rest.map fun v => v.category).sum ≤ 8)
    (hrm : rm.cells = mc ∧ rm.slots = ms ∧ rm.frames + 1 ≤ R.frames ∧ 8 + (maxL + 11) + rm.locals ≤ R.locals) (hce : cells + mc = cells1) (hse : slots + ms = slots1) (hR : cells1 ≤ R.cells ∧ slots1 ≤ R.slots) (hdg : decode cc pc = .ok (.invokespecial idx, 3))
    (kk : ∀ (wz : va_W) (H1 : Heap) (locs1 : List Loc), Post wz → Iv G A s H1 locs1 (X ++ (wz ++ Y)) → W p l e R s m args below meth c H1 locs1 cells1 slots1 Q (F0 m (pc + 3) ls rest)) : W p l e R s m args below meth c H locs cells slots Q (F0 m pc ls st0) := by
  subst hst
  subst hce
  subst hse
  have hG : GoodIn gT (Cond.code y bytes maxL none :: gT) := fun w hw => by
    rcases List.mem_cons.mp hw with rfl | hw
    · exact good_all _ h4
    · exact good_all w hw
  refine va_callv (va_runI (As := As) (rest := rest) XX.fix (hc H.size) (cwI n XX.t hG rfl hrm.1 hrm.2.1 (XX.t _ h3) (XX.t _ h1) (XX.t _ h2) hy1 hd hrm.2.2) ⟨blind0 XX.ok, fun U hU hW => ⟨rfl, by rw [hU], by rw [hU]; exact midP I.1, va_K.moved hW.alike XX.K, (midD I.2.1).weaken (fun _ _ _ _ => trivial), XX.Ec I hU hW⟩⟩ rfl hn hls rfl (lv_room hcat) hdg ⟨hR.1, hR.2⟩) I.2.2.1 (fun q _ h => midF I.2.1 I.2.2.1 I.2.2.2 q h) (midF I.2.1 I.2.2.1 I.2.2.2) (fun wz t H1 locs1 ht hvm hp hB hz1 hk1 hS => ?_)
  obtain ⟨hP1, -, hD1⟩ := hB
  rw [ht] at hP1
  exact kk wz H1 locs1 hp (I.back hk1 hP1 hD1 hS)
theorem call_cN {y : MethodName} {host : String} {bytes : ByteArray} {maxL idx n : Nat} {rm : Room} {As : List Value} {b : Addr} (XX : Cx G A p s m meth c cc nL own args) (I : Iv G A s H locs (X ++ (wc ++ Y))) (hls : ls.size = nL) (hc : HC l G y (Cond.code y bytes maxL none :: gT) rm (.ref b :: As) wc mc ms Post)
    (h1 : va_Nw (.methodLinkNest own idx y host) s) (h2 : Cond.instanceMethod y ∈ gT) (h3 : Cond.initialized y.cls ∈ gT) (h4 : Cond.code y bytes maxL none ∈ gT) (hd : y.cls ≠ "java/lang/invoke/MethodHandle" ∧ y.cls ≠ "java/lang/invoke/VarHandle" ∧ (parseMethodDescriptor y.desc).map (fun d => d.parameters.length) = some n) (hy1 : y.name = "<init>") (hn : As.length = n) (hst : st0 = As.reverse ++ .ref b :: rest) (hcat : (rest.map fun v => v.category).sum ≤ 8)
    (hrm : rm.cells = mc ∧ rm.slots = ms ∧ rm.frames + 1 ≤ R.frames ∧ 8 + (maxL + 11) + rm.locals ≤ R.locals) (hce : cells + mc = cells1) (hse : slots + ms = slots1) (hR : cells1 ≤ R.cells ∧ slots1 ≤ R.slots) (hdg : decode cc pc = .ok (.invokespecial idx, 3))
    (kk : ∀ (wz : va_W) (H1 : Heap) (locs1 : List Loc), Post wz → Iv G A s H1 locs1 (X ++ (wz ++ Y)) → W p l e R s m args below meth c H1 locs1 cells1 slots1 Q (F0 m (pc + 3) ls rest)) : W p l e R s m args below meth c H locs cells slots Q (F0 m pc ls st0) := by
  subst hst
  subst hce
  subst hse
  have hG : GoodIn gT (Cond.code y bytes maxL none :: gT) := fun w hw => by
    rcases List.mem_cons.mp hw with rfl | hw
    · exact good_all _ h4
    · exact good_all w hw
  refine va_callv (va_runIN (As := As) (rest := rest) XX.fix (hc H.size) ⟨va_cnB n XX.t hG rfl hrm.1 hrm.2.1 h1 (XX.t _ h3) hd hrm.2.2, hy1, XX.t _ h2⟩ ⟨blind0 XX.ok, fun U hU hW => ⟨rfl, by rw [hU], by rw [hU]; exact midP I.1, va_K.moved hW.alike XX.K, (midD I.2.1).weaken (fun _ _ _ _ => trivial), XX.Ec I hU hW⟩⟩ rfl hn hls rfl (lv_room hcat) hdg ⟨hR.1, hR.2⟩) I.2.2.1 (fun q _ h => midF I.2.1 I.2.2.1 I.2.2.2 q h) (midF I.2.1 I.2.2.1 I.2.2.2) (fun wz t H1 locs1 ht hvm hp hB hz1 hk1 hS => ?_)
  obtain ⟨hP1, -, hD1⟩ := hB
  rw [ht] at hP1
  exact kk wz H1 locs1 hp (I.back hk1 hP1 hD1 hS)
theorem r_aast {k q0 qk ci : Nat} {C : String} {cA : ClassId} {r : vw_C} (XX : Cx G A p s m meth c cc nL own args) (I : Iv G A s H locs w) (ht : (g_ty G.2.1)[k]? = some (cA, .object C)) {a : Addr} {n v : Nat} {f : Nat → Option Nat} (ha : w[q0]? = some (a, .inl (cA, n, .inr (.inr (.inr (.inr f)))))) {vs : List Value} (hv : w[qk]? = some (v, .inr (ci, vs))) (hc : vwCl[ci]? = some r) (hca : r.1 = C ∨ va_Nw (.castable r.1 C) s) {i : Int32} (hin : vp_in i n) (hs : w.set q0 (a, .inl (cA, n, .inr (.inr (.inr (.inr (va_up f i.toNatClampNeg (some v))))))) = w1) (hdg : decode cc pc = .ok (.aastore, 1))
    (kk : ∀ (H1 : Heap) (locs1 : List Loc), Iv G A s H1 locs1 w1 → W p l e R s m args below meth c H1 locs1 cells slots Q (F0 m (pc + 1) ls rest)) : W p l e R s m args below meth c H locs cells slots Q (F0 m pc ls (.ref v :: .int i :: .ref a :: rest)) := by
  subst hs
  rcases hca with h | h
  · subst h
    exact va_astq XX.x XX.b XX.K I.1 I.2.1 I.2.2.1 q0 k qk ci ha ht hv hc hin hdg (fun H1 locs1 h1 h2 h3 => kk H1 locs1 ⟨h1, h2, h3, I.2.2.2⟩)
  · exact va_astqO XX.x XX.b XX.K I.1 I.2.1 I.2.2.1 q0 k qk ci ha ht h hv hc hin hdg (fun H1 locs1 h1 h2 h3 => kk H1 locs1 ⟨h1, h2, h3, I.2.2.2⟩)
end K80
