/-! My own rows over the kit: one contract form (from the cells w, with these arguments, the method returns r and leaves the cells w1), one bundle for what holds while a method runs, calls whole / without cells / in the middle of a list of cells. -/
abbrev g_St : Type := (Nat → Int32) × (Nat → Int64) × (Nat → Nat → Int32) × (Nat → Nat → Int64)
def gi (s : g_St) (k : Nat) : Int32 := s.1 k
def gj (s : g_St) (k : Nat) : Int64 := s.2.1 k
def gr (s : g_St) (k : Nat) : Nat → Int32 := s.2.2.1 k
def gt (s : g_St) (k : Nat) : Nat → Int64 := s.2.2.2 k
def si (s : g_St) (k : Nat) (v : Int32) : g_St := (fun j => if j = k then v else s.1 j, s.2)
def sj (s : g_St) (k : Nat) (v : Int64) : g_St := (s.1, fun j => if j = k then v else s.2.1 j, s.2.2)
def sra (s : g_St) (k : Nat) (f : Nat → Int32) : g_St := (s.1, s.2.1, fun j => if j = k then f else s.2.2.1 j, s.2.2.2)
def sta (s : g_St) (k : Nat) (f : Nat → Int64) : g_St := (s.1, s.2.1, s.2.2.1, fun j => if j = k then f else s.2.2.2 j)
def sr (s : g_St) (k : Nat) (i : Int32) (x : Int32) : g_St := sra s k (upd (gr s k) i.toNatClampNeg x)
def st (s : g_St) (k : Nat) (i : Int32) (x : Int64) : g_St := sta s k (vp_updL (gt s k) i.toNatClampNeg x)
/-- a step that may fail: where c doesn't hold there is no answer -/
noncomputable def gd {α : Type} (c : Prop) (k : Option α) : Option α := @ite _ c (Classical.propDecidable c) k none
theorem gd_some {α : Type} {c : Prop} {k : Option α} {r : α} (h : gd c k = some r) : c ∧ k = some r := by
  unfold gd at h
  split at h
  · exact ⟨‹_›, h⟩
  · cases h
theorem gd_of {α : Type} {c : Prop} {k : Option α} (h : c) : gd c k = k := by unfold gd; exact @if_pos c (Classical.propDecidable c) h _ k none
def bd1 {α γ : Type} (m : Option α) (k : α → Option γ) : Option γ := match m with
  | none => none
  | some x => k x
def bd2 {α β γ : Type} (m : Option (α × β)) (k : α → β → Option γ) : Option γ := match m with
  | none => none
  | some x => k x.1 x.2
def bd3 {α β δ γ : Type} (m : Option (α × β × δ)) (k : α → β → δ → Option γ) : Option γ := match m with
  | none => none
  | some x => k x.1 x.2.1 x.2.2
theorem bd1_some {α γ : Type} {m : Option α} {k : α → Option γ} {r : γ} (h : bd1 m k = some r) : ∃ x, m = some x ∧ k x = some r := by
  cases m with
  | none => cases h
  | some x => exact ⟨x, rfl, h⟩
theorem bd2_some {α β γ : Type} {m : Option (α × β)} {k : α → β → Option γ} {r : γ} (h : bd2 m k = some r) : ∃ x y, m = some (x, y) ∧ k x y = some r := by
  cases m with
  | none => cases h
  | some x => exact ⟨x.1, x.2, rfl, h⟩
theorem bd3_some {α β δ γ : Type} {m : Option (α × β × δ)} {k : α → β → δ → Option γ} {r : γ} (h : bd3 m k = some r) : ∃ x y z, m = some (x, y, z) ∧ k x y z = some r := by
  cases m with
  | none => cases h
  | some x => exact ⟨x.1, x.2.1, x.2.2, rfl, h⟩
/-- a value gets a name -/
def lt {α γ : Type} (x : α) (k : α → γ) : γ := k x
theorem lt_e {α γ : Type} {x : α} {k : α → γ} {r : γ} (h : lt x k = r) {y : α} (e : y = x) : k y = r := by rw [e]; exact h
theorem if_t {α : Type} {c : Prop} [Decidable c] {a b : α} {r : α} (h : (if c then a else b) = r) (hc : c) : a = r := by rw [if_pos hc] at h; exact h
theorem if_f {α : Type} {c : Prop} [Decidable c] {a b : α} {r : α} (h : (if c then a else b) = r) (hc : ¬ c) : b = r := by rw [if_neg hc] at h; exact h
theorem pair2 {α β : Type} {a c : α} {b d : β} (h : (a, b) = (c, d)) : a = c ∧ b = d := by cases h; exact ⟨rfl, rfl⟩
def g_shl (x y : Int32) : Int32 := x <<< (y &&& 31)
def g_shr (x y : Int32) : Int32 := x >>> (y &&& 31)
def g_ushr (x y : Int32) : Int32 := (x.toUInt32 >>> (y.toUInt32 &&& Int32.toUInt32 31)).toInt32
def g_rem (x y : Int32) : Int32 := x - x / y * y
def g_remL (x y : Int64) : Int64 := x - x / y * y
def g_shlL (x : Int64) (y : Int32) : Int64 := x <<< (y.toInt64 &&& 63)
def g_shrL (x : Int64) (y : Int32) : Int64 := x >>> (y.toInt64 &&& 63)
def g_ushrL (x : Int64) (y : Int32) : Int64 := (x.toUInt64 >>> (y.toInt64.toUInt64 &&& Int64.toUInt64 63)).toInt64
theorem some2 {α β : Type} {a c : α} {b d : β} (h : (some (a, b) : Option (α × β)) = some (c, d)) : a = c ∧ b = d := by cases h; exact ⟨rfl, rfl⟩
theorem some1 {α : Type} {a c : α} (h : (some a : Option α) = some c) : a = c := by cases h; rfl
/-- the array classes: int[], long[], Sayer[], Sheet[], int[][] -/
abbrev g_ty (cy : Nat → ClassId) : List (ClassId × FieldType) := [(cy 0, .int), (cy 1, .long), (cy 2, .object "LifeNoes$Sayer"), (cy 3, .object "LifeNoes$Sheet"), (cy 4, .array .int)]
/-- the classes' numbers, the array classes' numbers, and what else is known of the machine (strings, statics) apart from the cells that may change -/
abbrev g_G : Type := va_G × (Nat → ClassId) × ((Nat → Prop) → State → Heap → Prop)
def EOk (E : (Nat → Prop) → State → Heap → Prop) : Prop :=
  (∀ (A : Nat → Prop) (u U : State) (H : Heap), u.WarmedH U.vm → E A u H → E A U H) ∧ (∀ (A : Nat → Prop) (U : State) (H H1 : Heap), E A U H → (∀ a : Nat, a < H.size → ¬ A a → H1[a]? = H[a]?) → E A U H1) ∧ (∀ (A B : Nat → Prop) (U : State) (H : Heap), E A U H → (∀ q, B q → A q) → E B U H) ∧ (∀ (A : Nat → Prop) (u U : State) (H : Heap), u.vm = U.vm → E A u H → E A U H)
/-- what holds all through a method -/
def Cx (G : g_G) (A : Nat → Prop) (p : Program) (s : State) (m : MethodId) (meth : Method) (c : Code) (cc : ByteArray) (nL : Nat) (own : String) (args : Array Value) : Prop :=
  p.tables.exec = Jvm.exec ∧ c.code = cc ∧ c.maxLocals = nL ∧ s.vm.findClass own = some m.cls ∧ (∀ w ∈ gT, w.before args s = true) ∧ va_K G.1 vwCl (g_ty G.2.1) s ∧ meth.locks = false ∧ EOk G.2.2 ∧ G.2.2 A s s.heap
/-- what holds of the heap now -/
def Iv (G : g_G) (A : Nat → Prop) (s : State) (H : Heap) (locs : List Loc) (ws : va_W) : Prop := va_P G.1 vwCl ws H ∧ va_D A ws ∧ va_S A s.heap H locs ∧ (∀ q : Nat, s.heap.size ≤ q → A q)
abbrev Pre0 (G : g_G) (avs : List Value) (w : va_W) (sz : Nat) : Array Value → State → Prop := va_Pc avs (fun U => U.heap.size = sz ∧ va_P G.1 vwCl w U.heap ∧ va_K G.1 vwCl (g_ty G.2.1) U ∧ va_D (fun _ => True) w ∧ G.2.2 (va_A w sz) U U.heap)
abbrev Bk (G : g_G) (w w1 : va_W) (sz : Nat) : Unit → State → Prop := fun _ t => va_P G.1 vwCl w1 t.heap ∧ va_K G.1 vwCl (g_ty G.2.1) t ∧ va_D (va_A w sz) w1
def HI (l : Launch) (G : g_G) (y : MethodName) (ws : List Cond) (rm : Room) (ty : FieldType) (avs : List Value) (w : va_W) (r : Int32) (w1 : va_W) : Prop :=
  ∀ sz : Nat, Met l y ws rm (Pre0 G avs w sz) (va_Qi (fun (r1 : Int32) (_ : Unit) => r1 = r ∧ narrow ty (.int r) = .int r) (Bk G w w1 sz) (va_A w sz)) 0 0 (va_A w sz)
def HL (l : Launch) (G : g_G) (y : MethodName) (ws : List Cond) (rm : Room) (avs : List Value) (w : va_W) (r : Int64) (w1 : va_W) : Prop :=
  ∀ sz : Nat, Met l y ws rm (Pre0 G avs w sz) (va_Ql (fun (r1 : Int64) (_ : Unit) => r1 = r) (Bk G w w1 sz) (va_A w sz)) 0 0 (va_A w sz)
def HV (l : Launch) (G : g_G) (y : MethodName) (ws : List Cond) (rm : Room) (avs : List Value) (w : va_W) (w1 : va_W) : Prop :=
  ∀ sz : Nat, Met l y ws rm (Pre0 G avs w sz) (va_Qv (fun (_ : Unit) => True) (Bk G w w1 sz) (va_A w sz)) 0 0 (va_A w sz)
section K4
variable {p : Program} {l : Launch} {e : Env} {R : Room} {s : State} {m : MethodId} {args : Array Value} {below : List Frame} {meth : Method} {c : Code} {H : Heap} {locs : List Loc} {cells slots : Nat} {Q : State → Prop}
variable {cc : ByteArray} {nL pc : Nat} {ls : Array Slot} {rest st0 : List Value} {G : g_G} {A : Nat → Prop} {own : String} {w w1 wc X Y : va_W}
theorem Cx.x (h : Cx G A p s m meth c cc nL own args) : p.tables.exec = Jvm.exec := h.1
theorem Cx.b (h : Cx G A p s m meth c cc nL own args) : c.code = cc := h.2.1
theorem Cx.ml (h : Cx G A p s m meth c cc nL own args) : c.maxLocals = nL := h.2.2.1
theorem Cx.o (h : Cx G A p s m meth c cc nL own args) : s.vm.findClass own = some m.cls := h.2.2.2.1
theorem Cx.t (h : Cx G A p s m meth c cc nL own args) : ∀ w ∈ gT, w.before args s = true := h.2.2.2.2.1
theorem Cx.K (h : Cx G A p s m meth c cc nL own args) : va_K G.1 vwCl (g_ty G.2.1) s := h.2.2.2.2.2.1
theorem Cx.lk (h : Cx G A p s m meth c cc nL own args) : meth.locks = false := h.2.2.2.2.2.2.1
theorem Cx.ok (h : Cx G A p s m meth c cc nL own args) : EOk G.2.2 := h.2.2.2.2.2.2.2.1
theorem Cx.E (h : Cx G A p s m meth c cc nL own args) : G.2.2 A s s.heap := h.2.2.2.2.2.2.2.2
theorem Cx.fix (h : Cx G A p s m meth c cc nL own args) : CallFix p m c cc nL s args gT own := ⟨h.x, h.b, h.ml, h.o, h.t⟩
theorem HI.mk (OK : EOk G.2.2) {ty : FieldType} {y : MethodName} {maxL : Nat} {ret : Option FieldType} {rm : Room} {avs : List Value} {r : Int32} {lv : List (Nat × Value)} (hy : plainName y.cls = true) (hn : (lg_sl avs).length ≤ maxL) (hlv : lv_args 0 avs = lv)
    (body : ∀ (p : Program) (e : Env) (s : State) (m : MethodId) (args : Array Value) (below : List Frame) (meth : Method) (c : Code) (ls : Array Slot), Cx G (va_A w s.heap.size) p s m meth c cc maxL y.cls args → meth.sig.returnType = ret → Iv G (va_A w s.heap.size) s s.heap [] w → lv_has ls maxL lv →
      W p l e rm s m args below meth c s.heap [] 0 0 (MQ below (va_Qi (fun (r1 : Int32) (_ : Unit) => r1 = r ∧ narrow ty (.int r) = .int r) (Bk G w w1 s.heap.size) (va_A w s.heap.size)) args s 0 0 (va_A w s.heap.size)) (F0 m 0 ls [])) :
    HI l G y (Cond.code y cc maxL ret :: gT) rm ty avs w r w1 := by
  intro sz
  refine Met.ofW (cc := cc) (maxL := maxL) (ret := ret) hy rfl ?_
  intro p e s m args below meth c s₁ B hml hv
  obtain ⟨rfl, rfl, hP, hK, hD0, hE⟩ := hv
  have hts := atoms_spec (ws := Cond.code y cc maxL ret :: gT) B.pre
  have hl := lv_entry avs (n := maxL) hn
  rw [lg_entry_eq]
  rw [hlv] at hl
  exact body p e s m _ below meth c _ ⟨B.exec, B.bytes, hml, findClass_of_methodNamed B.named, fun w h => hts w (List.mem_cons_of_mem _ h), hK, B.notSynchronized, OK, hE⟩ B.returns ⟨hP, hD0.self (sz := s.heap.size), va_S.rf, fun q h => Or.inr h⟩ hl
theorem HL.mk (OK : EOk G.2.2) {y : MethodName} {maxL : Nat} {ret : Option FieldType} {rm : Room} {avs : List Value} {r : Int64} {lv : List (Nat × Value)} (hy : plainName y.cls = true) (hn : (lg_sl avs).length ≤ maxL) (hlv : lv_args 0 avs = lv)
    (body : ∀ (p : Program) (e : Env) (s : State) (m : MethodId) (args : Array Value) (below : List Frame) (meth : Method) (c : Code) (ls : Array Slot), Cx G (va_A w s.heap.size) p s m meth c cc maxL y.cls args → meth.sig.returnType = ret → Iv G (va_A w s.heap.size) s s.heap [] w → lv_has ls maxL lv →
      W p l e rm s m args below meth c s.heap [] 0 0 (MQ below (va_Ql (fun (r1 : Int64) (_ : Unit) => r1 = r) (Bk G w w1 s.heap.size) (va_A w s.heap.size)) args s 0 0 (va_A w s.heap.size)) (F0 m 0 ls [])) :
    HL l G y (Cond.code y cc maxL ret :: gT) rm avs w r w1 := by
  intro sz
  refine Met.ofW (cc := cc) (maxL := maxL) (ret := ret) hy rfl ?_
  intro p e s m args below meth c s₁ B hml hv
  obtain ⟨rfl, rfl, hP, hK, hD0, hE⟩ := hv
  have hts := atoms_spec (ws := Cond.code y cc maxL ret :: gT) B.pre
  have hl := lv_entry avs (n := maxL) hn
  rw [lg_entry_eq]
  rw [hlv] at hl
  exact body p e s m _ below meth c _ ⟨B.exec, B.bytes, hml, findClass_of_methodNamed B.named, fun w h => hts w (List.mem_cons_of_mem _ h), hK, B.notSynchronized, OK, hE⟩ B.returns ⟨hP, hD0.self (sz := s.heap.size), va_S.rf, fun q h => Or.inr h⟩ hl
theorem HV.mk (OK : EOk G.2.2) {y : MethodName} {maxL : Nat} {ret : Option FieldType} {rm : Room} {avs : List Value} {lv : List (Nat × Value)} (hy : plainName y.cls = true) (hn : (lg_sl avs).length ≤ maxL) (hlv : lv_args 0 avs = lv)
    (body : ∀ (p : Program) (e : Env) (s : State) (m : MethodId) (args : Array Value) (below : List Frame) (meth : Method) (c : Code) (ls : Array Slot), Cx G (va_A w s.heap.size) p s m meth c cc maxL y.cls args → meth.sig.returnType = ret → Iv G (va_A w s.heap.size) s s.heap [] w → lv_has ls maxL lv →
      W p l e rm s m args below meth c s.heap [] 0 0 (MQ below (va_Qv (fun (_ : Unit) => True) (Bk G w w1 s.heap.size) (va_A w s.heap.size)) args s 0 0 (va_A w s.heap.size)) (F0 m 0 ls [])) :
    HV l G y (Cond.code y cc maxL ret :: gT) rm avs w w1 := by
  intro sz
  refine Met.ofW (cc := cc) (maxL := maxL) (ret := ret) hy rfl ?_
  intro p e s m args below meth c s₁ B hml hv
  obtain ⟨rfl, rfl, hP, hK, hD0, hE⟩ := hv
  have hts := atoms_spec (ws := Cond.code y cc maxL ret :: gT) B.pre
  have hl := lv_entry avs (n := maxL) hn
  rw [lg_entry_eq]
  rw [hlv] at hl
  exact body p e s m _ below meth c _ ⟨B.exec, B.bytes, hml, findClass_of_methodNamed B.named, fun w h => hts w (List.mem_cons_of_mem _ h), hK, B.notSynchronized, OK, hE⟩ B.returns ⟨hP, hD0.self (sz := s.heap.size), va_S.rf, fun q h => Or.inr h⟩ hl
abbrev QI (G : g_G) (below : List Frame) (ty : FieldType) (r : Int32) (w w1 : va_W) (args : Array Value) (s : State) : State → Prop := MQ below (va_Qi (fun (r1 : Int32) (_ : Unit) => r1 = r ∧ narrow ty (.int r) = .int r) (Bk G w w1 s.heap.size) (va_A w s.heap.size)) args s 0 0 (va_A w s.heap.size)
abbrev QL (G : g_G) (below : List Frame) (r : Int64) (w w1 : va_W) (args : Array Value) (s : State) : State → Prop := MQ below (va_Ql (fun (r1 : Int64) (_ : Unit) => r1 = r) (Bk G w w1 s.heap.size) (va_A w s.heap.size)) args s 0 0 (va_A w s.heap.size)
abbrev QV (G : g_G) (below : List Frame) (w w1 : va_W) (args : Array Value) (s : State) : State → Prop := MQ below (va_Qv (fun (_ : Unit) => True) (Bk G w w1 s.heap.size) (va_A w s.heap.size)) args s 0 0 (va_A w s.heap.size)
theorem tab_out {x : Int32} {lo hi : Int} (h : ∀ k : Int, lo ≤ k → k ≤ hi → x ≠ Int32.ofInt k) : x.toInt < lo ∨ hi < x.toInt := by
  by_cases a : x.toInt < lo
  · exact Or.inl a
  · by_cases b : hi < x.toInt
    · exact Or.inr b
    · exact absurd (Int32.ofInt_toInt x).symm (h x.toInt (by omega) (by omega))
/-- the ends -/
theorem e_i {ty : FieldType} {r v : Int32} (hty : ty = .int) (XX : Cx G (va_A w s.heap.size) p s m meth c cc nL own args) (hr : meth.sig.returnType = some .int) (I : Iv G (va_A w s.heap.size) s H locs w1) (hv : v = r) (hdg : decode cc pc = .ok (.ireturn, 1)) :
    W p l e R s m args below meth c H locs 0 0 (MQ below (va_Qi (fun (r1 : Int32) (_ : Unit) => r1 = r ∧ narrow ty (.int r) = .int r) (Bk G w w1 s.heap.size) (va_A w s.heap.size)) args s 0 0 (va_A w s.heap.size)) (F0 m pc ls [.int v]) :=
  W.iret XX.x XX.b hr (fun t ht hW => ⟨⟨v, (), rfl, ⟨hv, by rw [hty]; exact vp_nar_int r⟩, by rw [ht]; exact I.1, va_K.moved hW.alike XX.K, I.2.1⟩, I.2.2.1.F ht⟩) I.2.2.1.2.2 hdg XX.lk
theorem e_z {r v : Int32} {ty : FieldType} (XX : Cx G (va_A w s.heap.size) p s m meth c cc nL own args) (hr : meth.sig.returnType = some ty) (I : Iv G (va_A w s.heap.size) s H locs w1) (hn : narrow ty (.int v) = .int v) (hv : v = r) (hdg : decode cc pc = .ok (.ireturn, 1)) :
    W p l e R s m args below meth c H locs 0 0 (MQ below (va_Qi (fun (r1 : Int32) (_ : Unit) => r1 = r ∧ narrow ty (.int r) = .int r) (Bk G w w1 s.heap.size) (va_A w s.heap.size)) args s 0 0 (va_A w s.heap.size)) (F0 m pc ls [.int v]) :=
  W.zret XX.x XX.b hr hn (fun t ht hW => ⟨⟨v, (), rfl, ⟨hv, by rw [← hv]; exact hn⟩, by rw [ht]; exact I.1, va_K.moved hW.alike XX.K, I.2.1⟩, I.2.2.1.F ht⟩) I.2.2.1.2.2 hdg XX.lk
theorem e_l {r v : Int64} (XX : Cx G (va_A w s.heap.size) p s m meth c cc nL own args) (hr : meth.sig.returnType = some .long) (I : Iv G (va_A w s.heap.size) s H locs w1) (hv : v = r) (hdg : decode cc pc = .ok (.lreturn, 1)) :
    W p l e R s m args below meth c H locs 0 0 (MQ below (va_Ql (fun (r1 : Int64) (_ : Unit) => r1 = r) (Bk G w w1 s.heap.size) (va_A w s.heap.size)) args s 0 0 (va_A w s.heap.size)) (F0 m pc ls [.long v]) :=
  W.lret XX.x XX.b hr (fun t ht hW => ⟨⟨v, (), rfl, hv, by rw [ht]; exact I.1, va_K.moved hW.alike XX.K, I.2.1⟩, I.2.2.1.F ht⟩) I.2.2.1.2.2 hdg XX.lk
theorem e_v (XX : Cx G (va_A w s.heap.size) p s m meth c cc nL own args) (hr : meth.sig.returnType = none) (I : Iv G (va_A w s.heap.size) s H locs w1) (hdg : decode cc pc = .ok (.return_, 1)) :
    W p l e R s m args below meth c H locs 0 0 (MQ below (va_Qv (fun (_ : Unit) => True) (Bk G w w1 s.heap.size) (va_A w s.heap.size)) args s 0 0 (va_A w s.heap.size)) (F0 m pc ls []) :=
  W.vret XX.x XX.b hr (fun t ht hW => ⟨⟨(), rfl, trivial, by rw [ht]; exact I.1, va_K.moved hW.alike XX.K, I.2.1⟩, I.2.2.1.F ht⟩) I.2.2.1.2.2 hdg XX.lk
/-- cells in the middle of a list are changed by a callee, the others stay -/
theorem va_mid {H1 : Heap} (hP : va_P G.1 vwCl (X ++ (wc ++ Y)) H) (hD : va_D A (X ++ (wc ++ Y))) (hk : ∀ q : Nat, q < H.size → ¬ va_A wc H.size q → H1[q]? = H[q]?) (hF : ∀ q, va_A wc H.size q → A q) (hP1 : va_P G.1 vwCl w1 H1) (hD1 : va_D (va_A wc H.size) w1) :
    va_P G.1 vwCl (X ++ (w1 ++ Y)) H1 ∧ va_D A (X ++ (w1 ++ Y)) := by
  have key : ∀ (i : Nat) (q : Nat × va_E), (X ++ (wc ++ Y))[i]? = some q → (i < X.length ∨ X.length + wc.length ≤ i) → ¬ va_A wc H.size q.1 := by
    intro i q hi hor hA
    rcases hA with ⟨k, e, hk⟩ | hge
    · have hkl : k < wc.length := (List.getElem?_eq_some_iff.mp hk).1
      have h2 : (X ++ (wc ++ Y))[X.length + k]? = some (q.1, e) := by
        rw [List.getElem?_append_right (by omega), show X.length + k - X.length = k by omega, List.getElem?_append_left hkl]; exact hk
      have := hD.1 i (X.length + k) q (q.1, e) hi h2 rfl
      omega
    · exact absurd (hP i q hi).lt (by omega)
  have hX : ∀ (i : Nat) (q : Nat × va_E), X[i]? = some q → (X ++ (wc ++ Y))[i]? = some q ∧ i < X.length := fun i q h => by
    have hl := (List.getElem?_eq_some_iff.mp h).1
    exact ⟨by rw [List.getElem?_append_left hl]; exact h, hl⟩
  have hY : ∀ (i : Nat) (q : Nat × va_E), Y[i]? = some q → (X ++ (wc ++ Y))[X.length + wc.length + i]? = some q := fun i q h => by
    rw [List.getElem?_append_right (by omega), List.getElem?_append_right (by omega), show X.length + wc.length + i - X.length - wc.length = i by omega]; exact h
  have split : ∀ (i : Nat) (q : Nat × va_E), (X ++ (w1 ++ Y))[i]? = some q → (X[i]? = some q ∧ i < X.length) ∨ (w1[i - X.length]? = some q ∧ X.length ≤ i ∧ i < X.length + w1.length) ∨ (Y[i - X.length - w1.length]? = some q ∧ X.length + w1.length ≤ i) := by
    intro i q h
    by_cases h1 : i < X.length
    · rw [List.getElem?_append_left h1] at h; exact Or.inl ⟨h, h1⟩
    · rw [List.getElem?_append_right (by omega)] at h
      by_cases h2 : i - X.length < w1.length
      · rw [List.getElem?_append_left h2] at h; exact Or.inr (Or.inl ⟨h, by omega, by omega⟩)
      · rw [List.getElem?_append_right (by omega)] at h; exact Or.inr (Or.inr ⟨h, by omega⟩)
  constructor
  · intro i q h
    rcases split i q h with ⟨h, hl⟩ | ⟨h, -⟩ | ⟨h, -⟩
    · have h2 := hX i q h
      exact (hP i q h2.1).kept (hk _ (hP i q h2.1).lt (key i q h2.1 (Or.inl h2.2)))
    · exact hP1 _ q h
    · have h2 := hY _ q h
      exact (hP _ q h2).kept (hk _ (hP _ q h2).lt (key _ q h2 (Or.inr (by omega))))
  · constructor
    · intro i j a b hi hj hab
      rcases split i a hi with ⟨h1, l1⟩ | ⟨h1, l1, l1'⟩ | ⟨h1, l1⟩ <;> rcases split j b hj with ⟨h2, l2⟩ | ⟨h2, l2, l2'⟩ | ⟨h2, l2⟩
      · have := hD.1 _ _ _ _ (hX _ _ h1).1 (hX _ _ h2).1 hab; omega
      · exact absurd (hab ▸ hD1.2 _ _ h2) (key _ _ (hX _ _ h1).1 (Or.inl l1))
      · have := hD.1 _ _ _ _ (hX _ _ h1).1 (hY _ _ h2) hab; omega
      · exact absurd (hab ▸ hD1.2 _ _ h1) (key _ _ (hX _ _ h2).1 (Or.inl l2))
      · have := hD1.1 _ _ _ _ h1 h2 hab; omega
      · exact absurd (hab ▸ hD1.2 _ _ h1) (key _ _ (hY _ _ h2) (Or.inr (by omega)))
      · have := hD.1 _ _ _ _ (hY _ _ h1) (hX _ _ h2).1 hab; omega
      · exact absurd (hab ▸ hD1.2 _ _ h2) (key _ _ (hY _ _ h1) (Or.inr (by omega)))
      · have := hD.1 _ _ _ _ (hY _ _ h1) (hY _ _ h2) hab; omega
    · intro i q h
      rcases split i q h with ⟨h, -⟩ | ⟨h, -⟩ | ⟨h, -⟩
      · exact hD.2 _ _ (hX _ _ h).1
      · exact hF _ (hD1.2 _ _ h)
      · exact hD.2 _ _ (hY _ _ h)
theorem midP (hP : va_P G.1 vwCl (X ++ (wc ++ Y)) H) : va_P G.1 vwCl wc H := fun k q h => hP (X.length + k) q (by
  have hl := (List.getElem?_eq_some_iff.mp h).1
  rw [List.getElem?_append_right (by omega), show X.length + k - X.length = k by omega, List.getElem?_append_left hl]; exact h)
theorem midD (hD : va_D A (X ++ (wc ++ Y))) : va_D A wc := by
  have hh : ∀ (k : Nat) (q : Nat × va_E), wc[k]? = some q → (X ++ (wc ++ Y))[X.length + k]? = some q := fun k q h => by
    have hl := (List.getElem?_eq_some_iff.mp h).1
    rw [List.getElem?_append_right (by omega), show X.length + k - X.length = k by omega, List.getElem?_append_left hl]; exact h
  exact ⟨fun i j a b hi hj hab => by have := hD.1 _ _ _ _ (hh _ _ hi) (hh _ _ hj) hab; omega, fun k q h => hD.2 _ _ (hh _ _ h)⟩
theorem midF (hD : va_D A (X ++ (wc ++ Y))) (hS : va_S A s.heap H locs) (hA : ∀ q : Nat, s.heap.size ≤ q → A q) : ∀ q, va_A wc H.size q → A q := by
  intro q h
  rcases h with ⟨k, e, h⟩ | h
  · exact (midD hD).2 k (q, e) h
  · exact hA q (Nat.le_trans hS.1 h)
theorem Iv.back {H1 : Heap} {locs1 : List Loc} (I : Iv G A s H locs (X ++ (wc ++ Y))) (hk : ∀ q : Nat, q < H.size → ¬ va_A wc H.size q → H1[q]? = H[q]?) (hP1 : va_P G.1 vwCl w1 H1) (hD1 : va_D (va_A wc H.size) w1) (hS : va_S A s.heap H1 locs1) : Iv G A s H1 locs1 (X ++ (w1 ++ Y)) := by
  obtain ⟨a, b⟩ := va_mid I.1 I.2.1 hk (midF I.2.1 I.2.2.1 I.2.2.2) hP1 hD1
  exact ⟨a, b, hS, I.2.2.2⟩
theorem Cx.Ec {U : State} (h : Cx G A p s m meth c cc nL own args) (I : Iv G A s H locs (X ++ (wc ++ Y))) (hU : U.heap = H) (hW : s.WarmedH U.vm) : G.2.2 (va_A wc H.size) U U.heap := by
  rw [hU]
  exact h.ok.2.2.1 _ _ _ _ (h.ok.2.1 _ _ _ _ (h.ok.1 _ s U _ hW h.E) (fun a ha hn => I.2.2.1.2.1 a ha hn)) (midF I.2.1 I.2.2.1 I.2.2.2)
theorem Iv.whole (I : Iv G A s H locs w) : Iv G A s H locs ([] ++ (w ++ [])) := by rw [List.append_nil]; exact I
theorem Iv.none (I : Iv G A s H locs w) : Iv G A s H locs ([] ++ ([] ++ w)) := I
theorem Iv.unw (I : Iv G A s H locs ([] ++ (w ++ []))) : Iv G A s H locs w := by rw [List.append_nil] at I; exact I
/-- a callee's words, among all -/
def KV (own : String) (idx : Nat) (C : String) (y : MethodName) (bytes : ByteArray) (maxL : Nat) (ret : Option FieldType) (n : Nat) : Prop :=
  GoodIn gT (wsV own idx C y (Cond.code y bytes maxL ret :: gT)) ∧ (y.cls = C ∧ y.cls ≠ "java/lang/invoke/MethodHandle" ∧ y.cls ≠ "java/lang/invoke/VarHandle" ∧ (parseMethodDescriptor y.desc).map (fun d => d.parameters.length) = some n)
def KS (own : String) (idx : Nat) (y : MethodName) (bytes : ByteArray) (maxL : Nat) (ret : Option FieldType) (n : Nat) : Prop :=
  GoodIn gT (va_wsS own idx y (Cond.code y bytes maxL ret :: gT)) ∧ (y.cls ≠ "java/lang/invoke/MethodHandle" ∧ y.cls ≠ "java/lang/invoke/VarHandle" ∧ (parseMethodDescriptor y.desc).map (fun d => d.parameters.length) = some n)
theorem good_all : ∀ w ∈ gT, w ∈ gT ∧ ((w.onTables && w.keeps) = true ∨ ∃ ty, w = .arrayClass ty) := fun w h => ⟨h, good_of_word (gT_good w h)⟩
theorem KV.mk {own : String} {idx : Nat} {C : String} {y : MethodName} {bytes : ByteArray} {maxL : Nat} {ret : Option FieldType} {n : Nat} (h1 : Cond.methodLink own idx y ∈ gT) (h2 : Cond.instanceMethod y ∈ gT) (h3 : Cond.selects C y y ∈ gT) (h4 : Cond.initialized C ∈ gT) (h5 : Cond.code y bytes maxL ret ∈ gT) (hd : y.cls = C ∧ y.cls ≠ "java/lang/invoke/MethodHandle" ∧ y.cls ≠ "java/lang/invoke/VarHandle" ∧ (parseMethodDescriptor y.desc).map (fun d => d.parameters.length) = some n) : KV own idx C y bytes maxL ret n := by
  refine ⟨fun w hw => good_all w ?_, hd⟩
  simp only [wsV, List.cons_append, List.nil_append, List.mem_cons] at hw
  rcases hw with rfl | rfl | rfl | rfl | rfl | hw
  · exact h1
  · exact h2
  · exact h3
  · exact h4
  · exact h5
  · exact hw
theorem KS.mk {own : String} {idx : Nat} {y : MethodName} {bytes : ByteArray} {maxL : Nat} {ret : Option FieldType} {n : Nat} (h1 : Cond.methodLink own idx y ∈ gT) (h2 : Cond.static y ∈ gT) (h3 : Cond.initialized y.cls ∈ gT) (h5 : Cond.code y bytes maxL ret ∈ gT) (hd : y.cls ≠ "java/lang/invoke/MethodHandle" ∧ y.cls ≠ "java/lang/invoke/VarHandle" ∧ (parseMethodDescriptor y.desc).map (fun d => d.parameters.length) = some n) : KS own idx y bytes maxL ret n := by
  refine ⟨fun w hw => good_all w ?_, hd⟩
  simp only [va_wsS, List.cons_append, List.nil_append, List.mem_cons] at hw
  rcases hw with rfl | rfl | rfl | rfl | hw
  · exact h1
  · exact h2
  · exact h3
  · exact h5
  · exact hw
theorem blind0 (OK : EOk G.2.2) {avs : List Value} {sz : Nat} : FrameBlind (Pre0 G avs w sz) := fun a U g mk q => by
  obtain ⟨q0, q1, qP, qK, qD, qE⟩ := q
  exact ⟨q0, q1, qP, va_K.moved (u := U) (U := U.calling g mk a) (Vm.Alike.refl U.vm) qK, qD, OK.2.2.2 _ U (U.calling g mk a) _ rfl qE⟩
/-- a receiver: an object among the cells -/
def Rc (s : State) (H : Heap) (C : String) (b : Addr) : Prop := ∃ cellB : Cell, H[b]? = some cellB ∧ cellB.vm.isStatics = false ∧ s.vm.findClass C = some cellB.cls
theorem Rc.mk {b q0 ci : Nat} {q : vw_C} {fs : List Value} (XX : Cx G A p s m meth c cc nL own args) (I : Iv G A s H locs w) (he : w[q0]? = some (b, .inr (ci, fs))) (hc : vwCl[ci]? = some q) : Rc s H q.1 b := va_recv XX.K I.1 hc he
section Calls
variable {y : MethodName} {bytes : ByteArray} {maxL idx n : Nat} {ret : Option FieldType} {rm : Room} {As : List Value} {b : Addr} {C : String} {ty : FieldType}
theorem call_i {r : Int32} (XX : Cx G A p s m meth c cc nL own args) (I : Iv G A s H locs (X ++ (wc ++ Y))) (hls : ls.size = nL) (hc : HI l G y (Cond.code y bytes maxL ret :: gT) rm ty (.ref b :: As) wc r w1) (k : KV own idx C y bytes maxL ret n) (hrc : Rc s H C b) (hn : As.length = n) (hst : st0 = As.reverse ++ .ref b :: rest) (hcat : (rest.map fun v => v.category).sum ≤ 8)
    (hR : rm.cells = 0 ∧ rm.slots = 0 ∧ rm.frames + 1 ≤ R.frames ∧ 8 + (maxL + 11) + rm.locals ≤ R.locals) (hcs : cells ≤ R.cells ∧ slots ≤ R.slots) (hdg : decode cc pc = .ok (.invokevirtual idx, 3))
    (kk : ∀ (H1 : Heap) (locs1 : List Loc), narrow ty (.int r) = .int r → Iv G A s H1 locs1 (X ++ (w1 ++ Y)) → W p l e R s m args below meth c H1 locs1 cells slots Q (F0 m (pc + 3) ls (.int r :: rest))) : W p l e R s m args below meth c H locs cells slots Q (F0 m pc ls st0) := by
  subst hst
  refine va_calli (va_runV (As := As) (rest := rest) XX.fix (hc H.size) (cwV n XX.t k.1 rfl hR.1 hR.2.1 k.2 hR.2.2) ⟨blind0 XX.ok, hrc, fun U hU hW => ⟨rfl, by rw [hU], by rw [hU]; exact midP I.1, va_K.moved hW.alike XX.K, (midD I.2.1).weaken (fun _ _ _ _ => trivial), XX.Ec I hU hW⟩⟩ rfl hn hls rfl (lv_room hcat) hdg ⟨hcs.1, hcs.2⟩) I.2.2.1 (fun q _ h => midF I.2.1 I.2.2.1 I.2.2.2 q h) (midF I.2.1 I.2.2.1 I.2.2.2) (fun r1 u t H1 locs1 ht hvm hw hB hz1 hk1 hS => ?_)
  obtain ⟨hP1, -, hD1⟩ := hB
  rw [ht] at hP1
  obtain ⟨rfl, hz⟩ := hw
  exact kk H1 locs1 hz (I.back hk1 hP1 hD1 hS)
theorem call_l {r : Int64} (XX : Cx G A p s m meth c cc nL own args) (I : Iv G A s H locs (X ++ (wc ++ Y))) (hls : ls.size = nL) (hc : HL l G y (Cond.code y bytes maxL ret :: gT) rm (.ref b :: As) wc r w1) (k : KV own idx C y bytes maxL ret n) (hrc : Rc s H C b) (hn : As.length = n) (hst : st0 = As.reverse ++ .ref b :: rest) (hcat : (rest.map fun v => v.category).sum ≤ 8)
    (hR : rm.cells = 0 ∧ rm.slots = 0 ∧ rm.frames + 1 ≤ R.frames ∧ 8 + (maxL + 11) + rm.locals ≤ R.locals) (hcs : cells ≤ R.cells ∧ slots ≤ R.slots) (hdg : decode cc pc = .ok (.invokevirtual idx, 3))
    (kk : ∀ (H1 : Heap) (locs1 : List Loc), Iv G A s H1 locs1 (X ++ (w1 ++ Y)) → W p l e R s m args below meth c H1 locs1 cells slots Q (F0 m (pc + 3) ls (.long r :: rest))) : W p l e R s m args below meth c H locs cells slots Q (F0 m pc ls st0) := by
  subst hst
  refine va_calll (va_runV (As := As) (rest := rest) XX.fix (hc H.size) (cwV n XX.t k.1 rfl hR.1 hR.2.1 k.2 hR.2.2) ⟨blind0 XX.ok, hrc, fun U hU hW => ⟨rfl, by rw [hU], by rw [hU]; exact midP I.1, va_K.moved hW.alike XX.K, (midD I.2.1).weaken (fun _ _ _ _ => trivial), XX.Ec I hU hW⟩⟩ rfl hn hls rfl (lv_room hcat) hdg ⟨hcs.1, hcs.2⟩) I.2.2.1 (fun q _ h => midF I.2.1 I.2.2.1 I.2.2.2 q h) (midF I.2.1 I.2.2.1 I.2.2.2) (fun r1 u t H1 locs1 ht hvm hw hB hz1 hk1 hS => ?_)
  obtain ⟨hP1, -, hD1⟩ := hB
  rw [ht] at hP1
  subst hw
  exact kk H1 locs1 (I.back hk1 hP1 hD1 hS)
theorem call_v (XX : Cx G A p s m meth c cc nL own args) (I : Iv G A s H locs (X ++ (wc ++ Y))) (hls : ls.size = nL) (hc : HV l G y (Cond.code y bytes maxL ret :: gT) rm (.ref b :: As) wc w1) (k : KV own idx C y bytes maxL ret n) (hrc : Rc s H C b) (hn : As.length = n) (hst : st0 = As.reverse ++ .ref b :: rest) (hcat : (rest.map fun v => v.category).sum ≤ 8)
    (hR : rm.cells = 0 ∧ rm.slots = 0 ∧ rm.frames + 1 ≤ R.frames ∧ 8 + (maxL + 11) + rm.locals ≤ R.locals) (hcs : cells ≤ R.cells ∧ slots ≤ R.slots) (hdg : decode cc pc = .ok (.invokevirtual idx, 3))
    (kk : ∀ (H1 : Heap) (locs1 : List Loc), Iv G A s H1 locs1 (X ++ (w1 ++ Y)) → W p l e R s m args below meth c H1 locs1 cells slots Q (F0 m (pc + 3) ls rest)) : W p l e R s m args below meth c H locs cells slots Q (F0 m pc ls st0) := by
  subst hst
  refine va_callv (va_runV (As := As) (rest := rest) XX.fix (hc H.size) (cwV n XX.t k.1 rfl hR.1 hR.2.1 k.2 hR.2.2) ⟨blind0 XX.ok, hrc, fun U hU hW => ⟨rfl, by rw [hU], by rw [hU]; exact midP I.1, va_K.moved hW.alike XX.K, (midD I.2.1).weaken (fun _ _ _ _ => trivial), XX.Ec I hU hW⟩⟩ rfl hn hls rfl (lv_room hcat) hdg ⟨hcs.1, hcs.2⟩) I.2.2.1 (fun q _ h => midF I.2.1 I.2.2.1 I.2.2.2 q h) (midF I.2.1 I.2.2.1 I.2.2.2) (fun u t H1 locs1 ht hvm hw hB hz1 hk1 hS => ?_)
  obtain ⟨hP1, -, hD1⟩ := hB
  rw [ht] at hP1
  exact kk H1 locs1 (I.back hk1 hP1 hD1 hS)
/-- a static function of numbers alone -/
theorem scall_i {r : Int32} (XX : Cx G A p s m meth c cc nL own args) (I : Iv G A s H locs w) (hls : ls.size = nL) (hc : HI l G y (Cond.code y bytes maxL ret :: gT) rm ty As [] r []) (k : KS own idx y bytes maxL ret n) (hn : As.length = n) (hst : st0 = As.reverse ++ rest) (hcat : (rest.map fun v => v.category).sum ≤ 8)
    (hR : rm.cells = 0 ∧ rm.slots = 0 ∧ rm.frames + 1 ≤ R.frames ∧ 8 + (maxL + 11) + rm.locals ≤ R.locals) (hcs : cells ≤ R.cells ∧ slots ≤ R.slots) (hdg : decode cc pc = .ok (.invokestatic idx, 3))
    (kk : ∀ (H1 : Heap) (locs1 : List Loc), narrow ty (.int r) = .int r → Iv G A s H1 locs1 w → W p l e R s m args below meth c H1 locs1 cells slots Q (F0 m (pc + 3) ls (.int r :: rest))) : W p l e R s m args below meth c H locs cells slots Q (F0 m pc ls st0) := by
  subst hst
  have I2 := I.none
  refine va_calli (va_runS (As := As) (rest := rest) XX.fix (hc H.size) (va_cwS n XX.t k.1 rfl hR.1 hR.2.1 k.2 hR.2.2) ⟨blind0 XX.ok, fun U hU hW => ⟨rfl, by rw [hU], by rw [hU]; exact midP I2.1, va_K.moved hW.alike XX.K, (midD I2.2.1).weaken (fun _ _ _ _ => trivial), XX.Ec I2 hU hW⟩⟩ rfl hn hls rfl (lv_room hcat) hdg ⟨hcs.1, hcs.2⟩) I.2.2.1 (fun q _ h => midF I2.2.1 I.2.2.1 I.2.2.2 q h) (midF I2.2.1 I.2.2.1 I.2.2.2) (fun r1 u t H1 locs1 ht hvm hw hB hz1 hk1 hS => ?_)
  obtain ⟨hP1, -, hD1⟩ := hB
  rw [ht] at hP1
  obtain ⟨rfl, hz⟩ := hw
  exact kk H1 locs1 hz (I2.back hk1 hP1 hD1 hS)
theorem scall_l {r : Int64} (XX : Cx G A p s m meth c cc nL own args) (I : Iv G A s H locs w) (hls : ls.size = nL) (hc : HL l G y (Cond.code y bytes maxL ret :: gT) rm As [] r []) (k : KS own idx y bytes maxL ret n) (hn : As.length = n) (hst : st0 = As.reverse ++ rest) (hcat : (rest.map fun v => v.category).sum ≤ 8)
    (hR : rm.cells = 0 ∧ rm.slots = 0 ∧ rm.frames + 1 ≤ R.frames ∧ 8 + (maxL + 11) + rm.locals ≤ R.locals) (hcs : cells ≤ R.cells ∧ slots ≤ R.slots) (hdg : decode cc pc = .ok (.invokestatic idx, 3))
    (kk : ∀ (H1 : Heap) (locs1 : List Loc), Iv G A s H1 locs1 w → W p l e R s m args below meth c H1 locs1 cells slots Q (F0 m (pc + 3) ls (.long r :: rest))) : W p l e R s m args below meth c H locs cells slots Q (F0 m pc ls st0) := by
  subst hst
  have I2 := I.none
  refine va_calll (va_runS (As := As) (rest := rest) XX.fix (hc H.size) (va_cwS n XX.t k.1 rfl hR.1 hR.2.1 k.2 hR.2.2) ⟨blind0 XX.ok, fun U hU hW => ⟨rfl, by rw [hU], by rw [hU]; exact midP I2.1, va_K.moved hW.alike XX.K, (midD I2.2.1).weaken (fun _ _ _ _ => trivial), XX.Ec I2 hU hW⟩⟩ rfl hn hls rfl (lv_room hcat) hdg ⟨hcs.1, hcs.2⟩) I.2.2.1 (fun q _ h => midF I2.2.1 I.2.2.1 I.2.2.2 q h) (midF I2.2.1 I.2.2.1 I.2.2.2) (fun r1 u t H1 locs1 ht hvm hw hB hz1 hk1 hS => ?_)
  obtain ⟨hP1, -, hD1⟩ := hB
  rw [ht] at hP1
  subst hw
  exact kk H1 locs1 (I2.back hk1 hP1 hD1 hS)
theorem wcall_i {r : Int32} (XX : Cx G A p s m meth c cc nL own args) (I : Iv G A s H locs wc) (hls : ls.size = nL) (hc : HI l G y (Cond.code y bytes maxL ret :: gT) rm ty (.ref b :: As) wc r w1) (k : KV own idx C y bytes maxL ret n) (hrc : Rc s H C b) (hn : As.length = n) (hst : st0 = As.reverse ++ .ref b :: rest) (hcat : (rest.map fun v => v.category).sum ≤ 8)
    (hR : rm.cells = 0 ∧ rm.slots = 0 ∧ rm.frames + 1 ≤ R.frames ∧ 8 + (maxL + 11) + rm.locals ≤ R.locals) (hcs : cells ≤ R.cells ∧ slots ≤ R.slots) (hdg : decode cc pc = .ok (.invokevirtual idx, 3))
    (kk : ∀ (H1 : Heap) (locs1 : List Loc), narrow ty (.int r) = .int r → Iv G A s H1 locs1 w1 → W p l e R s m args below meth c H1 locs1 cells slots Q (F0 m (pc + 3) ls (.int r :: rest))) : W p l e R s m args below meth c H locs cells slots Q (F0 m pc ls st0) :=
  call_i XX I.whole hls hc k hrc hn hst hcat hR hcs hdg (fun H1 locs1 hz I1 => kk H1 locs1 hz I1.unw)
theorem wcall_l {r : Int64} (XX : Cx G A p s m meth c cc nL own args) (I : Iv G A s H locs wc) (hls : ls.size = nL) (hc : HL l G y (Cond.code y bytes maxL ret :: gT) rm (.ref b :: As) wc r w1) (k : KV own idx C y bytes maxL ret n) (hrc : Rc s H C b) (hn : As.length = n) (hst : st0 = As.reverse ++ .ref b :: rest) (hcat : (rest.map fun v => v.category).sum ≤ 8)
    (hR : rm.cells = 0 ∧ rm.slots = 0 ∧ rm.frames + 1 ≤ R.frames ∧ 8 + (maxL + 11) + rm.locals ≤ R.locals) (hcs : cells ≤ R.cells ∧ slots ≤ R.slots) (hdg : decode cc pc = .ok (.invokevirtual idx, 3))
    (kk : ∀ (H1 : Heap) (locs1 : List Loc), Iv G A s H1 locs1 w1 → W p l e R s m args below meth c H1 locs1 cells slots Q (F0 m (pc + 3) ls (.long r :: rest))) : W p l e R s m args below meth c H locs cells slots Q (F0 m pc ls st0) :=
  call_l XX I.whole hls hc k hrc hn hst hcat hR hcs hdg (fun H1 locs1 I1 => kk H1 locs1 I1.unw)
theorem wcall_v (XX : Cx G A p s m meth c cc nL own args) (I : Iv G A s H locs wc) (hls : ls.size = nL) (hc : HV l G y (Cond.code y bytes maxL ret :: gT) rm (.ref b :: As) wc w1) (k : KV own idx C y bytes maxL ret n) (hrc : Rc s H C b) (hn : As.length = n) (hst : st0 = As.reverse ++ .ref b :: rest) (hcat : (rest.map fun v => v.category).sum ≤ 8)
    (hR : rm.cells = 0 ∧ rm.slots = 0 ∧ rm.frames + 1 ≤ R.frames ∧ 8 + (maxL + 11) + rm.locals ≤ R.locals) (hcs : cells ≤ R.cells ∧ slots ≤ R.slots) (hdg : decode cc pc = .ok (.invokevirtual idx, 3))
    (kk : ∀ (H1 : Heap) (locs1 : List Loc), Iv G A s H1 locs1 w1 → W p l e R s m args below meth c H1 locs1 cells slots Q (F0 m (pc + 3) ls rest)) : W p l e R s m args below meth c H locs cells slots Q (F0 m pc ls st0) :=
  call_v XX I.whole hls hc k hrc hn hst hcat hR hcs hdg (fun H1 locs1 I1 => kk H1 locs1 I1.unw)
end Calls
/-- stores: the new cells are told -/
theorem r_iast (XX : Cx G A p s m meth c cc nL own args) (I : Iv G A s H locs w) (q0 : Nat) {a : Addr} {n : Nat} {f : Nat → Int32} (ha : w[q0]? = some (a, .inl (G.2.1 0, n, .inl f))) {i x : Int32} (heq : w.set q0 (a, .inl (G.2.1 0, n, .inl (upd f i.toNatClampNeg x))) = w1) (hin : vp_in i n) (hdg : decode cc pc = .ok (.iastore, 1))
    (kk : ∀ (H1 : Heap) (locs1 : List Loc), Iv G A s H1 locs1 w1 → W p l e R s m args below meth c H1 locs1 cells slots Q (F0 m (pc + 1) ls rest)) : W p l e R s m args below meth c H locs cells slots Q (F0 m pc ls (.int x :: .int i :: .ref a :: rest)) := by
  subst heq
  exact va_iast XX.x XX.b XX.K I.1 I.2.1 I.2.2.1 q0 0 ha rfl hin hdg (fun H1 locs1 h1 h2 h3 => kk H1 locs1 ⟨h1, h2, h3, I.2.2.2⟩)
theorem r_last (XX : Cx G A p s m meth c cc nL own args) (I : Iv G A s H locs w) (q0 : Nat) {a : Addr} {n : Nat} {f : Nat → Int64} (ha : w[q0]? = some (a, .inl (G.2.1 1, n, .inr (.inl f)))) {i : Int32} {x : Int64} (heq : w.set q0 (a, .inl (G.2.1 1, n, .inr (.inl (vp_updL f i.toNatClampNeg x)))) = w1) (hin : vp_in i n) (hdg : decode cc pc = .ok (.lastore, 1))
    (kk : ∀ (H1 : Heap) (locs1 : List Loc), Iv G A s H1 locs1 w1 → W p l e R s m args below meth c H1 locs1 cells slots Q (F0 m (pc + 1) ls rest)) : W p l e R s m args below meth c H locs cells slots Q (F0 m pc ls (.long x :: .int i :: .ref a :: rest)) := by
  subst heq
  exact va_last XX.x XX.b XX.K I.1 I.2.1 I.2.2.1 q0 1 ha rfl hin hdg (fun H1 locs1 h1 h2 h3 => kk H1 locs1 ⟨h1, h2, h3, I.2.2.2⟩)
theorem r_iald (XX : Cx G A p s m meth c cc nL own args) (I : Iv G A s H locs w) (q0 : Nat) {a : Addr} {n : Nat} {f : Nat → Int32} (ha : w[q0]? = some (a, .inl (G.2.1 0, n, .inl f))) {i : Int32} (hin : vp_in i n) (hdg : decode cc pc = .ok (.iaload, 1))
    (kk : W p l e R s m args below meth c H locs cells slots Q (F0 m (pc + 1) ls (.int (f i.toNatClampNeg) :: rest))) : W p l e R s m args below meth c H locs cells slots Q (F0 m pc ls (.int i :: .ref a :: rest)) :=
  va_iald XX.x XX.b XX.K I.1 q0 0 ha rfl hin hdg kk
theorem r_lald (XX : Cx G A p s m meth c cc nL own args) (I : Iv G A s H locs w) (q0 : Nat) {a : Addr} {n : Nat} {f : Nat → Int64} (ha : w[q0]? = some (a, .inl (G.2.1 1, n, .inr (.inl f)))) {i : Int32} (hin : vp_in i n) (hdg : decode cc pc = .ok (.laload, 1))
    (kk : W p l e R s m args below meth c H locs cells slots Q (F0 m (pc + 1) ls (.long (f i.toNatClampNeg) :: rest))) : W p l e R s m args below meth c H locs cells slots Q (F0 m pc ls (.int i :: .ref a :: rest)) :=
  va_lald XX.x XX.b XX.K I.1 q0 1 ha rfl hin hdg kk
/-- fields; what a class and a field of it say once for all -/
def KF (C : String) (T : u_T) (N ci : Nat) (ty0 : Nat → FieldType) : Prop := (∀ w ∈ u_ws C T N, w ∈ gT) ∧ vwCl[ci]? = some (C, T, N) ∧ (∀ k, k < N → parseFieldDescriptor (T k).2.2.1 = some (ty0 k)) ∧ (∀ a, a < N → ∀ b, b < N → a ≠ b → (T a).2.1 ≠ (T b).2.1)
theorem r_get {C : String} {T : u_T} {N ci index : Nat} {ty0 : Nat → FieldType} (F : KF C T N ci ty0) (XX : Cx G A p s m meth c cc nL own args) (I : Iv G A s H locs w) (q0 : Nat) {a : Addr} {fs : List Value} (he : w[q0]? = some (a, .inr (ci, fs))) (k : Nat) (hk : k < N) (hlink : Cond.fieldLink own index (T k).1 (T k).2.1 (T k).2.2.1 ∈ gT) {v : Value} (hv : fs[k]? = some v) (hdg : decode cc pc = .ok (.getfield index, 3))
    (kk : W p l e R s m args below meth c H locs cells slots Q (F0 m (pc + 3) ls (v :: rest))) : W p l e R s m args below meth c H locs cells slots Q (F0 m pc ls (.ref a :: rest)) :=
  va_get (T := T) (N := N) (ci := ci) XX.x XX.b XX.t F.1 XX.o XX.K I.1 q0 he F.2.1 k hk (XX.t _ hlink) (fun _ h => h) hv hdg kk
theorem r_put {C : String} {T : u_T} {N ci index : Nat} {ty0 : Nat → FieldType} (F : KF C T N ci ty0) (XX : Cx G A p s m meth c cc nL own args) (I : Iv G A s H locs w) (q0 : Nat) {a : Addr} {fs : List Value} (he : w[q0]? = some (a, .inr (ci, fs))) (k : Nat) (hk : k < N) (hlink : Cond.fieldLink own index (T k).1 (T k).2.1 (T k).2.2.1 ∈ gT) (hfin : (T k).2.2.2 = false) {v : Value} (hn : narrow (ty0 k) v = v) (hfit : fits (ty0 k) v = true) (hl : k < fs.length) (heq : w.set q0 (a, .inr (ci, fs.set k v)) = w1) (hdg : decode cc pc = .ok (.putfield index, 3))
    (kk : ∀ (H1 : Heap) (locs1 : List Loc), Iv G A s H1 locs1 w1 → W p l e R s m args below meth c H1 locs1 cells slots Q (F0 m (pc + 3) ls rest)) : W p l e R s m args below meth c H locs cells slots Q (F0 m pc ls (v :: .ref a :: rest)) := by
  subst heq
  exact va_put (T := T) (N := N) (ci := ci) XX.x XX.b XX.t F.1 ty0 F.2.2.1 F.2.2.2 XX.o XX.K I.1 I.2.1 I.2.2.1 q0 he F.2.1 k hk (XX.t _ hlink) (fun _ h => h) hfin (F.2.2.1 k hk) hn hfit hl hdg (fun H1 locs1 h1 h2 h3 => kk H1 locs1 ⟨h1, h2, h3, I.2.2.2⟩)
end K4
