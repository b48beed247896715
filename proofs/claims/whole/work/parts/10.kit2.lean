/-! More rows of my own: cells in another order, arrays of arrays, copies, Math. -/
theorem vin_lt {i : Int32} {n : Nat} (h : vp_in i n) : i.toNatClampNeg < n := Nat.not_le.mp fun q => h (Or.inr q)
theorem pasc2 {a b c : va_W} : List.Perm (a ++ (b ++ c)) ((a ++ (b ++ [])) ++ c) := by simp
theorem pasc3 {a b c d : va_W} : List.Perm (a ++ (b ++ (c ++ d))) ((a ++ (b ++ (c ++ []))) ++ d) := by simp
def cp_ok (sp dp n : Int32) (n0 n1 : Nat) : Prop := ¬ sp < 0 ∧ ¬ dp < 0 ∧ ¬ n < 0 ∧ sp.toNatClampNeg + n.toNatClampNeg ≤ n0 ∧ dp.toNatClampNeg + n.toNatClampNeg ≤ n1
def bd4 {α β δ ε γ : Type} (m : Option (α × β × δ × ε)) (k : α → β → δ → ε → Option γ) : Option γ := match m with
  | none => none
  | some x => k x.1 x.2.1 x.2.2.1 x.2.2.2
theorem bd4_some {α β δ ε γ : Type} {m : Option (α × β × δ × ε)} {k : α → β → δ → ε → Option γ} {r : γ} (h : bd4 m k = some r) : ∃ x y z u, m = some (x, y, z, u) ∧ k x y z u = some r := by
  cases m with
  | none => cases h
  | some x => exact ⟨x.1, x.2.1, x.2.2.1, x.2.2.2, rfl, h⟩
section K10
variable {p : Program} {l : Launch} {e : Env} {R : Room} {s : State} {m : MethodId} {args : Array Value} {below : List Frame} {meth : Method} {c : Code} {H : Heap} {locs : List Loc} {cells slots : Nat} {Q : State → Prop}
variable {cc : ByteArray} {nL pc : Nat} {ls : Array Slot} {rest st0 : List Value} {G : g_G} {A : Nat → Prop} {own : String} {w w1 wc X Y : va_W}
theorem nd_of {A : Nat → Prop} {w : va_W} (h : va_D A w) : (w.map Prod.fst).Nodup := by
  rw [List.nodup_iff_pairwise_ne, List.pairwise_iff_getElem]
  intro i j hi hj hij hne
  have hi2 : i < w.length := by simpa using hi
  have hj2 : j < w.length := by simpa using hj
  have := h.1 i j w[i] w[j] (List.getElem?_eq_getElem hi2) (List.getElem?_eq_getElem hj2) (by simpa using hne)
  omega
theorem Iv.perm {w' : va_W} (I : Iv G A s H locs w) (h : List.Perm w w') : Iv G A s H locs w' := by
  obtain ⟨hP, hD, hS, hA⟩ := I
  refine ⟨?_, ⟨?_, ?_⟩, hS, hA⟩
  · intro k q hk
    obtain ⟨j, hj⟩ := List.getElem?_of_mem (h.mem_iff.mpr (List.mem_of_getElem? hk))
    exact hP j q hj
  · have hn : (w'.map Prod.fst).Nodup := ((h.map Prod.fst).nodup_iff).mp (nd_of hD)
    rw [List.nodup_iff_pairwise_ne, List.pairwise_iff_getElem] at hn
    intro i j a b hi hj hab
    obtain ⟨li, ei⟩ := List.getElem?_eq_some_iff.mp hi
    obtain ⟨lj, ej⟩ := List.getElem?_eq_some_iff.mp hj
    rcases Nat.lt_trichotomy i j with q | q | q
    · exact (hn i j (by simpa using li) (by simpa using lj) q (by rw [List.getElem_map, List.getElem_map, ei, ej]; exact hab)).elim
    · exact q
    · exact (hn j i (by simpa using lj) (by simpa using li) q (by rw [List.getElem_map, List.getElem_map, ei, ej]; exact hab.symm)).elim
  · intro k q hk
    obtain ⟨j, hj⟩ := List.getElem?_of_mem (h.mem_iff.mpr (List.mem_of_getElem? hk))
    exact hD.2 j q hj
theorem r_aaldI (XX : Cx G A p s m meth c cc nL own args) (I : Iv G A s H locs w) (q0 : Nat) {a : Addr} {n : Nat} {f : Nat → Option Nat} (ha : w[q0]? = some (a, .inl (G.2.1 4, n, .inr (.inr (.inr (.inr f)))))) {i : Int32} {v : Value} (hv : va_rf (f i.toNatClampNeg) = v) (hin : vp_in i n) (hdg : decode cc pc = .ok (.aaload, 1))
    (kk : W p l e R s m args below meth c H locs cells slots Q (F0 m (pc + 1) ls (v :: rest))) : W p l e R s m args below meth c H locs cells slots Q (F0 m pc ls (.int i :: .ref a :: rest)) := by
  subst hv
  exact W.aald (v := va_rf (f i.toNatClampNeg)) (ty := .array .int) XX.x XX.b (I.1 q0 _ ha) ((XX.K.2 4 _ rfl).1 n (fun j => va_rf (f j))) rfl (fun q => by cases q) (by show ¬ (i < 0 ∨ (arrV _ _ _).slots.size ≤ _); rw [arrV_size]; exact hin) (by show (arrV _ _ _).slots[_]? = _; rw [arrV_read _ _ (vin_lt hin)]) rfl rfl hdg kk
theorem r_aaldO (XX : Cx G A p s m meth c cc nL own args) (I : Iv G A s H locs w) (q0 t0 : Nat) {C : String} {cA : ClassId} (ht : (g_ty G.2.1)[t0]? = some (cA, .object C)) {a : Addr} {n : Nat} {f : Nat → Option Nat} (ha : w[q0]? = some (a, .inl (cA, n, .inr (.inr (.inr (.inr f)))))) {i : Int32} {v : Value} (hv : va_rf (f i.toNatClampNeg) = v) (hin : vp_in i n) (hdg : decode cc pc = .ok (.aaload, 1))
    (kk : W p l e R s m args below meth c H locs cells slots Q (F0 m (pc + 1) ls (v :: rest))) : W p l e R s m args below meth c H locs cells slots Q (F0 m pc ls (.int i :: .ref a :: rest)) := by
  subst hv
  exact va_aldq XX.x XX.b XX.K I.1 q0 t0 ha ht hin hdg kk
theorem r_alen (XX : Cx G A p s m meth c cc nL own args) (I : Iv G A s H locs w) (q0 t0 : Nat) {cA : ClassId} {ty : FieldType} (ht : (g_ty G.2.1)[t0]? = some (cA, ty)) {a : Addr} {x : vp_A} (ha : w[q0]? = some (a, .inl (cA, x))) {v : Int32} (hv : Int32.ofNat x.1 = v) (hdg : decode cc pc = .ok (.arraylength, 1))
    (kk : W p l e R s m args below meth c H locs cells slots Q (F0 m (pc + 1) ls (.int v :: rest))) : W p l e R s m args below meth c H locs cells slots Q (F0 m pc ls (.ref a :: rest)) :=
  va_alen XX.x XX.b XX.K I.1 q0 t0 ha ht hv hdg kk
theorem r_copy {index : Nat} (XX : Cx G A p s m meth c cc nL own args) (I : Iv G A s H locs w) (hls : ls.size = nL) (hlink : Cond.methodLink own index arraycopyName ∈ gT) (q0 q1 : Nat) {a0 a : Addr} {n0 n1 : Nat} {f g : Nat → Int32} (ha0 : w[q0]? = some (a0, .inl (G.2.1 0, n0, .inl f))) (ha1 : w[q1]? = some (a, .inl (G.2.1 0, n1, .inl g))) {sp dp n : Int32} (hok : cp_ok sp dp n n0 n1)
    (heq : w.set q1 (a, .inl (G.2.1 0, n1, .inl (va_cpy f g sp.toNatClampNeg dp.toNatClampNeg n.toNatClampNeg))) = w1) (hframes : 1 ≤ R.frames) (hlocals : (rest.map fun v => v.category).sum + (nativeFrameWords "java/lang/System" "arraycopy" 5 + 11) ≤ R.locals) (hdg : decode cc pc = .ok (.invokestatic index, 3))
    (kk : ∀ (H1 : Heap) (locs1 : List Loc), Iv G A s H1 locs1 w1 → W p l e R s m args below meth c H1 locs1 cells slots Q (F0 m (pc + 3) ls rest)) : W p l e R s m args below meth c H locs cells slots Q (F0 m pc ls (.int n :: .int dp :: .ref a :: .int sp :: .ref a0 :: rest)) := by
  subst heq
  exact va_copyi XX.x XX.b (by rw [XX.ml, hls]) XX.o (XX.t _ hlink) (XX.t _ (wd_357)) (XX.t _ (wd_356)) (XX.t _ (wd_15)) XX.K I.1 I.2.1 I.2.2.1 q0 q1 0 0 ha0 ha1 rfl rfl rfl hok.1 hok.2.1 hok.2.2.1 hok.2.2.2.1 hok.2.2.2.2 (fun _ _ => rfl) hframes hlocals hdg (fun H1 locs1 h1 h2 h3 => kk H1 locs1 ⟨h1, h2, h3, I.2.2.2⟩)
theorem r_max {index : Nat} (XX : Cx G A p s m meth c cc nL own args) (hls : ls.size = nL) (hlink : Cond.methodLink own index Lib.Math.max.name ∈ gT) (hframes : 1 ≤ R.frames) (hlocals : (rest.map fun v => v.category).sum + 13 ≤ R.locals) (hc : cells ≤ R.cells) (hs : slots ≤ R.slots) {x y : Int32} (hdg : decode cc pc = .ok (.invokestatic index, 3))
    (kk : W p l e R s m args below meth c H locs cells slots Q (F0 m (pc + 3) ls (.int (if x < y then y else x) :: rest))) : W p l e R s m args below meth c H locs cells slots Q (F0 m pc ls (.int y :: .int x :: rest)) :=
  va_mmax XX.x XX.b (by rw [XX.ml, hls]) XX.o (XX.t _ hlink) (XX.t _ wd_353) (XX.t _ wd_14) (XX.t _ wd_354) hframes hlocals hc hs hdg kk
theorem r_min {index : Nat} (XX : Cx G A p s m meth c cc nL own args) (hls : ls.size = nL) (hlink : Cond.methodLink own index Lib.Math.min.name ∈ gT) (hframes : 1 ≤ R.frames) (hlocals : (rest.map fun v => v.category).sum + 13 ≤ R.locals) (hc : cells ≤ R.cells) (hs : slots ≤ R.slots) {x y : Int32} (hdg : decode cc pc = .ok (.invokestatic index, 3))
    (kk : W p l e R s m args below meth c H locs cells slots Q (F0 m (pc + 3) ls (.int (if y < x then y else x) :: rest))) : W p l e R s m args below meth c H locs cells slots Q (F0 m pc ls (.int y :: .int x :: rest)) :=
  va_mmin XX.x XX.b (by rw [XX.ml, hls]) XX.o (XX.t _ hlink) (XX.t _ wd_350) (XX.t _ wd_14) (XX.t _ wd_351) hframes hlocals hc hs hdg kk
theorem r_maxL {index : Nat} (XX : Cx G A p s m meth c cc nL own args) (hls : ls.size = nL) (hlink : Cond.methodLink own index Lib.MathLoose.max_long.x ∈ gT) (hframes : 1 ≤ R.frames) (hlocals : (rest.map fun v => v.category).sum + 15 ≤ R.locals) (hc : cells ≤ R.cells) (hs : slots ≤ R.slots) {x y : Int64} (hdg : decode cc pc = .ok (.invokestatic index, 3))
    (kk : W p l e R s m args below meth c H locs cells slots Q (F0 m (pc + 3) ls (.long (if y < x then x else y) :: rest))) : W p l e R s m args below meth c H locs cells slots Q (F0 m pc ls (.long y :: .long x :: rest)) :=
  va_mmax_long XX.x XX.b (by rw [XX.ml, hls]) XX.o (XX.t _ hlink) (XX.t _ wd_723) (XX.t _ wd_14) (XX.t _ wd_724) hframes hlocals hc hs hdg kk
theorem r_absL {index : Nat} (XX : Cx G A p s m meth c cc nL own args) (hls : ls.size = nL) (hlink : Cond.methodLink own index Lib.MathLoose.abs_long.x ∈ gT) (hframes : 1 ≤ R.frames) (hlocals : (rest.map fun v => v.category).sum + 13 ≤ R.locals) (hc : cells ≤ R.cells) (hs : slots ≤ R.slots) {x : Int64} (hdg : decode cc pc = .ok (.invokestatic index, 3))
    (kk : W p l e R s m args below meth c H locs cells slots Q (F0 m (pc + 3) ls (.long (if 0 < x then x else -x) :: rest))) : W p l e R s m args below meth c H locs cells slots Q (F0 m pc ls (.long x :: rest)) :=
  va_mabs_long XX.x XX.b (by rw [XX.ml, hls]) XX.o (XX.t _ hlink) (XX.t _ wd_690) (XX.t _ wd_14) (XX.t _ wd_691) hframes hlocals hc hs hdg kk
end K10
