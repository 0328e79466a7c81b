/-! CONSTRUCTORS: worlds that grow -/
def KQ (G : Gl) (U : State) : Prop := ∃ kA : Class, U.vm.classes[gQ G]? = some kA ∧ kA.kind = .array (gI G) (.array .int)
theorem KQ.moved {G : Gl} {u U : State} (hvm : u.vm.Alike U.vm) (h : KQ G u) : KQ G U := by
  obtain ⟨kA, h1, h2⟩ := h
  obtain ⟨k', hk', he⟩ := hvm.2.2 _ _ h1
  exact ⟨k', hk', by rw [he]; exact h2⟩
def NK (G : Gl) (U : State) : Prop := va_K G.1 classes (tysG G) U ∧ KQ G U ∧ va_AO "RoundRows$Round" U
theorem NK.moved {G : Gl} {u U : State} (hvm : u.vm.Alike U.vm) (h : NK G u) : NK G U := ⟨va_K.moved hvm h.1, h.2.1.moved hvm, va_AO.moved hvm h.2.2⟩
abbrev rmN (F Lo mc ms : Nat) : Room := { frames := F, cells := mc, slots := ms, locals := Lo }
def WN (X : Cx) (G : Gl) (A : Nat → Prop) (nL nc ns : Nat) (ws : va_W) (pc : Nat) (lv : List (Nat × Value)) (st : List Value) : Prop :=
  ∀ (H : Heap) (locs : List Loc) (ls : Array Slot), va_P G.1 classes ws H → va_D A ws → va_S A (xs X).heap H locs → lv_has ls nL lv → W (xp X) (xl X) (xe X) (xR X) (xs X) (xm X) (xa X) (xb X) (xh X) (xc X) H locs nc ns (xQ X) (F0 (xm X) pc ls st)
def OkN (X : Cx) (G : Gl) (A : Nat → Prop) (cc : ByteArray) (nL : Nat) (own : String) (F Lo mc ms : Nat) : Prop :=
  (xp X).tables.exec = Jvm.exec ∧ (xc X).code = cc ∧ (xc X).maxLocals = nL ∧ (xs X).vm.findClass own = some (xm X).cls ∧ (∀ w ∈ TT, w.before (xa X) (xs X) = true) ∧ NK G (xs X) ∧ (∀ q, (xs X).heap.size ≤ q → A q) ∧ xR X = rmN F Lo mc ms
def RtN (X : Cx) (G : Gl) (A : Nat → Prop) (mc ms : Nat) (wsf : (Nat → Nat) → va_W) : Prop := xQ X = MQ (xb X) (va_Qv (fun _ : Nat → Nat => True) (fun af t => va_P G.1 classes (wsf af) t.heap ∧ va_D A (wsf af)) A) (xa X) (xs X) mc ms A ∧ (xh X).sig.returnType = none ∧ (xh X).name = "<init>" ∧ (xh X).locks = false
def CtN (l : Launch) (G : Gl) (y : MethodName) (cb : ByteArray) (mL F Lo mc ms h0 : Nat) (e0 : va_E) (wsf : (Nat → Nat) → va_W) : Prop :=
  ∀ sz : Nat, Met l y (.code y cb mL none :: TT) (rmN F Lo mc ms) (va_Pc [.ref h0] (fun U => U.heap.size = sz ∧ va_P G.1 classes [(h0, e0)] U.heap ∧ NK G U)) (va_Qv (fun _ : Nat → Nat => True) (fun af t => va_P G.1 classes (wsf af) t.heap ∧ va_D (va_A [(h0, e0)] sz) (wsf af)) (va_A [(h0, e0)] sz)) mc ms (va_A [(h0, e0)] sz)
theorem D_one {A : Nat → Prop} {h0 : Nat} {e0 : va_E} (h : A h0) : va_D A [(h0, e0)] := by
  have key : ∀ (k : Nat) (q : Nat × va_E), [(h0, e0)][k]? = some q → k = 0 ∧ q = (h0, e0) := fun k q hq => by
    cases k with
    | zero => cases hq; exact ⟨rfl, rfl⟩
    | succ k => simp at hq
  exact ⟨fun i j x y hi hj _ => by rw [(key i x hi).1, (key j y hj).1], fun k q hq => by rw [(key k q hq).2]; exact h⟩
theorem CtN.of {l : Launch} {G : Gl} {y : MethodName} {cb : ByteArray} {mL F Lo mc ms h0 : Nat} {e0 : va_E} {wsf : (Nat → Nat) → va_W} (hy : plainName y.cls = true) (hm : 1 ≤ mL)
    (body : ∀ (X : Cx) (A : Nat → Prop), OkN X G A cb mL y.cls F Lo mc ms → RtN X G A mc ms wsf → WN X G A mL 0 0 [(h0, e0)] 0 [(0, .ref h0)] []) (hyn : y.name = "<init>") : CtN l G y cb mL F Lo mc ms h0 e0 wsf := by
  intro sz
  refine Met.ofW (cc := cb) (maxL := mL) (ret := none) hy rfl ?_
  intro p e s m args below meth c s₁ B hml hv
  obtain ⟨rfl, hsz, hP, hK⟩ := hv
  subst hsz
  have hts := atoms_spec (ws := Cond.code y cb mL none :: TT) B.pre
  have hl := lv_entry [.ref h0] (n := mL) hm
  have hin : meth.name = "<init>" := by rw [← hyn]; exact (name_of_methodNamed B.named B.method).1
  rw [lg_entry_eq]
  exact body (p, l, e, rmN F Lo mc ms, s, m, [Value.ref h0].toArray, below, meth, c, _) (va_A [(h0, e0)] s.heap.size) ⟨B.exec, B.bytes, hml, findClass_of_methodNamed B.named, fun w h => hts w (List.mem_cons_of_mem _ h), hK, fun q h => Or.inr h, rfl⟩ ⟨rfl, B.returns, hin, B.notSynchronized⟩ s.heap [] _ hP (D_one (Or.inl ⟨0, e0, rfl⟩)) va_S.rf hl
section NW
variable {X : Cx} {G : Gl} {A : Nat → Prop} {cc : ByteArray} {nL nc ns : Nat} {own : String} {F Lo mc ms : Nat} {ws : va_W} {pc : Nat} {lv : List (Nat × Value)} {st : List Value}
theorem n_aload (o : OkN X G A cc nL own F Lo mc ms) {k : Fin 4} {x : Nat} (d : decode cc pc = .ok (.aload_n k, 1)) (j : Nat) (hj : lv[j]? = some ((k : Nat), .ref x)) (kk : WN X G A nL nc ns ws (pc + 1) lv (.ref x :: st)) : WN X G A nL nc ns ws pc lv st := fun H locs ls hP hD hS h => lv_aload_n o.1 o.2.1 d rfl (lv_at h j hj) (kk H locs ls hP hD hS h)
theorem n_iload (o : OkN X G A cc nL own F Lo mc ms) {k : Fin 4} {x : Int32} (d : decode cc pc = .ok (.iload_n k, 1)) (j : Nat) (hj : lv[j]? = some ((k : Nat), .int x)) (kk : WN X G A nL nc ns ws (pc + 1) lv (.int x :: st)) : WN X G A nL nc ns ws pc lv st := fun H locs ls hP hD hS h => lv_iload_n o.1 o.2.1 d rfl (lv_at h j hj) (kk H locs ls hP hD hS h)
theorem n_iconst (o : OkN X G A cc nL own F Lo mc ms) {n : Int} {v : Int32} (d : decode cc pc = .ok (.iconst n, 1)) (hv : Int32.ofInt n = v) (k : WN X G A nL nc ns ws (pc + 1) lv (.int v :: st)) : WN X G A nL nc ns ws pc lv st := fun H locs ls hP hD hS h => lv_iconst o.1 o.2.1 d hv (k H locs ls hP hD hS h)
theorem n_bipush (o : OkN X G A cc nL own F Lo mc ms) {n : Int} {v : Int32} (d : decode cc pc = .ok (.bipush n, 2)) (hv : (Int8.ofInt n).toInt32 = v) (k : WN X G A nL nc ns ws (pc + 2) lv (.int v :: st)) : WN X G A nL nc ns ws pc lv st := fun H locs ls hP hD hS h => lv_bipush o.1 o.2.1 d hv (k H locs ls hP hD hS h)
theorem n_sipush (o : OkN X G A cc nL own F Lo mc ms) {n : Int} {v : Int32} (d : decode cc pc = .ok (.sipush n, 3)) (hv : (Int16.ofInt n).toInt32 = v) (k : WN X G A nL nc ns ws (pc + 3) lv (.int v :: st)) : WN X G A nL nc ns ws pc lv st := fun H locs ls hP hD hS h => lv_sipush o.1 o.2.1 d hv (k H locs ls hP hD hS h)
theorem n_lconst (o : OkN X G A cc nL own F Lo mc ms) {n : Fin 2} {v : Int64} (d : decode cc pc = .ok (.lconst n, 1)) (hv : Int64.ofNat (n : Nat) = v) (k : WN X G A nL nc ns ws (pc + 1) lv (.long v :: st)) : WN X G A nL nc ns ws pc lv st := fun H locs ls hP hD hS h => lv_lconst o.1 o.2.1 d hv (k H locs ls hP hD hS h)
theorem n_dup (o : OkN X G A cc nL own F Lo mc ms) {va : Value} (d : decode cc pc = .ok (.dup, 1)) (hva : va.category = 1) (k : WN X G A nL nc ns ws (pc + 1) lv (va :: va :: st)) : WN X G A nL nc ns ws pc lv (va :: st) := fun H locs ls hP hD hS h => lv_dup o.1 o.2.1 d hva (k H locs ls hP hD hS h)
theorem n_istore (o : OkN X G A cc nL own F Lo mc ms) {k : Fin 4} {x : Int32} {lv' : List (Nat × Value)} (d : decode cc pc = .ok (.istore_n k, 1)) (hn : (k : Nat) < nL) (hl : ((k : Nat), Value.int x) :: lv.filter (fun q => !(q.1 == (k : Nat)) && !(q.1 + 1 == (k : Nat) && q.2.category == 2)) = lv') (kk : WN X G A nL nc ns ws (pc + 1) lv' st) : WN X G A nL nc ns ws pc lv (.int x :: st) := fun H locs ls hP hD hS h => lv_istore_n o.1 o.2.1 d rfl h hn hl (fun ls' h' => kk H locs ls' hP hD hS h')
theorem n_iinc (o : OkN X G A cc nL own F Lo mc ms) {i : Nat} {n : Int} {x v : Int32} {lv' : List (Nat × Value)} (d : decode cc pc = .ok (.iinc i n, 3)) (j : Nat) (hj : lv[j]? = some (i, .int x)) (hv : x + Int32.ofInt n = v) (hn : i < nL) (hl : (i, Value.int v) :: lv.filter (fun q => !(q.1 == i) && !(q.1 + 1 == i && q.2.category == 2)) = lv') (kk : WN X G A nL nc ns ws (pc + 3) lv' st) : WN X G A nL nc ns ws pc lv st := fun H locs ls hP hD hS h => lv_iinc o.1 o.2.1 d h hj hv hn hl (fun ls' h' => kk H locs ls' hP hD hS h')
theorem n_goto (o : OkN X G A cc nL own F Lo mc ms) {off : Int} {tgt : Nat} (d : decode cc pc = .ok (.goto off, 3)) (ht : (pc : Int) + off = (tgt : Int)) (k : WN X G A nL nc ns ws tgt lv st) : WN X G A nL nc ns ws pc lv st := fun H locs ls hP hD hS h => lv_goto o.1 o.2.1 d ht (k H locs ls hP hD hS h)
theorem n_icmp_gt (o : OkN X G A cc nL own F Lo mc ms) {x y : Int32} {off : Int} {tgt : Nat} (d : decode cc pc = .ok (.if_icmp .gt off, 3)) (ht : (pc : Int) + off = (tgt : Int)) (kt : y < x → WN X G A nL nc ns ws tgt lv st) (kf : ¬ y < x → WN X G A nL nc ns ws (pc + 3) lv st) : WN X G A nL nc ns ws pc lv (.int y :: .int x :: st) := fun H locs ls hP hD hS h => lv_icmp_gt o.1 o.2.1 d ht (fun z => kt z H locs ls hP hD hS h) (fun z => kf z H locs ls hP hD hS h)
theorem n_icmp_ge (o : OkN X G A cc nL own F Lo mc ms) {x y : Int32} {off : Int} {tgt : Nat} (d : decode cc pc = .ok (.if_icmp .ge off, 3)) (ht : (pc : Int) + off = (tgt : Int)) (kt : y ≤ x → WN X G A nL nc ns ws tgt lv st) (kf : ¬ y ≤ x → WN X G A nL nc ns ws (pc + 3) lv st) : WN X G A nL nc ns ws pc lv (.int y :: .int x :: st) := fun H locs ls hP hD hS h => lv_icmp_ge o.1 o.2.1 d ht (fun z => kt z H locs ls hP hD hS h) (fun z => kf z H locs ls hP hD hS h)
theorem n_ldc (o : OkN X G A cc nL own F Lo mc ms) {index : Nat} {v : Int32} (hw : Cond.constant own index v ∈ TT) (d : decode cc pc = .ok (.ldc index, 2)) (k : WN X G A nL nc ns ws (pc + 2) lv (.int v :: st)) : WN X G A nL nc ns ws pc lv st := fun H locs ls hP hD hS h => W.ldc (g := F0 (xm X) pc ls st) o.1 o.2.1 o.2.2.2.1 (o.2.2.2.2.1 _ hw) rfl d (k H locs ls hP hD hS h)
theorem n_sub {ws' : va_W} (is : List Nat) (h1 : is.filterMap (fun i => ws[i]?) = ws') (h2 : va_nd is = true) (h3 : is.map (fun i => ws[i]?) = ws'.map some) (k : WN X G A nL nc ns ws' pc lv st) : WN X G A nL nc ns ws pc lv st := fun H locs ls hP hD hS h => k H locs ls (hP.sub is h1) (hD.sub is h2 h3) hS h
theorem n_obj (o : OkN X G A cc nL own F Lo mc ms) {idx a : Nat} (hl : Cond.methodLink own idx Lib.objectInit ∈ TT) (hi : Cond.instanceMethod Lib.objectInit ∈ TT) (hc : Cond.code Lib.objectInit ⟨#[0xb1]⟩ 1 none ∈ TT) (d : decode cc pc = .ok (.invokespecial idx, 3)) (hF : 1 ≤ F) (hL : (st.map fun v => v.category).sum + 12 ≤ Lo) (k : WN X G A nL nc ns ws (pc + 3) lv st) : WN X G A nL nc ns ws pc lv (.ref a :: st) := fun H locs ls hP hD hS h => by
  refine W.objInit o.1 o.2.1 o.2.2.2.1 (o.2.2.2.2.1 _ hl) (o.2.2.2.2.1 _ hi) (o.2.2.2.2.1 _ hc) rfl (by rw [o.2.2.1]; exact h.1) rfl d (by rw [o.2.2.2.2.2.2.2]; exact hF) (by rw [o.2.2.2.2.2.2.2]; show 2 * 0 + _ + 12 ≤ Lo; omega) ?_
  exact k H locs ls hP hD hS h
theorem n_new (o : OkN X G A cc nL own F Lo mc ms) {C : String} {T : u_T} {N ci index : Nat} (hin : ∀ w ∈ u_ws C T N, w ∈ TT) (ty : Nat → FieldType) (hty : ∀ k, k < N → parseFieldDescriptor (T k).2.2.1 = some (ty k)) (hcl : Cond.classLink own index C ∈ TT) (hinst : Cond.instantiable C N ∈ TT) (hini : Cond.initialized C ∈ TT) (hc : classes[ci]? = some (C, T, N)) {fs : List Value} (hfs : ∀ j, j < N → defaultValue (ty j) = vp_V fs j) (h1 : nc + 1 ≤ mc) (h2 : ns + N ≤ ms) (d : decode cc pc = .ok (.new index, 3)) (kk : ∀ q : Nat, WN X G A nL (nc + 1) (ns + N) (ws ++ [(q, .inr (ci, fs))]) (pc + 3) lv (.ref q :: st)) : WN X G A nL nc ns ws pc lv st := fun H locs ls hP hD hS h =>
  va_new o.1 o.2.1 o.2.2.2.2.1 hin ty hty o.2.2.2.1 (o.2.2.2.2.1 _ hcl) (o.2.2.2.2.1 _ hinst) (o.2.2.2.2.1 _ hini) o.2.2.2.2.2.1.1 hP hD hS o.2.2.2.2.2.2.1 hc hfs (by rw [o.2.2.2.2.2.2.2]; exact h1) (by rw [o.2.2.2.2.2.2.2]; exact h2) d (fun q H1 hP hD hS => kk q H1 locs ls hP hD hS h)
theorem n_newI (o : OkN X G A cc nL own F Lo mc ms) (N : Nat) {nz : Int32} (hz : nz = nI N) (hN : N < 1000) (ha : Cond.arrayClass .int ∈ TT) (h1 : nc + 1 ≤ mc) (h2 : ns + N ≤ ms) (d : decode cc pc = .ok (.newarray .int, 2)) (kk : ∀ q : Nat, WN X G A nL (nc + 1) (ns + N) (ws ++ [(q, .inl (gI G, N, .inl (fun _ => 0)))]) (pc + 2) lv (.ref q :: st)) : WN X G A nL nc ns ws pc lv (.int nz :: st) := fun H locs ls hP hD hS h => by
  subst hz
  refine va_newa (atype := .int) (ty := .int) (N' := N) (a0 := (N, .inl (fun _ => 0))) o.1 o.2.1 (o.2.2.2.2.1 _ ha) rfl o.2.2.2.2.2.1.1 hP hD hS o.2.2.2.2.2.2.1 (fun cA => rfl) (nI_pos (by omega)) (nI_clamp (by omega)) (by show N * 4 ≤ _; omega) (by rw [o.2.2.2.2.2.2.2]; exact h1) (by rw [o.2.2.2.2.2.2.2]; exact h2) d (fun q cA H1 hK' hP1 hD1 hS1 => ?_)
  have e1 : (xs X).vm.findClass ("[" ++ FieldType.int.toString) = some cA := (hK'.2 4 _ rfl).2
  have e2 : (xs X).vm.findClass ("[" ++ FieldType.int.toString) = some (gI G) := (o.2.2.2.2.2.1.1.2 0 _ rfl).2
  cases Option.some.inj (e1.symm.trans e2)
  exact kk q H1 locs ls hP1 hD1 hS1 h
theorem n_newJ (o : OkN X G A cc nL own F Lo mc ms) (N : Nat) {nz : Int32} (hz : nz = nI N) (hN : N < 1000) (ha : Cond.arrayClass .long ∈ TT) (h1 : nc + 1 ≤ mc) (h2 : ns + N ≤ ms) (d : decode cc pc = .ok (.newarray .long, 2)) (kk : ∀ q : Nat, WN X G A nL (nc + 1) (ns + N) (ws ++ [(q, .inl (gJ G, N, .inr (.inl (fun _ => 0))))]) (pc + 2) lv (.ref q :: st)) : WN X G A nL nc ns ws pc lv (.int nz :: st) := fun H locs ls hP hD hS h => by
  subst hz
  refine va_newa (atype := .long) (ty := .long) (N' := N) (a0 := (N, .inr (.inl (fun _ => 0)))) o.1 o.2.1 (o.2.2.2.2.1 _ ha) rfl o.2.2.2.2.2.1.1 hP hD hS o.2.2.2.2.2.2.1 (fun cA => rfl) (nI_pos (by omega)) (nI_clamp (by omega)) (by show N * 8 ≤ _; omega) (by rw [o.2.2.2.2.2.2.2]; exact h1) (by rw [o.2.2.2.2.2.2.2]; exact h2) d (fun q cA H1 hK' hP1 hD1 hS1 => ?_)
  have e1 : (xs X).vm.findClass ("[" ++ FieldType.long.toString) = some cA := (hK'.2 4 _ rfl).2
  have e2 : (xs X).vm.findClass ("[" ++ FieldType.long.toString) = some (gJ G) := (o.2.2.2.2.2.1.1.2 1 _ rfl).2
  cases Option.some.inj (e1.symm.trans e2)
  exact kk q H1 locs ls hP1 hD1 hS1 h
theorem n_newR (o : OkN X G A cc nL own F Lo mc ms) {index : Nat} {nz : Int32} (hz : nz = nI 13) (hcl : Cond.classLink own index "RoundRows$Round" ∈ TT) (h1 : nc + 1 ≤ mc) (h2 : ns + 13 ≤ ms) (d : decode cc pc = .ok (.anewarray index, 3)) (kk : ∀ q : Nat, WN X G A nL (nc + 1) (ns + 13) (ws ++ [(q, .inl (gR G, 13, .inr (.inr (.inr (.inr (fun _ => none))))))]) (pc + 3) lv (.ref q :: st)) : WN X G A nL nc ns ws pc lv (.int nz :: st) := fun H locs ls hP hD hS h => by
  subst hz
  refine va_newq (N' := 13) o.1 o.2.1 o.2.2.2.1 (o.2.2.2.2.1 _ hcl) o.2.2.2.2.2.1.2.2 o.2.2.2.2.2.1.1 hP hD hS o.2.2.2.2.2.2.1 (nI_pos (by omega)) (nI_clamp (by omega)) (by omega) (by rw [o.2.2.2.2.2.2.2]; exact h1) (by rw [o.2.2.2.2.2.2.2]; exact h2) d (fun q cA H1 hK' hP1 hD1 hS1 => ?_)
  obtain ⟨-, -, -, -, -, e1⟩ := (hK'.2 4 _ rfl).2
  obtain ⟨-, -, -, -, -, e2⟩ := (o.2.2.2.2.2.1.1.2 2 _ rfl).2
  cases Option.some.inj (e1.symm.trans e2)
  exact kk q H1 locs ls hP1 hD1 hS1 h
theorem n_get (o : OkN X G A cc nL own F Lo mc ms) {ref C : String} {T : u_T} {N ci index a : Nat} {fs : List Value} {v : Value} (hi : ∀ w ∈ u_ws C T N, w ∈ TT) (q0 : Nat) (he : ws[q0]? = some (a, .inr (ci, fs))) (hc : classes[ci]? = some (C, T, N)) (k : Nat) (hk : k < N) (hr : (T k).1 = ref) (hw : Cond.fieldLink own index ref (T k).2.1 (T k).2.2.1 ∈ TT) (hv : fs[k]? = some v) (d : decode cc pc = .ok (.getfield index, 3)) (kk : WN X G A nL nc ns ws (pc + 3) lv (v :: st)) : WN X G A nL nc ns ws pc lv (.ref a :: st) := fun H locs ls hP hD hS h =>
  va_get o.1 o.2.1 o.2.2.2.2.1 hi o.2.2.2.1 o.2.2.2.2.2.1.1 hP q0 he hc k hk (o.2.2.2.2.1 _ hw) (fun x hx => by rw [← hr]; exact hx) hv d (kk H locs ls hP hD hS h)
theorem n_put (o : OkN X G A cc nL own F Lo mc ms) {ref C : String} {T : u_T} {N ci index a : Nat} {fs : List Value} {v : Value} {ty : FieldType} (hi : ∀ w ∈ u_ws C T N, w ∈ TT) (ty0 : Nat → FieldType) (hty : ∀ k, k < N → parseFieldDescriptor (T k).2.2.1 = some (ty0 k)) (hnm : ∀ a, a < N → ∀ b, b < N → a ≠ b → (T a).2.1 ≠ (T b).2.1) (q0 : Nat) (he : ws[q0]? = some (a, .inr (ci, fs))) (hc : classes[ci]? = some (C, T, N)) (k : Nat) (hk : k < N) (hr : (T k).1 = ref) (hw : Cond.fieldLink own index ref (T k).2.1 (T k).2.2.1 ∈ TT) (hf : (T k).2.2.2 = false) (ht0 : ty0 k = ty) (hn : narrow ty v = v) (hfit : fits ty v = true) (hl : k < fs.length) (d : decode cc pc = .ok (.putfield index, 3)) (kk : WN X G A nL nc ns (ws.set q0 (a, .inr (ci, fs.set k v))) (pc + 3) lv st) : WN X G A nL nc ns ws pc lv (v :: .ref a :: st) := fun H locs ls hP hD hS h =>
  va_put (ty := ty) o.1 o.2.1 o.2.2.2.2.1 hi ty0 hty hnm o.2.2.2.1 o.2.2.2.2.2.1.1 hP hD hS q0 he hc k hk (o.2.2.2.2.1 _ hw) (fun x hx => by rw [← hr]; exact hx) hf (by rw [hty k hk, ht0]) hn hfit hl d (fun H1 locs1 hP1 hD1 hS1 => kk H1 locs1 ls hP1 hD1 hS1 h)
theorem n_putF (o : OkN X G A cc nL own F Lo mc ms) (hin2 : (xh X).name = "<init>") {ref C : String} {T : u_T} {N ci index a : Nat} {fs : List Value} {v : Value} {ty : FieldType} (hi : ∀ w ∈ u_ws C T N, w ∈ TT) (ty0 : Nat → FieldType) (hty : ∀ k, k < N → parseFieldDescriptor (T k).2.2.1 = some (ty0 k)) (hnm : ∀ a, a < N → ∀ b, b < N → a ≠ b → (T a).2.1 ≠ (T b).2.1) (q0 : Nat) (he : ws[q0]? = some (a, .inr (ci, fs))) (hc : classes[ci]? = some (C, T, N)) (k : Nat) (hk : k < N) (hr : (T k).1 = ref) (hro : (T k).1 = own) (hw : Cond.fieldLink own index ref (T k).2.1 (T k).2.2.1 ∈ TT) (hf : (T k).2.2.2 = true) (ht0 : ty0 k = ty) (hn : narrow ty v = v) (hfit : fits ty v = true) (hl : k < fs.length) (d : decode cc pc = .ok (.putfield index, 3)) (kk : WN X G A nL nc ns (ws.set q0 (a, .inr (ci, fs.set k v))) (pc + 3) lv st) : WN X G A nL nc ns ws pc lv (v :: .ref a :: st) := fun H locs ls hP hD hS h =>
  va_putF (ty := ty) o.1 o.2.1 o.2.2.2.2.1 hi ty0 hty hnm o.2.2.2.1 o.2.2.2.2.2.1.1 hP hD hS q0 he hc k hk (o.2.2.2.2.1 _ hw) (fun x hx => by rw [← hr]; exact hx) hf hin2 hro (by rw [hty k hk, ht0]) hn hfit hl d (fun H1 locs1 hP1 hD1 hS1 => kk H1 locs1 ls hP1 hD1 hS1 h)
theorem n_iast (o : OkN X G A cc nL own F Lo mc ms) (q0 : Nat) {a n jq : Nat} {f : Nat → Int32} {iz x : Int32} (ha : ws[q0]? = some (a, .inl (gI G, n, .inl f))) (hz : iz = nI jq) (hj : jq < n) (hn : n < 1000) (d : decode cc pc = .ok (.iastore, 1)) (kk : WN X G A nL nc ns (ws.set q0 (a, .inl (gI G, n, .inl (upd f jq x)))) (pc + 1) lv st) : WN X G A nL nc ns ws pc lv (.int x :: .int iz :: .ref a :: st) := fun H locs ls hP hD hS h => by
  subst hz
  refine va_iast o.1 o.2.1 o.2.2.2.2.2.1.1 hP hD hS q0 0 ha rfl (vp_in_nI hj (by omega)) d (fun H1 locs1 hP1 hD1 hS1 => ?_)
  rw [nI_clamp (by omega)] at hP1 hD1
  exact kk H1 locs1 ls hP1 hD1 hS1 h
theorem n_aast (o : OkN X G A cc nL own F Lo mc ms) (q0 qk : Nat) {a v jq : Nat} {vs : List Value} {f : Nat → Option Nat} {iz : Int32} (ha : ws[q0]? = some (a, .inl (gR G, 13, .inr (.inr (.inr (.inr f)))))) (hv : ws[qk]? = some (v, .inr (7, vs))) (hz : iz = nI jq) (hj : jq < 13) (d : decode cc pc = .ok (.aastore, 1)) (kk : WN X G A nL nc ns (ws.set q0 (a, .inl (gR G, 13, .inr (.inr (.inr (.inr (va_up f jq (some v)))))))) (pc + 1) lv st) : WN X G A nL nc ns ws pc lv (.ref v :: .int iz :: .ref a :: st) := fun H locs ls hP hD hS h => by
  subst hz
  refine va_astq (r := (RX7, TX7, 3)) o.1 o.2.1 o.2.2.2.2.2.1.1 hP hD hS q0 2 qk 7 ha rfl hv rfl (vp_in_nI hj (by omega)) d (fun H1 locs1 hP1 hD1 hS1 => ?_)
  rw [nI_clamp (by omega)] at hP1 hD1
  exact kk H1 locs1 ls hP1 hD1 hS1 h
theorem n_aald (o : OkN X G A cc nL own F Lo mc ms) (q0 : Nat) {a b jq : Nat} {f : Nat → Option Nat} {iz : Int32} (ha : ws[q0]? = some (a, .inl (gQ G, 6, .inr (.inr (.inr (.inr f)))))) (hz : iz = nI jq) (hj : jq < 6) (hb : f jq = some b) (d : decode cc pc = .ok (.aaload, 1)) (kk : WN X G A nL nc ns ws (pc + 1) lv (.ref b :: st)) : WN X G A nL nc ns ws pc lv (.int iz :: .ref a :: st) := fun H locs ls hP hD hS h => by
  subst hz
  have hcl : (nI jq).toNatClampNeg = jq := nI_clamp (by omega)
  have hin : vp_in (nI jq) 6 := vp_in_nI hj (by omega)
  refine W.aald (v := .ref b) (ty := .array .int) o.1 o.2.1 (hP q0 _ ha) ((o.2.2.2.2.2.1.1.2 3 _ rfl).1 6 (fun j => va_rf (f j))) rfl (fun q => by cases q) (by show ¬ (nI jq < 0 ∨ (arrV _ _ _).slots.size ≤ _); rw [arrV_size]; exact hin) (by show (arrV _ _ _).slots[_]? = _; rw [hcl, arrV_read _ _ hj, hb]; rfl) rfl rfl d (kk H locs ls hP hD hS h)
theorem n_ret (o : OkN X G A cc nL own F Lo mc ms) {wsf : (Nat → Nat) → va_W} (q : RtN X G A mc ms wsf) (af : Nat → Nat) (hw : ws = wsf af) (h1 : nc ≤ mc) (h2 : ns ≤ ms) (d : decode cc pc = .ok (.return_, 1)) : WN X G A nL nc ns ws pc lv [] := fun H locs ls hP hD hS h => by
  subst hw
  refine W.widen h1 h2 ?_
  rw [q.1]
  exact W.vret o.1 o.2.1 q.2.1 (fun t ht hW => ⟨⟨af, rfl, trivial, by rw [ht]; exact hP, hD⟩, hS.F ht⟩) hS.2.2 d q.2.2.2
theorem n_init (o : OkN X G A cc nL own F Lo mc ms) {y : MethodName} {cb : ByteArray} {mL idx F' Lo' m1 m2 q0 : Nat} {e0 : va_E} {wsf : (Nat → Nat) → va_W} (ct : CtN (xl X) G y cb mL F' Lo' m1 m2 q0 e0 wsf) (om : okM y cb mL none 0) (hin : Cond.instanceMethod y ∈ TT) (hlk : Cond.methodLink own idx y ∈ TT) (hyn : y.name = "<init>") (hR : F' + 1 ≤ F ∧ 8 + (mL + 11) + Lo' ≤ Lo) (hc : nc + m1 ≤ mc ∧ ns + m2 ≤ ms) (hW : (st.map fun v => v.category).sum ≤ 8) (d : decode cc pc = .ok (.invokespecial idx, 3)) (kk : ∀ af : Nat → Nat, WN X G A nL (nc + m1) (ns + m2) (ws ++ wsf af) (pc + 3) lv st) : WN X G A nL nc ns (ws ++ [(q0, e0)]) pc lv (.ref q0 :: st) := fun H locs ls hP hD hS h => by
  have hr := o.2.2.2.2.2.2.2
  have hlast : (ws ++ [(q0, e0)])[ws.length]? = some (q0, e0) := by simp
  have hold : ∀ (k : Nat) (x : Nat × va_E), ws[k]? = some x → (ws ++ [(q0, e0)])[k]? = some x ∧ k < ws.length := fun k x hx => by
    have hk := (List.getElem?_eq_some_iff.mp hx).1
    exact ⟨by rw [List.getElem?_append_left hk]; exact hx, hk⟩
  have hne : ∀ (k : Nat) (x : Nat × va_E), ws[k]? = some x → x.1 ≠ q0 := fun k x hx he => by
    obtain ⟨h1, h2⟩ := hold k x hx
    have := hD.1 k ws.length x (q0, e0) h1 hlast he
    omega
  have hP0 : va_P G.1 classes [(q0, e0)] H := hP.sub [ws.length] (by simp)
  have hAq : ∀ q, va_A [(q0, e0)] H.size q → A q := fun q hq => by
    rcases hq with ⟨k, e, hk⟩ | hq
    · have hk0 : k = 0 := by
        cases k with
        | zero => rfl
        | succ k => simp at hk
      subst hk0
      cases hk
      exact hD.2 _ _ hlast
    · exact o.2.2.2.2.2.2.1 q (Nat.le_trans hS.1 hq)
  refine va_callv (pc := pc) (ls := ls) (st0 := .ref q0 :: st) (va_runI (As := []) (rest := st) (bytes := cb) (maxL := mL) (n := 0) (nL := nL) (cc := cc) (Ts := TT) (own := own) ⟨o.1, o.2.1, o.2.2.1, o.2.2.2.1, o.2.2.2.2.1⟩ (ct H.size) ⟨⟨rfl, rfl, by rw [hr]; exact hR.1, by rw [hr]; exact hR.2, fun w hw a' U hW => by
    rcases List.mem_cons.mp hw with e | h
    · subst e; exact TT_pay o.2.2.2.2.1 _ om.1 a' U hW
    · exact TT_pay o.2.2.2.2.1 w h a' U hW, List.mem_cons_self, o.2.2.2.2.1 _ om.1, o.2.2.2.2.1 _ om.2.1, ⟨om.2.2.1.1, om.2.2.1.2.1⟩, om.sig, o.2.2.2.2.1 _ hlk⟩, hyn, o.2.2.2.2.1 _ hin⟩ ⟨fun a U g mk q => by obtain ⟨q1, q2, q3, q4⟩ := q; exact ⟨q1, q2, q3, NK.moved (u := U) (U := U.calling g mk a) (Vm.Alike.refl U.vm) q4⟩, fun U hU hW => ⟨rfl, by rw [hU], by rw [hU]; exact hP0, NK.moved hW.alike o.2.2.2.2.2.1⟩⟩ rfl rfl h.1 rfl (lv_room hW) d ⟨by rw [hr]; exact hc.1, by rw [hr]; exact hc.2⟩) hS (fun q _ h => hAq q h) hAq (fun u t H1 locs1 ht hvm hw hB hz1 hk1 hS1 => ?_)
  obtain ⟨hP1, hD1⟩ := hB
  rw [ht] at hP1
  have hnA : ∀ (k : Nat) (x : Nat × va_E), ws[k]? = some x → ¬ va_A [(q0, e0)] H.size x.1 := fun k x hx hq => by
    rcases hq with ⟨j, e, hj⟩ | hq
    · have hj0 : j = 0 := by
        cases j with
        | zero => rfl
        | succ j => simp at hj
      subst hj0
      have hq1 : q0 = x.1 := congrArg Prod.fst (Option.some.inj hj)
      exact hne k x hx hq1.symm
    · have := (hP k x (hold k x hx).1).lt
      omega
  have hPo : va_P G.1 classes ws H1 := fun k x hx => (hP k x (hold k x hx).1).kept (hk1 x.1 ((hP k x (hold k x hx).1).lt) (hnA k x hx))
  refine kk u H1 locs1 ls (hPo.app hP1) ?_ hS1 h
  refine va_D.app ⟨fun i j x y hi hj he => hD.1 i j x y (hold i x hi).1 (hold j y hj).1 he, fun k x hx => hD.2 k x (hold k x hx).1⟩ (hD1.weaken (fun k q _ hq => hAq q.1 hq)) (fun i j x y hx hy he => ?_)
  exact hnA i x hx (by rw [he]; exact hD1.2 j y hy)
end NW
