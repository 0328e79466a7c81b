/-! CONTRACTS over the static world, and calls -/
abbrev rmO (F Lo : Nat) : Room := { frames := F, cells := 0, slots := 0, locals := Lo }
def okM (y : MethodName) (cb : ByteArray) (mL : Nat) (ret : Option FieldType) (n : Nat) : Prop := Cond.code y cb mL ret ∈ TT ∧ Cond.initialized y.cls ∈ TT ∧ (y.cls ≠ "java/lang/invoke/MethodHandle" ∧ y.cls ≠ "java/lang/invoke/VarHandle" ∧ (parseMethodDescriptor y.desc).map (fun d => d.parameters.length) = some n) ∧ True
def CtI (l : Launch) (G : Gl) (y : MethodName) (cb : ByteArray) (mL : Nat) (ret : Option FieldType) (F Lo : Nat) (av : List Value) (σ : Sto) (post : Int32 → Sto → Prop) : Prop :=
  Met l y (.code y cb mL ret :: TT) (rmO F Lo) (va_Pc av (Wd G σ)) (va_Qi post (Wd G) (Ad G)) 0 0 (Ad G)
def RtI (X : Cx) (G : Gl) (ret : Option FieldType) (post : Int32 → Sto → Prop) : Prop := xQ X = MQ (xb X) (va_Qi post (Wd G) (Ad G)) (xa X) (xs X) 0 0 (Ad G) ∧ (xh X).sig.returnType = ret
theorem CtI.of {l : Launch} {G : Gl} {y : MethodName} {cb : ByteArray} {mL : Nat} {ret : Option FieldType} {F Lo : Nat} {av : List Value} {σ : Sto} {post : Int32 → Sto → Prop} (hy : plainName y.cls = true) (hn : (lg_sl av).length ≤ mL)
    (body : ∀ X : Cx, Ok X G cb mL y.cls F Lo → RtI X G ret post → WS X G mL σ 0 (lv_args 0 av) []) : CtI l G y cb mL ret F Lo av σ post := by
  refine Met.ofW (cc := cb) (maxL := mL) (ret := ret) hy rfl ?_
  intro p e s m args below meth c s₁ B hml hv
  obtain ⟨rfl, hP, hK, hI⟩ := hv
  have hts := atoms_spec (ws := Cond.code y cb mL ret :: TT) B.pre
  have hl := lv_entry av (n := mL) hn
  rw [lg_entry_eq]
  exact body (p, l, e, rmO F Lo, s, m, av.toArray, below, meth, c, _) ⟨B.exec, B.bytes, hml, findClass_of_methodNamed B.named, fun w h => hts w (List.mem_cons_of_mem _ h), hK, hI, rfl, rfl, B.notSynchronized⟩ ⟨rfl, B.returns⟩ s.heap [] _ hP va_S.rf hl
def CtL (l : Launch) (G : Gl) (y : MethodName) (cb : ByteArray) (mL : Nat) (ret : Option FieldType) (F Lo : Nat) (av : List Value) (σ : Sto) (post : Int64 → Sto → Prop) : Prop :=
  Met l y (.code y cb mL ret :: TT) (rmO F Lo) (va_Pc av (Wd G σ)) (va_Ql post (Wd G) (Ad G)) 0 0 (Ad G)
def RtL (X : Cx) (G : Gl) (ret : Option FieldType) (post : Int64 → Sto → Prop) : Prop := xQ X = MQ (xb X) (va_Ql post (Wd G) (Ad G)) (xa X) (xs X) 0 0 (Ad G) ∧ (xh X).sig.returnType = ret
theorem CtL.of {l : Launch} {G : Gl} {y : MethodName} {cb : ByteArray} {mL : Nat} {ret : Option FieldType} {F Lo : Nat} {av : List Value} {σ : Sto} {post : Int64 → Sto → Prop} (hy : plainName y.cls = true) (hn : (lg_sl av).length ≤ mL)
    (body : ∀ X : Cx, Ok X G cb mL y.cls F Lo → RtL X G ret post → WS X G mL σ 0 (lv_args 0 av) []) : CtL l G y cb mL ret F Lo av σ post := by
  refine Met.ofW (cc := cb) (maxL := mL) (ret := ret) hy rfl ?_
  intro p e s m args below meth c s₁ B hml hv
  obtain ⟨rfl, hP, hK, hI⟩ := hv
  have hts := atoms_spec (ws := Cond.code y cb mL ret :: TT) B.pre
  have hl := lv_entry av (n := mL) hn
  rw [lg_entry_eq]
  exact body (p, l, e, rmO F Lo, s, m, av.toArray, below, meth, c, _) ⟨B.exec, B.bytes, hml, findClass_of_methodNamed B.named, fun w h => hts w (List.mem_cons_of_mem _ h), hK, hI, rfl, rfl, B.notSynchronized⟩ ⟨rfl, B.returns⟩ s.heap [] _ hP va_S.rf hl
def CtV (l : Launch) (G : Gl) (y : MethodName) (cb : ByteArray) (mL : Nat) (ret : Option FieldType) (F Lo : Nat) (av : List Value) (σ : Sto) (post : Sto → Prop) : Prop :=
  Met l y (.code y cb mL ret :: TT) (rmO F Lo) (va_Pc av (Wd G σ)) (va_Qv post (Wd G) (Ad G)) 0 0 (Ad G)
def RtV (X : Cx) (G : Gl) (ret : Option FieldType) (post : Sto → Prop) : Prop := xQ X = MQ (xb X) (va_Qv post (Wd G) (Ad G)) (xa X) (xs X) 0 0 (Ad G) ∧ (xh X).sig.returnType = ret
theorem CtV.of {l : Launch} {G : Gl} {y : MethodName} {cb : ByteArray} {mL : Nat} {ret : Option FieldType} {F Lo : Nat} {av : List Value} {σ : Sto} {post : Sto → Prop} (hy : plainName y.cls = true) (hn : (lg_sl av).length ≤ mL)
    (body : ∀ X : Cx, Ok X G cb mL y.cls F Lo → RtV X G ret post → WS X G mL σ 0 (lv_args 0 av) []) : CtV l G y cb mL ret F Lo av σ post := by
  refine Met.ofW (cc := cb) (maxL := mL) (ret := ret) hy rfl ?_
  intro p e s m args below meth c s₁ B hml hv
  obtain ⟨rfl, hP, hK, hI⟩ := hv
  have hts := atoms_spec (ws := Cond.code y cb mL ret :: TT) B.pre
  have hl := lv_entry av (n := mL) hn
  rw [lg_entry_eq]
  exact body (p, l, e, rmO F Lo, s, m, av.toArray, below, meth, c, _) ⟨B.exec, B.bytes, hml, findClass_of_methodNamed B.named, fun w h => hts w (List.mem_cons_of_mem _ h), hK, hI, rfl, rfl, B.notSynchronized⟩ ⟨rfl, B.returns⟩ s.heap [] _ hP va_S.rf hl
theorem Wd_blind {G : Gl} {σ : Sto} {av : List Value} : FrameBlind (va_Pc av (Wd G σ)) := fun a U g mk q => by
  obtain ⟨q0, q1, q2, q3⟩ := q
  exact ⟨q0, q1, va_K.moved (u := U) (U := U.calling g mk a) (Vm.Alike.refl U.vm) q2, q3⟩
section RC
variable {X : Cx} {G : Gl} {cc : ByteArray} {nL : Nat} {own : String} {F Lo : Nat} {σ : Sto} {pc : Nat} {lv : List (Nat × Value)} {st st' : List Value}
theorem r_ireturn (o : Ok X G cc nL own F Lo) {post : Int32 → Sto → Prop} (q : RtI X G (some .int) post) {v : Int32} (d : decode cc pc = .ok (.ireturn, 1)) (h : post v σ) : WS X G nL σ pc lv [.int v] := fun H locs ls hP hS _ => by
  rw [q.1]
  exact W.iret o.1 o.2.1 q.2 (fun t ht hW => ⟨⟨v, σ, rfl, h, by rw [ht]; exact hP, va_K.moved hW.alike o.2.2.2.2.2.1, o.2.2.2.2.2.2.1⟩, hS.F ht⟩) hS.2.2 d o.2.2.2.2.2.2.2.2.2
theorem r_zreturn (o : Ok X G cc nL own F Lo) {post : Int32 → Sto → Prop} (q : RtI X G (some .boolean) post) {v : Int32} (hn : narrow .boolean (.int v) = .int v) (d : decode cc pc = .ok (.ireturn, 1)) (h : post v σ) : WS X G nL σ pc lv [.int v] := fun H locs ls hP hS _ => by
  rw [q.1]
  exact W.zret o.1 o.2.1 q.2 hn (fun t ht hW => ⟨⟨v, σ, rfl, h, by rw [ht]; exact hP, va_K.moved hW.alike o.2.2.2.2.2.1, o.2.2.2.2.2.2.1⟩, hS.F ht⟩) hS.2.2 d o.2.2.2.2.2.2.2.2.2
theorem r_lreturn (o : Ok X G cc nL own F Lo) {post : Int64 → Sto → Prop} (q : RtL X G (some .long) post) {v : Int64} (d : decode cc pc = .ok (.lreturn, 1)) (h : post v σ) : WS X G nL σ pc lv [.long v] := fun H locs ls hP hS _ => by
  rw [q.1]
  exact W.lret o.1 o.2.1 q.2 (fun t ht hW => ⟨⟨v, σ, rfl, h, by rw [ht]; exact hP, va_K.moved hW.alike o.2.2.2.2.2.1, o.2.2.2.2.2.2.1⟩, hS.F ht⟩) hS.2.2 d o.2.2.2.2.2.2.2.2.2
theorem r_return (o : Ok X G cc nL own F Lo) {post : Sto → Prop} (q : RtV X G none post) (d : decode cc pc = .ok (.return_, 1)) (h : post σ) : WS X G nL σ pc lv [] := fun H locs ls hP hS _ => by
  rw [q.1]
  exact W.vret o.1 o.2.1 q.2 (fun t ht hW => ⟨⟨σ, rfl, h, by rw [ht]; exact hP, va_K.moved hW.alike o.2.2.2.2.2.1, o.2.2.2.2.2.2.1⟩, hS.F ht⟩) hS.2.2 d o.2.2.2.2.2.2.2.2.2
theorem okM.sig {y : MethodName} {cb : ByteArray} {mL : Nat} {ret : Option FieldType} {n : Nat} (om : okM y cb mL ret n) : ∀ sig, parseMethodDescriptor y.desc = some sig → n = sig.parameters.length := fun sig h => by
  have h2 := om.2.2.1.2.2
  rw [h] at h2
  exact (Option.some.inj h2).symm
theorem okM.pay (o : Ok X G cc nL own F Lo) {y : MethodName} {cb : ByteArray} {mL : Nat} {ret : Option FieldType} {n : Nat} (om : okM y cb mL ret n) : ∀ w ∈ (Cond.code y cb mL ret :: TT), ∀ (a' : Array Value) (U : State), (xs X).WarmedH U.vm → w.before a' U = true := fun w hw a' U hW => by
  rcases List.mem_cons.mp hw with e | h
  · subst e; exact TT_pay o.2.2.2.2.1 _ om.1 a' U hW
  · exact TT_pay o.2.2.2.2.1 w h a' U hW
theorem okM.cb (o : Ok X G cc nL own F Lo) {y : MethodName} {cb : ByteArray} {mL idx : Nat} {ret : Option FieldType} {n F' Lo' : Nat} (om : okM y cb mL ret n) (hl : Cond.methodLink own idx y ∈ TT) (hR : F' + 1 ≤ F ∧ 8 + (mL + 11) + Lo' ≤ Lo) : CallB (xR X) (xs X) (xa X) own idx y cb mL ret (Cond.code y cb mL ret :: TT) (rmO F' Lo') 0 0 n :=
  ⟨rfl, rfl, by rw [o.2.2.2.2.2.2.2.1]; exact hR.1, by rw [o.2.2.2.2.2.2.2.2.1]; exact hR.2, om.pay o, List.mem_cons_self, o.2.2.2.2.1 _ om.1, o.2.2.2.2.1 _ om.2.1, ⟨om.2.2.1.1, om.2.2.1.2.1⟩, om.sig, o.2.2.2.2.1 _ hl⟩
theorem okM.cn (o : Ok X G cc nL own F Lo) {y : MethodName} {cb : ByteArray} {mL idx : Nat} {host : String} {ret : Option FieldType} {n F' Lo' : Nat} (om : okM y cb mL ret n) (hl : Cond.methodLinkNest own idx y host ∈ TT) (hR : F' + 1 ≤ F ∧ 8 + (mL + 11) + Lo' ≤ Lo) : va_CN (xR X) (xs X) (xa X) own idx y host cb mL ret (Cond.code y cb mL ret :: TT) (rmO F' Lo') 0 0 n :=
  ⟨⟨rfl, rfl, by rw [o.2.2.2.2.2.2.2.1]; exact hR.1, by rw [o.2.2.2.2.2.2.2.2.1]; exact hR.2, om.pay o, List.mem_cons_self⟩, o.2.2.2.2.1 _ om.1, o.2.2.2.2.1 _ om.2.1, ⟨om.2.2.1.1, om.2.2.1.2.1⟩, om.sig, o.2.2.2.2.1 _ hl⟩
theorem Ok.fix (o : Ok X G cc nL own F Lo) : CallFix (xp X) (xm X) (xc X) cc nL (xs X) (xa X) TT own := ⟨o.1, o.2.1, o.2.2.1, o.2.2.2.1, o.2.2.2.2.1⟩
theorem Wd_pre (o : Ok X G cc nL own F Lo) {H : Heap} {av : List Value} (hP : va_P G.1 classes (wld G σ) H) : ∀ U : State, U.heap = H → (xs X).WarmedH U.vm → va_Pc av (Wd G σ) av.toArray U := fun U hU hW => ⟨rfl, by rw [hU]; exact hP, va_K.moved hW.alike o.2.2.2.2.2.1, o.2.2.2.2.2.2.1⟩
theorem r_callVI (o : Ok X G cc nL own F Lo) {y : MethodName} {cb : ByteArray} {mL idx n F' Lo' : Nat} {ret : Option FieldType} {As : List Value} {post : Int32 → Sto → Prop} {c ci : Nat} {fs : List Value} {q : vw_C} (ct : CtI (xl X) G y cb mL ret F' Lo' (.ref (gad G c) :: As) σ post) (om : okM y cb mL ret n) (hin : Cond.instanceMethod y ∈ TT) (hse : Cond.selects y.cls y y ∈ TT) (hlk : Cond.methodLink own idx y ∈ TT) (hc : c < 85) (he : cellE G c (σ c) = .inr (ci, fs)) (hcl : classes[ci]? = some q) (hq : q.1 = y.cls) (hR : F' + 1 ≤ F ∧ 8 + (mL + 11) + Lo' ≤ Lo) (hlen : As.length = n) (hst : st' = As.reverse ++ .ref (gad G c) :: st) (hW : (st.map fun v => v.category).sum ≤ 8) (d : decode cc pc = .ok (.invokevirtual idx, 3))
    (kk : ∀ (r : Int32) (σ' : Sto), post r σ' → WS X G nL σ' (pc + 3) lv (.int r :: st)) : WS X G nL σ pc lv st' := fun H locs ls hP hS h => by
  refine va_calli (pc := pc) (ls := ls) (st0 := st') (va_runV (C := y.cls) (As := As) (rest := st) (ret := ret) (bytes := cb) (maxL := mL) (n := n) o.fix ct ⟨om.cb o hlk hR, o.2.2.2.2.1 _ hin, o.2.2.2.2.1 _ hse⟩ ⟨Wd_blind, by rw [← hq]; exact va_recv o.2.2.2.2.2.1 hP hcl (q0 := c) (fs := fs) (by rw [wld_at hc, he]), Wd_pre o hP⟩ rfl hlen h.1 hst (lv_room hW) d ⟨Nat.zero_le _, Nat.zero_le _⟩) hS (fun q _ h => h) (fun q h => h) (fun r u t H1 locs1 ht hvm hw hB hz1 hk1 hS1 => ?_)
  obtain ⟨hP1, -, -⟩ := hB
  rw [ht] at hP1
  exact kk r u hw H1 locs1 ls hP1 hS1 h
theorem r_callSI (o : Ok X G cc nL own F Lo) {y : MethodName} {cb : ByteArray} {mL idx n F' Lo' : Nat} {ret : Option FieldType} {As : List Value} {post : Int32 → Sto → Prop} (ct : CtI (xl X) G y cb mL ret F' Lo' (As) σ post) (om : okM y cb mL ret n) (hin : Cond.static y ∈ TT) (hlk : Cond.methodLink own idx y ∈ TT) (hR : F' + 1 ≤ F ∧ 8 + (mL + 11) + Lo' ≤ Lo) (hlen : As.length = n) (hst : st' = As.reverse ++ st) (hW : (st.map fun v => v.category).sum ≤ 8) (d : decode cc pc = .ok (.invokestatic idx, 3))
    (kk : ∀ (r : Int32) (σ' : Sto), post r σ' → WS X G nL σ' (pc + 3) lv (.int r :: st)) : WS X G nL σ pc lv st' := fun H locs ls hP hS h => by
  refine va_calli (pc := pc) (ls := ls) (st0 := st') (va_runS (As := As) (rest := st) (ret := ret) (bytes := cb) (maxL := mL) (n := n) o.fix ct ⟨om.cb o hlk hR, o.2.2.2.2.1 _ hin⟩ ⟨Wd_blind, Wd_pre o hP⟩ rfl hlen h.1 hst (lv_room hW) d ⟨Nat.zero_le _, Nat.zero_le _⟩) hS (fun q _ h => h) (fun q h => h) (fun r u t H1 locs1 ht hvm hw hB hz1 hk1 hS1 => ?_)
  obtain ⟨hP1, -, -⟩ := hB
  rw [ht] at hP1
  exact kk r u hw H1 locs1 ls hP1 hS1 h
theorem r_callNI (o : Ok X G cc nL own F Lo) {y : MethodName} {cb : ByteArray} {mL idx n F' Lo' : Nat} {ret : Option FieldType} {As : List Value} {post : Int32 → Sto → Prop} {host : String} (ct : CtI (xl X) G y cb mL ret F' Lo' (As) σ post) (om : okM y cb mL ret n) (hin : Cond.static y ∈ TT) (hlk : Cond.methodLinkNest own idx y host ∈ TT) (hR : F' + 1 ≤ F ∧ 8 + (mL + 11) + Lo' ≤ Lo) (hlen : As.length = n) (hst : st' = As.reverse ++ st) (hW : (st.map fun v => v.category).sum ≤ 8) (d : decode cc pc = .ok (.invokestatic idx, 3))
    (kk : ∀ (r : Int32) (σ' : Sto), post r σ' → WS X G nL σ' (pc + 3) lv (.int r :: st)) : WS X G nL σ pc lv st' := fun H locs ls hP hS h => by
  refine va_calli (pc := pc) (ls := ls) (st0 := st') (va_runSN (As := As) (rest := st) (ret := ret) (bytes := cb) (maxL := mL) (n := n) o.fix ct ⟨om.cn o hlk hR, o.2.2.2.2.1 _ hin, trivial⟩ ⟨Wd_blind, Wd_pre o hP⟩ rfl hlen h.1 hst (lv_room hW) d ⟨Nat.zero_le _, Nat.zero_le _⟩) hS (fun q _ h => h) (fun q h => h) (fun r u t H1 locs1 ht hvm hw hB hz1 hk1 hS1 => ?_)
  obtain ⟨hP1, -, -⟩ := hB
  rw [ht] at hP1
  exact kk r u hw H1 locs1 ls hP1 hS1 h
theorem r_callVL (o : Ok X G cc nL own F Lo) {y : MethodName} {cb : ByteArray} {mL idx n F' Lo' : Nat} {ret : Option FieldType} {As : List Value} {post : Int64 → Sto → Prop} {c ci : Nat} {fs : List Value} {q : vw_C} (ct : CtL (xl X) G y cb mL ret F' Lo' (.ref (gad G c) :: As) σ post) (om : okM y cb mL ret n) (hin : Cond.instanceMethod y ∈ TT) (hse : Cond.selects y.cls y y ∈ TT) (hlk : Cond.methodLink own idx y ∈ TT) (hc : c < 85) (he : cellE G c (σ c) = .inr (ci, fs)) (hcl : classes[ci]? = some q) (hq : q.1 = y.cls) (hR : F' + 1 ≤ F ∧ 8 + (mL + 11) + Lo' ≤ Lo) (hlen : As.length = n) (hst : st' = As.reverse ++ .ref (gad G c) :: st) (hW : (st.map fun v => v.category).sum ≤ 8) (d : decode cc pc = .ok (.invokevirtual idx, 3))
    (kk : ∀ (r : Int64) (σ' : Sto), post r σ' → WS X G nL σ' (pc + 3) lv (.long r :: st)) : WS X G nL σ pc lv st' := fun H locs ls hP hS h => by
  refine va_calll (pc := pc) (ls := ls) (st0 := st') (va_runV (C := y.cls) (As := As) (rest := st) (ret := ret) (bytes := cb) (maxL := mL) (n := n) o.fix ct ⟨om.cb o hlk hR, o.2.2.2.2.1 _ hin, o.2.2.2.2.1 _ hse⟩ ⟨Wd_blind, by rw [← hq]; exact va_recv o.2.2.2.2.2.1 hP hcl (q0 := c) (fs := fs) (by rw [wld_at hc, he]), Wd_pre o hP⟩ rfl hlen h.1 hst (lv_room hW) d ⟨Nat.zero_le _, Nat.zero_le _⟩) hS (fun q _ h => h) (fun q h => h) (fun r u t H1 locs1 ht hvm hw hB hz1 hk1 hS1 => ?_)
  obtain ⟨hP1, -, -⟩ := hB
  rw [ht] at hP1
  exact kk r u hw H1 locs1 ls hP1 hS1 h
theorem r_callSL (o : Ok X G cc nL own F Lo) {y : MethodName} {cb : ByteArray} {mL idx n F' Lo' : Nat} {ret : Option FieldType} {As : List Value} {post : Int64 → Sto → Prop} (ct : CtL (xl X) G y cb mL ret F' Lo' (As) σ post) (om : okM y cb mL ret n) (hin : Cond.static y ∈ TT) (hlk : Cond.methodLink own idx y ∈ TT) (hR : F' + 1 ≤ F ∧ 8 + (mL + 11) + Lo' ≤ Lo) (hlen : As.length = n) (hst : st' = As.reverse ++ st) (hW : (st.map fun v => v.category).sum ≤ 8) (d : decode cc pc = .ok (.invokestatic idx, 3))
    (kk : ∀ (r : Int64) (σ' : Sto), post r σ' → WS X G nL σ' (pc + 3) lv (.long r :: st)) : WS X G nL σ pc lv st' := fun H locs ls hP hS h => by
  refine va_calll (pc := pc) (ls := ls) (st0 := st') (va_runS (As := As) (rest := st) (ret := ret) (bytes := cb) (maxL := mL) (n := n) o.fix ct ⟨om.cb o hlk hR, o.2.2.2.2.1 _ hin⟩ ⟨Wd_blind, Wd_pre o hP⟩ rfl hlen h.1 hst (lv_room hW) d ⟨Nat.zero_le _, Nat.zero_le _⟩) hS (fun q _ h => h) (fun q h => h) (fun r u t H1 locs1 ht hvm hw hB hz1 hk1 hS1 => ?_)
  obtain ⟨hP1, -, -⟩ := hB
  rw [ht] at hP1
  exact kk r u hw H1 locs1 ls hP1 hS1 h
theorem r_callNL (o : Ok X G cc nL own F Lo) {y : MethodName} {cb : ByteArray} {mL idx n F' Lo' : Nat} {ret : Option FieldType} {As : List Value} {post : Int64 → Sto → Prop} {host : String} (ct : CtL (xl X) G y cb mL ret F' Lo' (As) σ post) (om : okM y cb mL ret n) (hin : Cond.static y ∈ TT) (hlk : Cond.methodLinkNest own idx y host ∈ TT) (hR : F' + 1 ≤ F ∧ 8 + (mL + 11) + Lo' ≤ Lo) (hlen : As.length = n) (hst : st' = As.reverse ++ st) (hW : (st.map fun v => v.category).sum ≤ 8) (d : decode cc pc = .ok (.invokestatic idx, 3))
    (kk : ∀ (r : Int64) (σ' : Sto), post r σ' → WS X G nL σ' (pc + 3) lv (.long r :: st)) : WS X G nL σ pc lv st' := fun H locs ls hP hS h => by
  refine va_calll (pc := pc) (ls := ls) (st0 := st') (va_runSN (As := As) (rest := st) (ret := ret) (bytes := cb) (maxL := mL) (n := n) o.fix ct ⟨om.cn o hlk hR, o.2.2.2.2.1 _ hin, trivial⟩ ⟨Wd_blind, Wd_pre o hP⟩ rfl hlen h.1 hst (lv_room hW) d ⟨Nat.zero_le _, Nat.zero_le _⟩) hS (fun q _ h => h) (fun q h => h) (fun r u t H1 locs1 ht hvm hw hB hz1 hk1 hS1 => ?_)
  obtain ⟨hP1, -, -⟩ := hB
  rw [ht] at hP1
  exact kk r u hw H1 locs1 ls hP1 hS1 h
theorem r_callVV (o : Ok X G cc nL own F Lo) {y : MethodName} {cb : ByteArray} {mL idx n F' Lo' : Nat} {ret : Option FieldType} {As : List Value} {post : Sto → Prop} {c ci : Nat} {fs : List Value} {q : vw_C} (ct : CtV (xl X) G y cb mL ret F' Lo' (.ref (gad G c) :: As) σ post) (om : okM y cb mL ret n) (hin : Cond.instanceMethod y ∈ TT) (hse : Cond.selects y.cls y y ∈ TT) (hlk : Cond.methodLink own idx y ∈ TT) (hc : c < 85) (he : cellE G c (σ c) = .inr (ci, fs)) (hcl : classes[ci]? = some q) (hq : q.1 = y.cls) (hR : F' + 1 ≤ F ∧ 8 + (mL + 11) + Lo' ≤ Lo) (hlen : As.length = n) (hst : st' = As.reverse ++ .ref (gad G c) :: st) (hW : (st.map fun v => v.category).sum ≤ 8) (d : decode cc pc = .ok (.invokevirtual idx, 3))
    (kk : ∀ (σ' : Sto), post σ' → WS X G nL σ' (pc + 3) lv (st)) : WS X G nL σ pc lv st' := fun H locs ls hP hS h => by
  refine va_callv (pc := pc) (ls := ls) (st0 := st') (va_runV (C := y.cls) (As := As) (rest := st) (ret := ret) (bytes := cb) (maxL := mL) (n := n) o.fix ct ⟨om.cb o hlk hR, o.2.2.2.2.1 _ hin, o.2.2.2.2.1 _ hse⟩ ⟨Wd_blind, by rw [← hq]; exact va_recv o.2.2.2.2.2.1 hP hcl (q0 := c) (fs := fs) (by rw [wld_at hc, he]), Wd_pre o hP⟩ rfl hlen h.1 hst (lv_room hW) d ⟨Nat.zero_le _, Nat.zero_le _⟩) hS (fun q _ h => h) (fun q h => h) (fun u t H1 locs1 ht hvm hw hB hz1 hk1 hS1 => ?_)
  obtain ⟨hP1, -, -⟩ := hB
  rw [ht] at hP1
  exact kk u hw H1 locs1 ls hP1 hS1 h
theorem r_callSV (o : Ok X G cc nL own F Lo) {y : MethodName} {cb : ByteArray} {mL idx n F' Lo' : Nat} {ret : Option FieldType} {As : List Value} {post : Sto → Prop} (ct : CtV (xl X) G y cb mL ret F' Lo' (As) σ post) (om : okM y cb mL ret n) (hin : Cond.static y ∈ TT) (hlk : Cond.methodLink own idx y ∈ TT) (hR : F' + 1 ≤ F ∧ 8 + (mL + 11) + Lo' ≤ Lo) (hlen : As.length = n) (hst : st' = As.reverse ++ st) (hW : (st.map fun v => v.category).sum ≤ 8) (d : decode cc pc = .ok (.invokestatic idx, 3))
    (kk : ∀ (σ' : Sto), post σ' → WS X G nL σ' (pc + 3) lv (st)) : WS X G nL σ pc lv st' := fun H locs ls hP hS h => by
  refine va_callv (pc := pc) (ls := ls) (st0 := st') (va_runS (As := As) (rest := st) (ret := ret) (bytes := cb) (maxL := mL) (n := n) o.fix ct ⟨om.cb o hlk hR, o.2.2.2.2.1 _ hin⟩ ⟨Wd_blind, Wd_pre o hP⟩ rfl hlen h.1 hst (lv_room hW) d ⟨Nat.zero_le _, Nat.zero_le _⟩) hS (fun q _ h => h) (fun q h => h) (fun u t H1 locs1 ht hvm hw hB hz1 hk1 hS1 => ?_)
  obtain ⟨hP1, -, -⟩ := hB
  rw [ht] at hP1
  exact kk u hw H1 locs1 ls hP1 hS1 h
theorem r_callNV (o : Ok X G cc nL own F Lo) {y : MethodName} {cb : ByteArray} {mL idx n F' Lo' : Nat} {ret : Option FieldType} {As : List Value} {post : Sto → Prop} {host : String} (ct : CtV (xl X) G y cb mL ret F' Lo' (As) σ post) (om : okM y cb mL ret n) (hin : Cond.static y ∈ TT) (hlk : Cond.methodLinkNest own idx y host ∈ TT) (hR : F' + 1 ≤ F ∧ 8 + (mL + 11) + Lo' ≤ Lo) (hlen : As.length = n) (hst : st' = As.reverse ++ st) (hW : (st.map fun v => v.category).sum ≤ 8) (d : decode cc pc = .ok (.invokestatic idx, 3))
    (kk : ∀ (σ' : Sto), post σ' → WS X G nL σ' (pc + 3) lv (st)) : WS X G nL σ pc lv st' := fun H locs ls hP hS h => by
  refine va_callv (pc := pc) (ls := ls) (st0 := st') (va_runSN (As := As) (rest := st) (ret := ret) (bytes := cb) (maxL := mL) (n := n) o.fix ct ⟨om.cn o hlk hR, o.2.2.2.2.1 _ hin, trivial⟩ ⟨Wd_blind, Wd_pre o hP⟩ rfl hlen h.1 hst (lv_room hW) d ⟨Nat.zero_le _, Nat.zero_le _⟩) hS (fun q _ h => h) (fun q h => h) (fun u t H1 locs1 ht hvm hw hB hz1 hk1 hS1 => ?_)
  obtain ⟨hP1, -, -⟩ := hB
  rw [ht] at hP1
  exact kk u hw H1 locs1 ls hP1 hS1 h
theorem r_max (o : Ok X G cc nL own F Lo) {idx : Nat} (hlk : Cond.methodLink own idx Lib.Math.max.name ∈ TT) (hs : Cond.static Lib.Math.max.name ∈ TT) (hi : Cond.initialized "java/lang/Math" ∈ TT) (hcd : Cond.code Lib.Math.max.name Lib.Math.max.code 2 (some .int) ∈ TT) (hF : 1 ≤ F) (hL : (st.map fun v => v.category).sum + 13 ≤ Lo) {x y : Int32} (d : decode cc pc = .ok (.invokestatic idx, 3)) (kk : WS X G nL σ (pc + 3) lv (.int (if x < y then y else x) :: st)) : WS X G nL σ pc lv (.int y :: .int x :: st) := fun H locs ls hP hS h =>
  va_mmax o.1 o.2.1 (by rw [o.2.2.1]; exact h.1.symm) o.2.2.2.1 (o.2.2.2.2.1 _ hlk) (o.2.2.2.2.1 _ hs) (o.2.2.2.2.1 _ hi) (o.2.2.2.2.1 _ hcd) (by rw [o.2.2.2.2.2.2.2.1]; exact hF) (by rw [o.2.2.2.2.2.2.2.2.1]; exact hL) (Nat.zero_le _) (Nat.zero_le _) d (kk H locs ls hP hS h)
theorem r_min (o : Ok X G cc nL own F Lo) {idx : Nat} (hlk : Cond.methodLink own idx Lib.Math.min.name ∈ TT) (hs : Cond.static Lib.Math.min.name ∈ TT) (hi : Cond.initialized "java/lang/Math" ∈ TT) (hcd : Cond.code Lib.Math.min.name Lib.Math.min.code 2 (some .int) ∈ TT) (hF : 1 ≤ F) (hL : (st.map fun v => v.category).sum + 13 ≤ Lo) {x y : Int32} (d : decode cc pc = .ok (.invokestatic idx, 3)) (kk : WS X G nL σ (pc + 3) lv (.int (if y < x then y else x) :: st)) : WS X G nL σ pc lv (.int y :: .int x :: st) := fun H locs ls hP hS h =>
  va_mmin o.1 o.2.1 (by rw [o.2.2.1]; exact h.1.symm) o.2.2.2.1 (o.2.2.2.2.1 _ hlk) (o.2.2.2.2.1 _ hs) (o.2.2.2.2.1 _ hi) (o.2.2.2.2.1 _ hcd) (by rw [o.2.2.2.2.2.2.2.1]; exact hF) (by rw [o.2.2.2.2.2.2.2.2.1]; exact hL) (Nat.zero_le _) (Nat.zero_le _) d (kk H locs ls hP hS h)
end RC
