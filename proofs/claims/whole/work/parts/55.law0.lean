/-! THE CLAIM OUT OF ONE WALK OF THE LAW'S BODY. Your part is whole_start (and what it stands on); all else here is the same for every law, but numbers. -/
def R_law : String := "RoundRowsLaw"
def lw_P (b : Addr) (xs : List Int32) (args : Array Value) (s : State) : Prop := args = #[.ref b] ∧ s.IntsAt b xs ∧ xs.length ≤ 2560 ∧ (Jvm.Cond.and given_1 narrow_1).before args s = true
def lw_Q (_ : Array Value) (s : State) (o : Outcome) (t : State) : Prop := o = .returned (some (.int 1)) ∧ Framed s o t [] 600000 7302250
def lw_Z (below : List Frame) (a : Array Value) (s : State) : State → Prop := fun t => ∃ o, t.status = .running ∧ Ended t below o ∧ lw_Q a s o t
/-- the law's own end, with 1 on the stack, nothing written that was there before, its room as the claim has it -/
theorem lw_ret {p : Program} {l : Launch} {e : Env} {s : State} {m : MethodId} {below : List Frame} {meth : Method} {c : Code} {b : Nat} (hx : p.tables.exec = Jvm.exec) (hb : c.code = code) (hr : meth.sig.returnType = ret) (hlocks : meth.locks = false) {pc : Nat} {H : Heap} {ls : Array Slot} (hdg : decode code pc = .ok (.ireturn, 1)) : W p l e room_1 s m #[Value.ref b] below meth c H [] 600000 7302250 (lw_Z below #[Value.ref b] s) (F0 m pc ls [.int 1]) := by
  intro T hT X
  obtain ⟨fs, hret, hrun, hended, hW, hframe⟩ := X.leave (v := some (.int 1)) (hlocks := hlocks) (fun h => by rw [hr] at h; cases h)
  have hmeth' : T.vm.method? m = some meth := X.method'
  refine ⟨T.setFrames fs, ?_, .returned (some (.int 1)), hrun, hended, rfl, ⟨_, rfl⟩, hW, hframe⟩
  jvm_step X.here [X.here.top, hx, hb, hdg, hmeth', hr, ret, narrow_b1]
  (try refine ⟨rfl, ?_⟩); (try refine ⟨rfl, ?_⟩)
  first | (intro acts; rw [hret _ acts rfl rfl rfl]) | rw [hret _ _ rfl rfl rfl]
  exact Steps.refl _
/-- what holds at the law's entry: the machine, the code, the tables' words (any of lw_tbl by 'hts w (by decide +kernel)'), the script of L ints xs at the cell b, what the Statement gives of the start (any of its parts by flat_of_before) -/
def lw_At (p : Program) (s : State) (m : MethodId) (meth : Method) (c : Code) (b L : Nat) (xs : Nat → Int32) : Prop :=
  p.tables.exec = Jvm.exec ∧ c.code = code ∧ meth.sig.returnType = ret ∧ c.maxLocals = 4 ∧ s.vm.findClass R_law = some m.cls ∧ (∀ w ∈ lw_tbl, w.before #[Value.ref b] s = true) ∧ va_X b L xs s s.heap ∧ b < s.heap.size ∧ meth.locks = false ∧ (Jvm.Cond.and given_1 narrow_1).before #[Value.ref b] s = true
/-! THE LAW over the static world, behind the constructors -/
def OkL (X : Cx) (G : Gl) (bq Lq : Nat) (xv : Nat → Int32) (ncq nsq : Nat) : Prop :=
  (xp X).tables.exec = Jvm.exec ∧ (xc X).code = code ∧ (xc X).maxLocals = 4 ∧ (xs X).vm.findClass R_law = some (xm X).cls ∧ (∀ w ∈ TT, w.before (xa X) (xs X) = true) ∧ va_K G.1 classes (tysG G) (xs X) ∧ inj85 G ∧ xR X = room_1 ∧ va_X bq Lq xv (xs X) (xs X).heap ∧ bq < (xs X).heap.size ∧ (∀ q, Ad G q → (xs X).heap.size ≤ q) ∧ ncq ≤ 600000 ∧ nsq ≤ 7302250 ∧ Lq ≤ 2560 ∧ (xh X).locks = false ∧ (xh X).sig.returnType = ret ∧ xa X = #[Value.ref bq] ∧ xQ X = lw_Z (xb X) #[Value.ref bq] (xs X)
def WT (X : Cx) (G : Gl) (ncq nsq : Nat) (σ : Sto) (pc : Nat) (lv : List (Nat × Value)) (st : List Value) : Prop :=
  ∀ (H : Heap) (locs : List Loc) (ls : Array Slot), va_P G.1 classes (wld G σ) H → va_S (fun q : Nat => (xs X).heap.size ≤ q) (xs X).heap H locs → lv_has ls 4 lv → W (xp X) (xl X) (xe X) (xR X) (xs X) (xm X) (xa X) (xb X) (xh X) (xc X) H locs ncq nsq (xQ X) (F0 (xm X) pc ls st)
section TW
variable {X : Cx} {G : Gl} {bq Lq ncq nsq : Nat} {xv : Nat → Int32} {σ : Sto} {pc : Nat} {lv : List (Nat × Value)} {st st' : List Value}
theorem tw_aload (o : OkL X G bq Lq xv ncq nsq) {k : Fin 4} {x : Nat} (d : decode code pc = .ok (.aload_n k, 1)) (j : Nat) (hj : lv[j]? = some ((k : Nat), .ref x)) (kk : WT X G ncq nsq σ (pc + 1) lv (.ref x :: st)) : WT X G ncq nsq σ pc lv st := fun H locs ls hP hS h => lv_aload_n o.1 o.2.1 d rfl (lv_at h j hj) (kk H locs ls hP hS h)
theorem tw_iload (o : OkL X G bq Lq xv ncq nsq) {k : Fin 4} {x : Int32} (d : decode code pc = .ok (.iload_n k, 1)) (j : Nat) (hj : lv[j]? = some ((k : Nat), .int x)) (kk : WT X G ncq nsq σ (pc + 1) lv (.int x :: st)) : WT X G ncq nsq σ pc lv st := fun H locs ls hP hS h => lv_iload_n o.1 o.2.1 d rfl (lv_at h j hj) (kk H locs ls hP hS h)
theorem tw_iconst (o : OkL X G bq Lq xv ncq nsq) {n : Int} {v : Int32} (d : decode code pc = .ok (.iconst n, 1)) (hv : Int32.ofInt n = v) (k : WT X G ncq nsq σ (pc + 1) lv (.int v :: st)) : WT X G ncq nsq σ pc lv st := fun H locs ls hP hS h => lv_iconst o.1 o.2.1 d hv (k H locs ls hP hS h)
theorem tw_bipush (o : OkL X G bq Lq xv ncq nsq) {n : Int} {v : Int32} (d : decode code pc = .ok (.bipush n, 2)) (hv : (Int8.ofInt n).toInt32 = v) (k : WT X G ncq nsq σ (pc + 2) lv (.int v :: st)) : WT X G ncq nsq σ pc lv st := fun H locs ls hP hS h => lv_bipush o.1 o.2.1 d hv (k H locs ls hP hS h)
theorem tw_iadd (o : OkL X G bq Lq xv ncq nsq) {x y z : Int32} (d : decode code pc = .ok (.iadd, 1)) (hz : x + y = z) (k : WT X G ncq nsq σ (pc + 1) lv (.int z :: st)) : WT X G ncq nsq σ pc lv (.int y :: .int x :: st) := fun H locs ls hP hS h => by subst hz; exact lv_iadd o.1 o.2.1 d (k H locs ls hP hS h)
theorem tw_isub (o : OkL X G bq Lq xv ncq nsq) {x y : Int32} (d : decode code pc = .ok (.isub, 1)) (k : WT X G ncq nsq σ (pc + 1) lv (.int (x - y) :: st)) : WT X G ncq nsq σ pc lv (.int y :: .int x :: st) := fun H locs ls hP hS h => lv_isub o.1 o.2.1 d (k H locs ls hP hS h)
theorem tw_iand (o : OkL X G bq Lq xv ncq nsq) {x y : Int32} (d : decode code pc = .ok (.iand, 1)) (k : WT X G ncq nsq σ (pc + 1) lv (.int (x &&& y) :: st)) : WT X G ncq nsq σ pc lv (.int y :: .int x :: st) := fun H locs ls hP hS h => lv_iand o.1 o.2.1 d (k H locs ls hP hS h)
theorem tw_lcmp (o : OkL X G bq Lq xv ncq nsq) {x y : Int64} (d : decode code pc = .ok (.lcmp, 1)) (k : WT X G ncq nsq σ (pc + 1) lv (.int (lg_cmp x y) :: st)) : WT X G ncq nsq σ pc lv (.long y :: .long x :: st) := fun H locs ls hP hS h => W.lcmp o.1 o.2.1 d (k H locs ls hP hS h)
theorem tw_if_eq (o : OkL X G bq Lq xv ncq nsq) {x : Int32} {off : Int} {tgt : Nat} (d : decode code pc = .ok (.ifCond .eq off, 3)) (ht : (pc : Int) + off = (tgt : Int)) (kt : x = 0 → WT X G ncq nsq σ tgt lv st) (kf : ¬ x = 0 → WT X G ncq nsq σ (pc + 3) lv st) : WT X G ncq nsq σ pc lv (.int x :: st) := fun H locs ls hP hS h => lv_if_eq o.1 o.2.1 d ht (fun z => kt z H locs ls hP hS h) (fun z => kf z H locs ls hP hS h)
theorem tw_icmp_eq (o : OkL X G bq Lq xv ncq nsq) {x y : Int32} {off : Int} {tgt : Nat} (d : decode code pc = .ok (.if_icmp .eq off, 3)) (ht : (pc : Int) + off = (tgt : Int)) (kt : x = y → WT X G ncq nsq σ tgt lv st) (kf : ¬ x = y → WT X G ncq nsq σ (pc + 3) lv st) : WT X G ncq nsq σ pc lv (.int y :: .int x :: st) := fun H locs ls hP hS h => lv_icmp_eq o.1 o.2.1 d ht (fun z => kt z H locs ls hP hS h) (fun z => kf z H locs ls hP hS h)
theorem tw_icmp_gt (o : OkL X G bq Lq xv ncq nsq) {x y : Int32} {off : Int} {tgt : Nat} (d : decode code pc = .ok (.if_icmp .gt off, 3)) (ht : (pc : Int) + off = (tgt : Int)) (kt : y < x → WT X G ncq nsq σ tgt lv st) (kf : ¬ y < x → WT X G ncq nsq σ (pc + 3) lv st) : WT X G ncq nsq σ pc lv (.int y :: .int x :: st) := fun H locs ls hP hS h => lv_icmp_gt o.1 o.2.1 d ht (fun z => kt z H locs ls hP hS h) (fun z => kf z H locs ls hP hS h)
theorem tw_goto (o : OkL X G bq Lq xv ncq nsq) {off : Int} {tgt : Nat} (d : decode code pc = .ok (.goto off, 3)) (ht : (pc : Int) + off = (tgt : Int)) (k : WT X G ncq nsq σ tgt lv st) : WT X G ncq nsq σ pc lv st := fun H locs ls hP hS h => lv_goto o.1 o.2.1 d ht (k H locs ls hP hS h)
theorem tw_iinc (o : OkL X G bq Lq xv ncq nsq) {i : Nat} {n : Int} {x v : Int32} {lv' : List (Nat × Value)} (d : decode code pc = .ok (.iinc i n, 3)) (j : Nat) (hj : lv[j]? = some (i, .int x)) (hv : x + Int32.ofInt n = v) (hn : i < 4) (hl : (i, Value.int v) :: lv.filter (fun q => !(q.1 == i) && !(q.1 + 1 == i && q.2.category == 2)) = lv') (kk : WT X G ncq nsq σ (pc + 3) lv' st) : WT X G ncq nsq σ pc lv st := fun H locs ls hP hS h => lv_iinc o.1 o.2.1 d h hj hv hn hl (fun ls' h' => kk H locs ls' hP hS h')
theorem tw_tableIn (o : OkL X G bq Lq xv ncq nsq) {dflt lo hi : Int} {offs : Array Int} {len : Nat} {x : Int32} {off : Int} {tgt : Nat} (d : decode code pc = .ok (.tableswitch dflt lo hi offs, len)) (h1 : ¬ x.toInt < lo) (h2 : ¬ hi < x.toInt) (ho : offs[(x.toInt - lo).toNat]? = some off) (ht : (pc : Int) + off = (tgt : Int)) (k : WT X G ncq nsq σ tgt lv st) : WT X G ncq nsq σ pc lv (.int x :: st) := fun H locs ls hP hS h => lv_tableIn o.1 o.2.1 d h1 h2 ho ht (k H locs ls hP hS h)
theorem tw_tableOut (o : OkL X G bq Lq xv ncq nsq) {dflt lo hi : Int} {offs : Array Int} {len : Nat} {x : Int32} {tgt : Nat} (d : decode code pc = .ok (.tableswitch dflt lo hi offs, len)) (hh : x.toInt < lo ∨ hi < x.toInt) (ht : (pc : Int) + dflt = (tgt : Int)) (k : WT X G ncq nsq σ tgt lv st) : WT X G ncq nsq σ pc lv (.int x :: st) := fun H locs ls hP hS h => lv_tableOut o.1 o.2.1 d hh ht (k H locs ls hP hS h)
theorem OkL.notA (o : OkL X G bq Lq xv ncq nsq) : ¬ (fun q : Nat => (xs X).heap.size ≤ q) bq := Nat.not_le.mpr o.2.2.2.2.2.2.2.2.2.1
theorem tw_sld (o : OkL X G bq Lq xv ncq nsq) {kq : Nat} (hk : kq < Lq) (d : decode code pc = .ok (.iaload, 1)) (k : WT X G ncq nsq σ (pc + 1) lv (.int (xv kq) :: st)) : WT X G ncq nsq σ pc lv (.int (nI kq) :: .ref bq :: st) := fun H locs ls hP hS h => by
  have hL := o.2.2.2.2.2.2.2.2.2.2.2.2.2.1
  have e : (nI kq).toNatClampNeg = kq := nI_clamp (by omega)
  refine va_sld o.1 o.2.1 o.2.2.2.2.2.2.2.2.1 o.2.2.2.2.2.2.2.2.2.1 o.notA hS (vp_in_nI hk (by omega)) d ?_
  rw [e]
  exact k H locs ls hP hS h
theorem tw_slen (o : OkL X G bq Lq xv ncq nsq) (d : decode code pc = .ok (.arraylength, 1)) (k : WT X G ncq nsq σ (pc + 1) lv (.int (nI Lq) :: st)) : WT X G ncq nsq σ pc lv (.ref bq :: st) := fun H locs ls hP hS h => va_slen o.1 o.2.1 o.2.2.2.2.2.2.2.2.1 o.2.2.2.2.2.2.2.2.2.1 o.notA hS d (k H locs ls hP hS h)
/-- an argument out of the script -/
theorem tw_arg (o : OkL X G bq Lq xv ncq nsq) {iq kq j0 j3 : Nat} {n : Int} (hn : Int32.ofInt n = nI kq) (hk : iq + kq < Lq) (h0 : lv[j0]? = some (0, .ref bq)) (h3 : lv[j3]? = some (3, .int (nI iq))) (d0 : decode code pc = .ok (.aload_n 0, 1)) (d1 : decode code (pc + 1) = .ok (.iload_n 3, 1)) (d2 : decode code (pc + 2) = .ok (.iconst n, 1)) (d3 : decode code (pc + 3) = .ok (.iadd, 1)) (d4 : decode code (pc + 4) = .ok (.iaload, 1)) (k : WT X G ncq nsq σ (pc + 5) lv (.int (xv (iq + kq)) :: st)) : WT X G ncq nsq σ pc lv st :=
  tw_aload o d0 j0 h0 (tw_iload o d1 j3 h3 (tw_iconst o d2 hn (tw_iadd o d3 (nI_add' iq kq) (tw_sld o hk d4 k))))
theorem okM.cbL (o : OkL X G bq Lq xv ncq nsq) {y : MethodName} {cb : ByteArray} {mL idx : Nat} {ret : Option FieldType} {n F' Lo' : Nat} (om : okM y cb mL ret n) (hl : Cond.methodLink R_law idx y ∈ TT) (hR : F' + 1 ≤ 10 ∧ 8 + (mL + 11) + Lo' ≤ 382) : CallB (xR X) (xs X) (xa X) R_law idx y cb mL ret (Cond.code y cb mL ret :: TT) (rmO F' Lo') 0 0 n :=
  ⟨rfl, rfl, by rw [o.2.2.2.2.2.2.2.1]; exact hR.1, by rw [o.2.2.2.2.2.2.2.1]; exact hR.2, fun w hw a' U hW => by
    rcases List.mem_cons.mp hw with e | h
    · subst e; exact TT_pay o.2.2.2.2.1 _ om.1 a' U hW
    · exact TT_pay o.2.2.2.2.1 w h a' U hW, List.mem_cons_self, o.2.2.2.2.1 _ om.1, o.2.2.2.2.1 _ om.2.1, ⟨om.2.2.1.1, om.2.2.1.2.1⟩, om.sig, o.2.2.2.2.1 _ hl⟩
theorem tw_callI (o : OkL X G bq Lq xv ncq nsq) {y : MethodName} {cb : ByteArray} {mL idx n F' Lo' : Nat} {ret : Option FieldType} {As : List Value} {post : Int32 → Sto → Prop} {c ci : Nat} {fs : List Value} {q : vw_C} (ct : CtI (xl X) G y cb mL ret F' Lo' (.ref (gad G c) :: As) σ post) (om : okM y cb mL ret n) (hin : Cond.instanceMethod y ∈ TT) (hse : Cond.selects y.cls y y ∈ TT) (hlk : Cond.methodLink R_law idx y ∈ TT) (hc : c < 85) (he : cellE G c (σ c) = .inr (ci, fs)) (hcl : classes[ci]? = some q) (hq : q.1 = y.cls) (hR : F' + 1 ≤ 10 ∧ 8 + (mL + 11) + Lo' ≤ 382) (hlen : As.length = n) (hst : st' = As.reverse ++ .ref (gad G c) :: st) (hW : (st.map fun v => v.category).sum ≤ 8) (d : decode code pc = .ok (.invokevirtual idx, 3))
    (kk : ∀ (r : Int32) (σ' : Sto), post r σ' → WT X G ncq nsq σ' (pc + 3) lv (.int r :: st)) : WT X G ncq nsq σ pc lv st' := fun H locs ls hP hS h => by
  have hrm := o.2.2.2.2.2.2.2.1
  refine va_calli (pc := pc) (ls := ls) (st0 := st') (va_runV (C := y.cls) (As := As) (rest := st) (ret := ret) (bytes := cb) (maxL := mL) (n := n) (nL := 4) (cc := code) (Ts := TT) (own := R_law) ⟨o.1, o.2.1, o.2.2.1, o.2.2.2.1, o.2.2.2.2.1⟩ ct ⟨om.cbL o hlk hR, o.2.2.2.2.1 _ hin, o.2.2.2.2.1 _ hse⟩ ⟨Wd_blind, by rw [← hq]; exact va_recv o.2.2.2.2.2.1 hP hcl (q0 := c) (fs := fs) (by rw [wld_at hc, he]), fun U hU hW => ⟨rfl, by rw [hU]; exact hP, va_K.moved hW.alike o.2.2.2.2.2.1, o.2.2.2.2.2.2.1⟩⟩ rfl hlen h.1 hst (lv_room hW) d ⟨by rw [hrm]; exact o.2.2.2.2.2.2.2.2.2.2.2.1, by rw [hrm]; exact o.2.2.2.2.2.2.2.2.2.2.2.2.1⟩) hS (fun q _ h => o.2.2.2.2.2.2.2.2.2.2.1 q h) (fun q h => o.2.2.2.2.2.2.2.2.2.2.1 q h) (fun r u t H1 locs1 ht hvm hw hB hz1 hk1 hS1 => ?_)
  obtain ⟨hP1, -, -⟩ := hB
  rw [ht] at hP1
  exact kk r u hw H1 locs1 ls hP1 hS1 h
theorem tw_callL (o : OkL X G bq Lq xv ncq nsq) {y : MethodName} {cb : ByteArray} {mL idx n F' Lo' : Nat} {ret : Option FieldType} {As : List Value} {post : Int64 → Sto → Prop} {c ci : Nat} {fs : List Value} {q : vw_C} (ct : CtL (xl X) G y cb mL ret F' Lo' (.ref (gad G c) :: As) σ post) (om : okM y cb mL ret n) (hin : Cond.instanceMethod y ∈ TT) (hse : Cond.selects y.cls y y ∈ TT) (hlk : Cond.methodLink R_law idx y ∈ TT) (hc : c < 85) (he : cellE G c (σ c) = .inr (ci, fs)) (hcl : classes[ci]? = some q) (hq : q.1 = y.cls) (hR : F' + 1 ≤ 10 ∧ 8 + (mL + 11) + Lo' ≤ 382) (hlen : As.length = n) (hst : st' = As.reverse ++ .ref (gad G c) :: st) (hW : (st.map fun v => v.category).sum ≤ 8) (d : decode code pc = .ok (.invokevirtual idx, 3))
    (kk : ∀ (r : Int64) (σ' : Sto), post r σ' → WT X G ncq nsq σ' (pc + 3) lv (.long r :: st)) : WT X G ncq nsq σ pc lv st' := fun H locs ls hP hS h => by
  have hrm := o.2.2.2.2.2.2.2.1
  refine va_calll (pc := pc) (ls := ls) (st0 := st') (va_runV (C := y.cls) (As := As) (rest := st) (ret := ret) (bytes := cb) (maxL := mL) (n := n) (nL := 4) (cc := code) (Ts := TT) (own := R_law) ⟨o.1, o.2.1, o.2.2.1, o.2.2.2.1, o.2.2.2.2.1⟩ ct ⟨om.cbL o hlk hR, o.2.2.2.2.1 _ hin, o.2.2.2.2.1 _ hse⟩ ⟨Wd_blind, by rw [← hq]; exact va_recv o.2.2.2.2.2.1 hP hcl (q0 := c) (fs := fs) (by rw [wld_at hc, he]), fun U hU hW => ⟨rfl, by rw [hU]; exact hP, va_K.moved hW.alike o.2.2.2.2.2.1, o.2.2.2.2.2.2.1⟩⟩ rfl hlen h.1 hst (lv_room hW) d ⟨by rw [hrm]; exact o.2.2.2.2.2.2.2.2.2.2.2.1, by rw [hrm]; exact o.2.2.2.2.2.2.2.2.2.2.2.2.1⟩) hS (fun q _ h => o.2.2.2.2.2.2.2.2.2.2.1 q h) (fun q h => o.2.2.2.2.2.2.2.2.2.2.1 q h) (fun r u t H1 locs1 ht hvm hw hB hz1 hk1 hS1 => ?_)
  obtain ⟨hP1, -, -⟩ := hB
  rw [ht] at hP1
  exact kk r u hw H1 locs1 ls hP1 hS1 h
theorem tw_ret1 (o : OkL X G bq Lq xv ncq nsq) (d : decode code pc = .ok (.ireturn, 1)) : WT X G ncq nsq σ pc lv [.int 1] := fun H locs ls hP hS h => by
  obtain ⟨p, l, e, R, s, m, a, b, mh, c, Q⟩ := X
  obtain ⟨o1, o2, o3, o4, o5, o6, o7, o8, o9, o10, o11, o12, o13, o14, o15, o16, o17, o18⟩ := o
  dsimp only [xp, xl, xe, xR, xs, xm, xa, xb, xh, xc, xQ] at *
  subst o8; subst o17; subst o18
  refine va_forget (fun q hq => hS.2.2 q hq) ?_
  refine W.widen (k := 600000) (n := 7302250) o12 o13 ?_
  exact lw_ret o1 o2 o16 o15 d
/-- another store with the same cells -/
theorem tw_sto {σ' : Sto} (hs : ∀ H : Heap, va_P G.1 classes (wld G σ) H → va_P G.1 classes (wld G σ') H) (k : WT X G ncq nsq σ' pc lv st) : WT X G ncq nsq σ pc lv st := fun H locs ls hP hS h => k H locs ls (hs H hP) hS h
theorem tw_lv {lv' : List (Nat × Value)} (ks : List Nat) (hl : lv_pick lv ks = lv') (k : WT X G ncq nsq σ pc lv' st) : WT X G ncq nsq σ pc lv st := fun H locs ls hP hS h => k H locs ls hP hS (lv_sub h ks hl)
theorem tw_top {x y : Int32} (h : x = y) (k : WT X G ncq nsq σ pc lv (.int y :: st)) : WT X G ncq nsq σ pc lv (.int x :: st) := by subst h; exact k
end TW
