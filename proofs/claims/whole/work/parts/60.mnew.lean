/-! six rows of 24 ints by one instruction: the heap with a list of seven cells behind it -/
def mgO (cA : ClassId) (hq iq : Nat) : Cell := arrV cA 6 (fun jq => if jq < iq then Value.ref (hq + 1 + jq) else .null)
def mgI (cI : ClassId) : Cell := arrV cI 24 (fun _ => Value.int 0)
def mgL (cA cI : ClassId) (hq iq : Nat) : List Cell := mgO cA hq iq :: List.replicate iq (mgI cI)
def csz (cs : List Cell) : Nat := (cs.map (fun cq => cq.slots.size)).sum
def adC (Tq : State) (cs : List Cell) : State := { Tq with heap := Tq.heap ++ cs.toArray, slotsUsed := Tq.slotsUsed + csz cs }
theorem mgO_sz {cA : ClassId} {hq iq : Nat} : (mgO cA hq iq).slots.size = 6 := arrV_size _ _ _
theorem mgI_sz {cI : ClassId} : (mgI cI).slots.size = 24 := arrV_size _ _ _
theorem csz_mgL {cA cI : ClassId} {hq iq : Nat} : csz (mgL cA cI hq iq) = 6 + iq * 24 := by
  simp [csz, mgL, mgO_sz, mgI_sz]
theorem len_mgL {cA cI : ClassId} {hq iq : Nat} : (mgL cA cI hq iq).length = iq + 1 := by
  simp [mgL]
theorem adC_cons (Tq : State) (cq : Cell) (cs : List Cell) : adC Tq (cq :: cs) = adC (Tq.pushCell cq) cs := by
  simp [adC, csz, State.pushCell, Nat.add_assoc]
theorem adC_snoc (Tq : State) (cs : List Cell) (cq : Cell) : (adC Tq cs).pushCell cq = adC Tq (cs ++ [cq]) := by
  simp [adC, csz, State.pushCell, Nat.add_assoc]
theorem adC_put (Tq : State) {cq cr : Cell} (cs : List Cell) (hz : cq.slots.size = cr.slots.size) : (adC Tq (cq :: cs)).setCell Tq.heap.size cr = adC Tq (cr :: cs) := by
  have hh : (Tq.heap ++ (cq :: cs).toArray).setIfInBounds Tq.heap.size cr = Tq.heap ++ (cr :: cs).toArray := by
    apply Array.ext'
    simp [List.set_append]
  unfold adC State.setCell csz
  simp only [hh, List.map_cons, List.sum_cons, hz]
theorem adC_nil (Tq : State) : adC Tq [] = Tq := by
  simp [adC, csz]
theorem adC_top (Tq : State) (gq : JFrame) (cs : List Cell) : adC (Tq.setTop gq) cs = (adC Tq cs).setTop gq := rfl
theorem adH_old (H : Heap) (cs : List Cell) {aq : Nat} (h : aq < H.size) : (H ++ cs.toArray)[aq]? = H[aq]? := Array.getElem?_append_left h
theorem adH_new (H : Heap) (cs : List Cell) (kq : Nat) : (H ++ cs.toArray)[H.size + kq]? = cs[kq]? := by
  rw [Array.getElem?_append_right (Nat.le_add_right _ _), Nat.add_sub_cancel_left]
  simp
theorem mgH_out (H : Heap) (cA cI : ClassId) (hq iq : Nat) : (H ++ (mgL cA cI hq iq).toArray)[H.size]? = some (mgO cA hq iq) := adH_new H (mgL cA cI hq iq) 0
theorem mgH_in (H : Heap) (cA cI : ClassId) (hq iq : Nat) {jq : Nat} (h : jq < iq) : (H ++ (mgL cA cI hq iq).toArray)[H.size + 1 + jq]? = some (mgI cI) := by
  rw [Nat.add_assoc, adH_new, Nat.add_comm 1 jq]
  simp [mgL, h]
theorem mgH_sz (H : Heap) (cA cI : ClassId) (hq iq : Nat) : (H ++ (mgL cA cI hq iq).toArray).size = H.size + (iq + 1) := Array.size_append.trans (congrArg (H.size + ·) len_mgL)
/-! the cell of rows with one place more -/
theorem mgO_up {cA : ClassId} {hq iq : Nat} : (mgO cA hq iq).setSlot iq (.ref (hq + 1 + iq)) = mgO cA hq (iq + 1) := by
  unfold mgO
  rw [arrV_store]
  refine congrArg (arrV cA 6) (funext (fun jq => ?_))
  rcases Nat.lt_trichotomy jq iq with h | h | h
  · simp [updV, h, Nat.ne_of_lt h, Nat.lt_succ_of_lt h]
  · simp [updV, h]
  · simp [updV, Nat.ne_of_gt h, Nat.not_lt_of_gt h, show ¬ jq < iq + 1 by omega]
section MW
variable {Eq : CtlPost} {e : Env} {dq : Bool} {acts : List Action} {s : State} {cA cI c2 : ClassId} {kA kC : Class}
theorem wp_row (hkC : s.vm.classes[cI]? = some kC) (hkindC : kC.kind = .array c2 .int) (hl : 24 ≤ e.platform.arrayLengthLimit) (hh : 96 ≤ e.platform.maxHeapBytes) (h1 : s.heap.size < e.platform.maxCells) (h2 : s.slotsUsed + 24 ≤ e.platform.maxSlots) {Qq : Addr → Pre} (hq : ∀ acts', Qq s.heap.size dq acts' (s.pushCell (mgI cI))) : wp (multianewarray.make cI [24]) Qq Eq e dq acts s := by
  have hI : mgI cI = { cls := cI, slots := Array.replicate (24 : Int32).toNatClampNeg (defaultValue .int) } := (arrV_new cI 24 (.int 0)).symm
  rw [hI] at hq
  unfold multianewarray.make
  simp only [wp_bind', W.ite, W.theClass, wp_pure', hkC, Option.some.injEq, exists_eq_left', hkindC]
  rw [if_neg (by decide)]
  exact W.newArray_of hkC hkindC (Nat.not_lt.mpr hl) (Nat.not_lt.mpr hh) h1 h2 rfl hq
/-! one turn of the loop: a row more behind the heap, its address into the cell of rows -/
theorem wp_turn {iq : Nat} (hi : iq < 6) (hkA : s.vm.classes[cA]? = some kA) (hkindA : kA.kind = .array cI (.array .int)) (hkC : s.vm.classes[cI]? = some kC) (hkindC : kC.kind = .array c2 .int) (hl : 24 ≤ e.platform.arrayLengthLimit) (hh : 96 ≤ e.platform.maxHeapBytes) (h1 : s.heap.size + 7 ≤ e.platform.maxCells) (h2 : s.slotsUsed + 150 ≤ e.platform.maxSlots) {Qq : ForInStep PUnit → Pre} (hq : ∀ d' acts', Qq (.yield PUnit.unit) d' acts' (adC s (mgL cA cI s.heap.size (iq + 1)))) : wp (do let aq ← multianewarray.make cI [24]; Jvm.writeLoc s.heap.size iq (.ref aq); Pure.pure (ForInStep.yield PUnit.unit)) Qq Eq e dq acts (adC s (mgL cA cI s.heap.size iq)) := by
  have hz : (adC s (mgL cA cI s.heap.size iq)).heap.size = s.heap.size + (iq + 1) := mgH_sz s.heap cA cI s.heap.size iq
  have hu : (adC s (mgL cA cI s.heap.size iq)).slotsUsed = s.slotsUsed + (6 + iq * 24) := congrArg (s.slotsUsed + ·) csz_mgL
  have hrep : List.replicate iq (mgI cI) ++ [mgI cI] = List.replicate (iq + 1) (mgI cI) := List.replicate_succ'.symm
  have hs1 : (adC s (mgL cA cI s.heap.size iq)).pushCell (mgI cI) = adC s (mgO cA s.heap.size iq :: List.replicate (iq + 1) (mgI cI)) := by
    rw [adC_snoc, ← hrep]
    rfl
  rw [wp_bind']
  refine wp_row (s := adC s (mgL cA cI s.heap.size iq)) (kC := kC) hkC hkindC hl hh (by rw [hz]; omega) (by rw [hu]; omega) (fun acts' => ?_)
  rw [hs1, hz]
  simp only [wp_bind', W.writeLoc, wp_pure']
  refine ⟨mgO cA s.heap.size iq, adH_new s.heap _ 0, (fun z => by cases z), (by rw [mgO_sz]; exact hi), ?_, ?_⟩
  · show State.fitsSlot _ cA .none iq (.ref _) = true
    simp only [State.fitsSlot, State.slotType?]
    rw [show (adC s (mgO cA s.heap.size iq :: List.replicate (iq + 1) (mgI cI))).vm.classes[cA]? = some kA from hkA]
    rw [Option.bind_eq_bind, Option.bind_some, hkindA]
    rfl
  · rw [show s.heap.size + (iq + 1) = s.heap.size + 1 + iq by omega, mgO_up, adC_put s _ (mgO_sz.trans mgO_sz.symm)]
    exact hq _ _
theorem wp_rows6 (hkA : s.vm.classes[cA]? = some kA) (hkindA : kA.kind = .array cI (.array .int)) (hkC : s.vm.classes[cI]? = some kC) (hkindC : kC.kind = .array c2 .int) (hl : 24 ≤ e.platform.arrayLengthLimit) (hh : 96 ≤ e.platform.maxHeapBytes) (h1 : s.heap.size + 7 ≤ e.platform.maxCells) (h2 : s.slotsUsed + 150 ≤ e.platform.maxSlots) {Qq : Addr → Pre} (hq : ∀ d' acts', Qq s.heap.size d' acts' (adC s (mgL cA cI s.heap.size 6))) : wp (multianewarray.make cA [6, 24]) Qq Eq e dq acts s := by
  have hO : ({ cls := cA, slots := Array.replicate (6 : Int32).toNatClampNeg Value.null } : Cell) = mgO cA s.heap.size 0 := by
    refine (arrV_new cA 6 .null).trans (congrArg (arrV cA 6) (funext (fun jq => ?_)))
    exact (if_neg (Nat.not_lt_zero jq)).symm
  have h0 : s.pushCell (mgO cA s.heap.size 0) = adC s (mgL cA cI s.heap.size 0) := by
    rw [show mgL cA cI s.heap.size 0 = [mgO cA s.heap.size 0] from rfl, adC_cons, adC_nil]
  unfold multianewarray.make
  simp only [wp_bind', W.ite, W.theClass, wp_pure', hkA, Option.some.injEq, exists_eq_left', hkindA]
  rw [if_neg (by decide)]
  refine W.newArray_of hkA hkindA (by show ¬ 6 > _; omega) (by show ¬ 6 * 4 > _; omega) (by omega) (by show _ + 6 ≤ _; omega) rfl (fun acts' => ?_)
  rw [hO, h0, if_neg (by decide), wp_bind', Std.Legacy.Range.forIn_eq_forIn_range']
  show wp (forIn [0, 1, 2, 3, 4, 5] PUnit.unit _) _ Eq e dq acts' _
  rw [List.forIn_cons, wp_bind']
  refine wp_turn (iq := 0) (by decide) hkA hkindA hkC hkindC hl hh h1 h2 (fun _ _ => ?_)
  dsimp only
  rw [List.forIn_cons, wp_bind']
  refine wp_turn (iq := 1) (by decide) hkA hkindA hkC hkindC hl hh h1 h2 (fun _ _ => ?_)
  dsimp only
  rw [List.forIn_cons, wp_bind']
  refine wp_turn (iq := 2) (by decide) hkA hkindA hkC hkindC hl hh h1 h2 (fun _ _ => ?_)
  dsimp only
  rw [List.forIn_cons, wp_bind']
  refine wp_turn (iq := 3) (by decide) hkA hkindA hkC hkindC hl hh h1 h2 (fun _ _ => ?_)
  dsimp only
  rw [List.forIn_cons, wp_bind']
  refine wp_turn (iq := 4) (by decide) hkA hkindA hkC hkindC hl hh h1 h2 (fun _ _ => ?_)
  dsimp only
  rw [List.forIn_cons, wp_bind']
  refine wp_turn (iq := 5) (by decide) hkA hkindA hkC hkindC hl hh h1 h2 (fun _ _ => ?_)
  dsimp only
  rw [List.forIn_nil, wp_pure', wp_pure']
  exact hq _ _
/-! the instruction itself: the class is linked, two counts are taken, the address is left -/
theorem wp_sem6 {fq : JFrame} {index : Nat} {vmq : Vm} {rq : List Value} (hs : s.topJava?.isSome) (hgv : (Jvm.resolveClass fq.method.cls index).Gives e.toSetting s.vm (.ok cA) vmq) (hsz : vmq.classes.size ≤ s.vm.classes.size) (hst : fq.stack = .int 24 :: .int 6 :: rq) (hkA : vmq.classes[cA]? = some kA) (hkindA : kA.kind = .array cI (.array .int)) (hkC : vmq.classes[cI]? = some kC) (hkindC : kC.kind = .array c2 .int) (hl : 24 ≤ e.platform.arrayLengthLimit) (hh : 96 ≤ e.platform.maxHeapBytes) (h1 : s.heap.size + 7 ≤ e.platform.maxCells) (h2 : s.slotsUsed + 150 ≤ e.platform.maxSlots) {Qq : Unit → Pre} (hq : ∀ d' acts', Qq () d' acts' ((adC (s.setVm vmq) (mgL cA cI s.heap.size 6)).setTop { fq with stack := .ref s.heap.size :: rq })) : wp (multianewarray.sem index 2) Qq Eq e dq acts (s.setTop fq) := by
  have hs2 : (adC (s.setVm vmq) (mgL cA cI s.heap.size 6)).topJava?.isSome := hs
  unfold multianewarray.sem
  rw [wp_bind', W.resolveClassAt_links (State.method?_setTop fq hs) hgv hsz, wp_bind']
  refine (popN_top (s := s.setVm vmq) (f := fq) (args := [.int 6, .int 24]) (rest := rq) hs hst).mpr ?_
  show wp _ Qq Eq e true acts _
  rw [wp_bind', List.mapM_cons, List.mapM_cons, List.mapM_nil]
  simp only [wp_bind', wp_pure']
  refine wp_rows6 (s := (s.setVm vmq).setTop { fq with stack := rq }) (kA := kA) (kC := kC) (c2 := c2) hkA hkindA hkC hkindC hl hh h1 h2 (fun d' acts' => ?_)
  refine ⟨_, State.topJava?_setTop' (s := adC (s.setVm vmq) (mgL cA cI s.heap.size 6)) _ hs2, ?_⟩
  have hq2 := hq true acts'
  rw [← State.setTop_setTop _ { fq with stack := rq }] at hq2
  exact hq2
end MW
section MG
variable {p : Program} {l : Launch} {e : Env} {R : Room} {s : State} {m : MethodId} {args : Array Value} {below : List Frame} {meth : Method} {c : Code} {H : Heap} {locs : List Loc} {Q : State → Prop}
theorem adC_X : ∀ (cs : List Cell) {Tq : State} {cells slots : Nat}, Stand p l e R s m args below meth c Tq locs cells slots → Stand p l e R s m args below meth c (adC Tq cs) locs (cells + cs.length) (slots + csz cs)
  | [], Tq, cells, slots, X => by
    rw [adC_nil]
    exact X
  | cq :: cs, Tq, cells, slots, X => by
    have h := adC_X cs (X.pushed cq)
    rw [adC_cons, List.length_cons, show csz (cq :: cs) = cq.slots.size + csz cs from List.sum_cons, Nat.add_comm cs.length 1, ← Nat.add_assoc, ← Nat.add_assoc]
    exact h
set_option maxHeartbeats 4000000 in
theorem W.mnew {cells slots : Nat} {cc : ByteArray} (hexec : p.tables.exec = Jvm.exec) (hb : c.code = cc) {own nmA : String} {index : Nat} (hown : s.vm.findClass own = some m.cls) (hclink : (Cond.classLink own index nmA).before args s = true) {cA cI c2 : ClassId} {kA kC : Class} (hfA : s.vm.findClass nmA = some cA) (hkA : s.vm.classes[cA]? = some kA) (hkindA : kA.kind = .array cI (.array .int)) (hkC : s.vm.classes[cI]? = some kC) (hkindC : kC.kind = .array c2 .int)
    {pc : Nat} {ls : Array Slot} {rest : List Value} (hdg : decode cc pc = .ok (.multianewarray index 2, 4)) (hcells : cells + 7 ≤ R.cells) (hslots : slots + 150 ≤ R.slots)
    (kk : W p l e R s m args below meth c (H ++ (mgL cA cI H.size 6).toArray) locs (cells + 7) (slots + 150) Q (F0 m (pc + 4) ls (.ref H.size :: rest))) : W p l e R s m args below meth c H locs cells slots Q (F0 m pc ls (.int 24 :: .int 6 :: rest)) := by
  intro T hT X
  subst hT; subst hb
  obtain ⟨cq, hfc, hcl⟩ := Cond.classLink_spec hown hclink e.platform (by rw [X.admits.platform])
  cases hfA.symm.trans hfc
  obtain ⟨hgv, hwarm, -⟩ := State.classEntry (e := e) X.warmed hcl
  generalize T.vm.noted m.cls index (.cls cA) = vmq at hgv hwarm
  obtain ⟨kA1, hkA1, heA⟩ := hwarm.alike.2.2 _ _ hkA
  obtain ⟨kC1, hkC1, heC⟩ := hwarm.alike.2.2 _ _ hkC
  obtain ⟨hr1, hr2⟩ := X.roomAbove hcells hslots
  have XF := adC_X (mgL cA cI (T.setVm vmq).heap.size 6) (X.noted hwarm)
  rw [len_mgL, csz_mgL] at XF
  obtain ⟨t, a1, b1⟩ := kk (adC (T.setVm vmq) (mgL cA cI (T.setVm vmq).heap.size 6)) rfl XF
  refine ⟨t, ?_, b1⟩
  jvm_step X.here [hexec, hdg]
  refine wp_sem6 (fq := F0 m pc ls (.int 24 :: .int 6 :: rest)) (kA := kA1) (kC := kC1) (c2 := c2) X.here.top hgv (by no_record) rfl hkA1 (by rw [heA]; exact hkindA) hkC1 (by rw [heC]; exact hkindC) (by rw [Launch.admits_arrayLengthLimit X.admits]; omega) (by rw [Launch.admits_maxHeapBytes X.admits]; omega) hr1 hr2 (fun d' acts' => ?_)
  simp [jvm, XF.here.top]
  exact a1
end MG
