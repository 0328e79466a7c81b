/-! six rows of 24 ints in one instruction -/
def mgO (cA : ClassId) (hq iq : Nat) : Cell := arrV cA 6 (fun jq => if jq < iq then Value.ref (hq + 1 + jq) else .null)
def mgI (cI : ClassId) : Cell := arrV cI 24 (fun _ => Value.int 0)
def mgF (Tq : State) (cA cI : ClassId) : Nat → State
  | 0 => Tq.pushCell (mgO cA Tq.heap.size 0)
  | iq + 1 => ((mgF Tq cA cI iq).pushCell (mgI cI)).setCell Tq.heap.size (mgO cA Tq.heap.size (iq + 1))
theorem mgO_s {cA : ClassId} {hq iq : Nat} : (mgO cA hq iq).setSlot iq (.ref (hq + 1 + iq)) = mgO cA hq (iq + 1) := by
  unfold mgO
  rw [arrV_store]
  congr 1
  funext jq
  by_cases e : jq = iq
  · subst e
    simp [updV]
  · simp only [updV, if_neg e]
    by_cases h : jq < iq
    · rw [if_pos h, if_pos (by omega)]
    · rw [if_neg h, if_neg (by omega)]
theorem mgO_sz {cA : ClassId} {hq iq : Nat} : (mgO cA hq iq).slots.size = 6 := arrV_size _ _ _
theorem mgI_sz {cI : ClassId} : (mgI cI).slots.size = 24 := arrV_size _ _ _
theorem mgF_f (Tq : State) (cA cI : ClassId) : ∀ iq, (mgF Tq cA cI iq).heap.size = Tq.heap.size + 1 + iq ∧ (mgF Tq cA cI iq).heap[Tq.heap.size]? = some (mgO cA Tq.heap.size iq) ∧ (mgF Tq cA cI iq).vm = Tq.vm ∧ (mgF Tq cA cI iq).slotsUsed = Tq.slotsUsed + 6 + iq * 24
  | 0 => by
    refine ⟨?_, ?_, rfl, ?_⟩
    · simp [mgF]
    · exact State.heap_pushCell_size _ _
    · simp [mgF, mgO_sz]
  | iq + 1 => by
    obtain ⟨a1, a2, a3, a4⟩ := mgF_f Tq cA cI iq
    have hlt : Tq.heap.size < (mgF Tq cA cI iq).heap.size := by omega
    have hb : ((mgF Tq cA cI iq).pushCell (mgI cI)).heap[Tq.heap.size]? = some (mgO cA Tq.heap.size iq) := by rw [State.heap_pushCell_of_lt (h := hlt)]; exact a2
    refine ⟨?_, State.heap_setCell_self hb, ?_, ?_⟩
    · simp [mgF, State.setCell, a1]; omega
    · simp [mgF, a3]
    · simp [mgF, a4, mgI_sz]; omega
theorem mgF_top (Tq : State) (gq : JFrame) (cA cI : ClassId) : ∀ iq, mgF (Tq.setTop gq) cA cI iq = (mgF Tq cA cI iq).setTop gq
  | 0 => rfl
  | iq + 1 => by
    have ih := mgF_top Tq gq cA cI iq
    show ((mgF (Tq.setTop gq) cA cI iq).pushCell (mgI cI)).setCell (Tq.setTop gq).heap.size (mgO cA (Tq.setTop gq).heap.size (iq + 1)) = _
    rw [ih, State.heap_setTop, State.pushCell_setTop, State.setCell_setTop]
    rfl
theorem mgF_old (Tq : State) (cA cI : ClassId) {aq : Nat} (ha : aq < Tq.heap.size) : ∀ iq, (mgF Tq cA cI iq).heap[aq]? = Tq.heap[aq]?
  | 0 => State.heap_pushCell_of_lt _ _ ha
  | iq + 1 => by
    have f1 := (mgF_f Tq cA cI iq).1
    have hlt : aq < (mgF Tq cA cI iq).heap.size := by omega
    show (((mgF Tq cA cI iq).pushCell (mgI cI)).setCell Tq.heap.size _).heap[aq]? = _
    rw [State.heap_setCell_other (Nat.ne_of_gt ha), State.heap_pushCell_of_lt (h := hlt)]
    exact mgF_old Tq cA cI ha iq
theorem mgF_in (Tq : State) (cA cI : ClassId) : ∀ iq jq, jq < iq → (mgF Tq cA cI iq).heap[Tq.heap.size + 1 + jq]? = some (mgI cI)
  | 0, jq, h => absurd h (Nat.not_lt_zero jq)
  | iq + 1, jq, h => by
    have f1 := (mgF_f Tq cA cI iq).1
    show (((mgF Tq cA cI iq).pushCell (mgI cI)).setCell Tq.heap.size _).heap[Tq.heap.size + 1 + jq]? = _
    rw [State.heap_setCell_other (show Tq.heap.size ≠ Tq.heap.size + 1 + jq by omega)]
    rcases Nat.lt_or_ge jq iq with q | q
    · have hlt : Tq.heap.size + 1 + jq < (mgF Tq cA cI iq).heap.size := by rw [f1]; omega
      rw [State.heap_pushCell_of_lt (h := hlt)]
      exact mgF_in Tq cA cI iq jq q
    · rw [show jq = iq by omega, ← f1]
      exact State.heap_pushCell_size _ _
theorem ref_fit {vq : Value} (h : vq = .null ∨ ∃ aq, vq = .ref aq) : fits (.array .int) vq = true := by
  rcases h with rfl | ⟨aq, rfl⟩ <;> rfl
section MW
variable {Eq : CtlPost} {e : Env} {dq : Bool} {acts : List Action} {s : State} {cA cI c2 : ClassId} {kA kC : Class}
theorem mg_0 {cA : ClassId} {hq : Nat} : ({ cls := cA, slots := Array.replicate 6 .null } : Cell) = mgO cA hq 0 := by
  have h := arrV_new cA 6 .null
  unfold mgO
  rw [show (fun jq => if jq < 0 then Value.ref (hq + 1 + jq) else .null) = (fun _ : Nat => Value.null) from funext (fun jq => if_neg (Nat.not_lt_zero jq))]
  exact h
theorem mg_i {cI : ClassId} : ({ cls := cI, slots := Array.replicate 24 (.int 0) } : Cell) = mgI cI := arrV_new cI 24 (.int 0)
theorem wp_mk1 (hkC : s.vm.classes[cI]? = some kC) (hkindC : kC.kind = .array c2 .int) (hl : 24 ≤ e.platform.arrayLengthLimit) (hh : 96 ≤ e.platform.maxHeapBytes) (h1 : s.heap.size < e.platform.maxCells) (h2 : s.slotsUsed + 24 ≤ e.platform.maxSlots) {Q : Addr → Pre} (hq : ∀ acts', Q s.heap.size dq acts' (s.pushCell (mgI cI))) : wp (multianewarray.make cI [24]) Q Eq e dq acts s := by
  rw [multianewarray.make]
  simp only [wp_bind', W.ite, show ¬ (24 : Int32) < 0 by decide, if_false, wp_pure', W.theClass, hkC, hkindC, Option.some.injEq, exists_eq_left']
  refine W.newArray_of hkC hkindC ?_ ?_ h1 ?_ rfl (fun acts' => ?_)
  · show ¬ 24 > _; omega
  · show ¬ 24 * 4 > _; omega
  · show _ + 24 ≤ _; omega
  · have h := hq acts'
    rw [← mg_i] at h
    exact h
theorem wp_mk2 (hkA : s.vm.classes[cA]? = some kA) (hkindA : kA.kind = .array cI (.array .int)) (hkC : s.vm.classes[cI]? = some kC) (hkindC : kC.kind = .array c2 .int) (hl : 24 ≤ e.platform.arrayLengthLimit) (hh : 96 ≤ e.platform.maxHeapBytes) (h1 : s.heap.size + 7 ≤ e.platform.maxCells) (h2 : s.slotsUsed + 150 ≤ e.platform.maxSlots) {Q : Addr → Pre} (hq : ∀ d' acts', Q s.heap.size d' acts' (mgF s cA cI 6)) : wp (multianewarray.make cA [6, 24]) Q Eq e dq acts s := by
  rw [multianewarray.make]
  simp only [wp_bind', W.ite, show ¬ (6 : Int32) < 0 by decide, if_false, wp_pure', W.theClass, hkA, hkindA, Option.some.injEq, exists_eq_left']
  refine W.newArray_of hkA hkindA ?_ ?_ (by omega) ?_ (ref_fit (Or.inl rfl)) (fun acts' => ?_)
  · show ¬ 6 > _; omega
  · show ¬ 6 * 4 > _; omega
  · show _ + 6 ≤ _; omega
  · rw [show (6 : Int32).toNatClampNeg = 6 from rfl, mg_0 (hq := s.heap.size), if_neg (by decide), wp_bind', Std.Legacy.Range.forIn_eq_forIn_range', show ([:6] : Std.Legacy.Range).size = 6 from rfl]
    show wp (forIn (List.range' 0 6 1) PUnit.unit _) _ Eq e dq acts' _
    refine wp_forIn_inv (fun restq s' => ∃ iq, iq ≤ 6 ∧ restq = List.range' iq (6 - iq) ∧ s' = mgF s cA cI iq) _ _ ⟨0, by omega, rfl, rfl⟩ ?_ ?_
    · rintro xq restq s' d' acts2 Q' ⟨iq, hi, hl2, rfl⟩ hnext
      have hlt : iq < 6 := by
        rcases Nat.lt_or_ge iq 6 with q | q
        · exact q
        · rw [show 6 - iq = 0 by omega] at hl2
          cases hl2
      rw [show 6 - iq = (6 - (iq + 1)) + 1 by omega, List.range'_succ] at hl2
      obtain ⟨rfl, hrest⟩ := List.cons.inj hl2
      obtain ⟨f1, f2, f3, f4⟩ := mgF_f s cA cI xq
      have hlt0 : s.heap.size < (mgF s cA cI xq).heap.size := by omega
      simp only [wp_bind']
      refine wp_mk1 (by rw [f3]; exact hkC) hkindC hl hh (by rw [f1]; omega) (by rw [f4]; omega) (fun acts3 => ?_)
      simp only [wp_bind', W.writeLoc, wp_pure']
      refine ⟨mgO cA s.heap.size xq, by rw [State.heap_pushCell_of_lt (h := hlt0)]; exact f2, (fun z => by cases z), by rw [mgO_sz]; exact hlt, ?_, hnext _ _ _ ⟨xq + 1, hlt, hrest, ?_⟩⟩
      · show ((mgF s cA cI xq).pushCell (mgI cI)).fitsSlot cA .none xq (.ref _) = true
        simp [State.fitsSlot, State.slotType?, f3, hkA, hkindA, ref_fit (Or.inr ⟨_, rfl⟩)]
      · rw [f1, mgO_s]
        rfl
    · rintro s' d' acts2 ⟨iq, hi, hl2, rfl⟩
      have h6 : iq = 6 := by
        rcases Nat.lt_or_ge iq 6 with q | q
        · rw [show 6 - iq = (6 - (iq + 1)) + 1 by omega, List.range'_succ] at hl2
          cases hl2
        · omega
      subst h6
      simp only [wp_pure']
      exact hq _ _
end MW
section MG
variable {p : Program} {l : Launch} {e : Env} {R : Room} {s : State} {m : MethodId} {args : Array Value} {below : List Frame} {meth : Method} {c : Code} {H : Heap} {locs : List Loc} {cells slots : Nat} {Q : State → Prop}
theorem mgF_X {Tq : State} (X : Stand p l e R s m args below meth c Tq locs cells slots) (cA cI : ClassId) : ∀ iq, Stand p l e R s m args below meth c (mgF Tq cA cI iq) (locs ++ (List.range iq).map fun jq => ⟨Tq.heap.size, jq⟩) (cells + 1 + iq) (slots + 6 + iq * 24)
  | 0 => by
    have h := X.pushed (mgO cA Tq.heap.size 0)
    rw [mgO_sz] at h
    simpa [mgF] using h
  | iq + 1 => by
    have ih := mgF_X X cA cI iq
    obtain ⟨f1, f2, f3, f4⟩ := mgF_f Tq cA cI iq
    have hlt : Tq.heap.size < (mgF Tq cA cI iq).heap.size := by omega
    have hb : ((mgF Tq cA cI iq).pushCell (mgI cI)).heap[Tq.heap.size]? = some (mgO cA Tq.heap.size iq) := by rw [State.heap_pushCell_of_lt (h := hlt)]; exact f2
    have h := (ih.pushed (mgI cI)).stored hb iq (.ref (Tq.heap.size + 1 + iq))
    rw [mgI_sz, mgO_s] at h
    rw [List.range_succ, List.map_append, ← List.append_assoc, show slots + 6 + (iq + 1) * 24 = slots + 6 + iq * 24 + 24 by omega]
    exact h
set_option maxHeartbeats 4000000 in
theorem W.mnew {cc : ByteArray} (hexec : p.tables.exec = Jvm.exec) (hb : c.code = cc) {own nmA : String} {index : Nat} (hown : s.vm.findClass own = some m.cls) (hclink : (Cond.classLink own index nmA).before args s = true) {cA cI c2 : ClassId} {kA kC : Class} (hfA : s.vm.findClass nmA = some cA) (hkA : s.vm.classes[cA]? = some kA) (hkindA : kA.kind = .array cI (.array .int)) (hkC : s.vm.classes[cI]? = some kC) (hkindC : kC.kind = .array c2 .int)
    {pc : Nat} {ls : Array Slot} {rest : List Value} (hdg : decode cc pc = .ok (.multianewarray index 2, 4)) (hcells : cells + 7 ≤ R.cells) (hslots : slots + 150 ≤ R.slots)
    (kk : ∀ Tq : State, Tq.heap = H → W p l e R s m args below meth c (mgF Tq cA cI 6).heap (locs ++ (List.range 6).map fun jq => ⟨H.size, jq⟩) (cells + 7) (slots + 150) Q (F0 m (pc + 4) ls (.ref H.size :: rest))) : W p l e R s m args below meth c H locs cells slots Q (F0 m pc ls (.int 24 :: .int 6 :: rest)) := by
  intro T hT X
  subst hT; subst hb
  have hpl : e.platform.magicAccessors = ({} : Platform).magicAccessors := by rw [X.admits.platform]
  obtain ⟨c0, hfc0, hcl⟩ := Cond.classLink_spec hown hclink e.platform hpl
  cases hfA.symm.trans hfc0
  obtain ⟨hg1, hwarm, hready⟩ := State.classEntry (e := e) X.warmed hcl
  generalize T.vm.noted m.cls index (.cls cA) = vmq at hg1 hwarm hready
  obtain ⟨kA1, hkA1, heA⟩ := hwarm.alike.2.2 _ _ hkA
  obtain ⟨kC1, hkC1, heC⟩ := hwarm.alike.2.2 _ _ hkC
  have hkindA1 : kA1.kind = .array cI (.array .int) := by rw [heA]; exact hkindA
  have hkindC1 : kC1.kind = .array c2 .int := by rw [heC]; exact hkindC
  have X1 := X.noted hwarm
  obtain ⟨hr1, hr2⟩ := X.roomAbove hcells hslots
  have hlim := Launch.admits_arrayLengthLimit X.admits
  have hmax := Launch.admits_maxHeapBytes X.admits
  have XF := mgF_X X1 cA cI 6
  obtain ⟨t, a1, b1⟩ := kk (T.setVm vmq) rfl (mgF (T.setVm vmq) cA cI 6) rfl XF
  refine ⟨t, ?_, b1⟩
  jvm_step X.here [hexec, hdg]
  simp only [multianewarray.sem, wp_bind', W.resolveClassAt_links (State.method?_setTop (F0 m pc ls (.int 24 :: .int 6 :: rest)) X.here.top) hg1]
  rw [W.popN, if_neg (by decide)]
  refine ⟨_, State.topJava?_setTop' (s := T.setVm vmq) _ X.here.top, [.int 6, .int 24], rest, rfl, rfl, ?_⟩
  simp only [List.mapM_cons, List.mapM_nil, wp_bind', wp_pure']
  refine wp_mk2 (kA := kA1) (kC := kC1) (c2 := c2) hkA1 hkindA1 hkC1 hkindC1 (by rw [hlim]; omega) (by rw [hmax]; omega) (by show T.heap.size + 7 ≤ _; omega) (by show T.slotsUsed + 150 ≤ _; omega) (fun d' acts' => ?_)
  have eS : ((T.setTop (F0 m pc ls (Value.int 24 :: Value.int 6 :: rest))).setVm vmq).setTop { method := m, pc := pc, locals := ls, stack := rest, locked := none } = (T.setVm vmq).setTop { method := m, pc := pc, locals := ls, stack := rest, locked := none } := by
    show ((T.setVm vmq).setTop _).setTop _ = _
    rw [State.setTop_setTop]
  rw [eS, mgF_top]
  simp only [wp_bind', W.mark, W.pushRef, State.topJava?_setTop' _ XF.here.top, Option.some.injEq, exists_eq_left', State.setTop_setTop, State.heap_setTop]
  intro acts3
  simp [jvm, XF.here.top]
  exact a1
end MG
