set_option maxHeartbeats 4000000 in
set_option maxRecDepth 100000 in
theorem c_X9_of (l : Launch) (G : Gl) (σ : Sto) (cntq : Nat) (prq : Nat) (trq : Nat) (hdr : DrO σ cntq prq trq) (tz : Int32) (wz : Int32) : CtI l G yX9_of cX9_of 3 (some .int) 1 21 [.ref (gad G 0), .int tz, .int wz] σ (fun r σ' => r = (if hasB cntq tz = false then -1 else if wz = nI 0 then (σ 27).1 tz.toNatClampNeg else if wz = nI 1 then (σ 28).1 tz.toNatClampNeg else if wz = nI 2 then (σ 29).1 tz.toNatClampNeg else if wz = nI 3 then b01 (prq.testBit tz.toNatClampNeg) else -2) ∧ σ' = σ) := by
  refine CtI.of (by decide +kernel) (Nat.le_of_ble_eq_true rfl) (fun X o q => ?_)
  show WS X G 3 σ 0 [(0, .ref (gad G 0)), (1, .int tz), (2, .int wz)] []
  obtain ⟨hcq, hcnt, hpr, hprl, htr, htrl⟩ := id hdr
  have hpr20 : prq < 1048576 := pow_up hprl hcnt
  refine r_aload_n o dX9_of_0 0 rfl ?_
  refine gf_0_9 o mw_245 dX9_of_1 ?_
  refine r_iload_n o dX9_of_4 1 rfl ?_
  refine r_callVI o (As := [.int tz]) (st := []) (c_X1_has (xl X) G σ cntq prq trq hdr tz) om_X1_has mw_596 mw_597 mw_595 (by decide) rfl rfl rfl (by decide) rfl rfl (Nat.le_of_ble_eq_true rfl) dX9_of_5 (fun rr5 σσ5 hp5 => ?_)
  obtain ⟨hp5, hp5b⟩ := hp5; replace hp5 := Eq.symm hp5; replace hp5b := Eq.symm hp5b; subst hp5; subst hp5b
  refine r_if_ne o (tgt := 13) dX9_of_8 (by decide) (fun hb8 => ?_) (fun hb8 => ?_)
  · skip
    rw [b01_ne0] at hb8
    obtain ⟨ht1, ht2⟩ := hasB_t hcnt hb8
    refine r_lv (lv' := [(0, .ref (gad G 0)), (1, .int (nI tz.toNatClampNeg)), (2, .int wz)]) (congrArg (fun zz => ([(0, .ref (gad G 0)), (1, .int zz), (2, .int wz)] : List (Nat × Value))) (ht1)) ?_
    refine r_iload_n o dX9_of_13 2 rfl ?_
    by_cases hs14_0 : wz = nI 0
    · skip
      refine r_topi (y := nI 0) (by rw [hs14_0]) ?_
      refine r_tableIn o (off := 30) (tgt := 44) dX9_of_14 (by decide) (by decide) rfl (by decide) ?_
      refine r_aload_n o dX9_of_44 0 rfl ?_
      refine gf_0_9 o mw_245 dX9_of_45 ?_
      refine gfN_9_0 o mw_195 dX9_of_48 ?_
      refine r_iload_n o dX9_of_51 1 rfl ?_
      refine r_ia o (by decide) ia_27 (f := (σ 27).1) rfl tz.toNatClampNeg rfl (by omega) (by decide) dX9_of_52 ?_
      exact r_ireturn o q dX9_of_53 (⟨by rw [if_neg (by rw [hb8]; decide), if_pos hs14_0], rfl⟩)
    by_cases hs14_1 : wz = nI 1
    · skip
      refine r_topi (y := nI 1) (by rw [hs14_1]) ?_
      refine r_tableIn o (off := 40) (tgt := 54) dX9_of_14 (by decide) (by decide) rfl (by decide) ?_
      refine r_aload_n o dX9_of_54 0 rfl ?_
      refine gf_0_9 o mw_245 dX9_of_55 ?_
      refine gfN_9_1 o mw_197 dX9_of_58 ?_
      refine r_iload_n o dX9_of_61 1 rfl ?_
      refine r_ia o (by decide) ia_28 (f := (σ 28).1) rfl tz.toNatClampNeg rfl (by omega) (by decide) dX9_of_62 ?_
      exact r_ireturn o q dX9_of_63 (⟨by rw [if_neg (by rw [hb8]; decide), if_neg hs14_0, if_pos hs14_1], rfl⟩)
    by_cases hs14_2 : wz = nI 2
    · skip
      refine r_topi (y := nI 2) (by rw [hs14_2]) ?_
      refine r_tableIn o (off := 50) (tgt := 64) dX9_of_14 (by decide) (by decide) rfl (by decide) ?_
      refine r_aload_n o dX9_of_64 0 rfl ?_
      refine gf_0_9 o mw_245 dX9_of_65 ?_
      refine gfN_9_2 o mw_199 dX9_of_68 ?_
      refine r_iload_n o dX9_of_71 1 rfl ?_
      refine r_ia o (by decide) ia_29 (f := (σ 29).1) rfl tz.toNatClampNeg rfl (by omega) (by decide) dX9_of_72 ?_
      exact r_ireturn o q dX9_of_73 (⟨by rw [if_neg (by rw [hb8]; decide), if_neg hs14_0, if_neg hs14_1, if_pos hs14_2], rfl⟩)
    by_cases hs14_3 : wz = nI 3
    · skip
      refine r_topi (y := nI 3) (by rw [hs14_3]) ?_
      refine r_tableIn o (off := 60) (tgt := 74) dX9_of_14 (by decide) (by decide) rfl (by decide) ?_
      refine r_aload_n o dX9_of_74 0 rfl ?_
      refine gf_0_9 o mw_245 dX9_of_75 ?_
      refine r_iload_n o dX9_of_78 1 rfl ?_
      refine r_callVI o (As := [.int (nI tz.toNatClampNeg)]) (st := []) (c_X1_isPrinted (xl X) G σ cntq prq trq hdr tz.toNatClampNeg (by omega)) om_X1_isPrinted mw_600 mw_601 mw_599 (by decide) rfl rfl rfl (by decide) rfl rfl (Nat.le_of_ble_eq_true rfl) dX9_of_79 (fun rr79 σσ79 hp79 => ?_)
      obtain ⟨hp79, hp79b⟩ := hp79; replace hp79 := Eq.symm hp79; replace hp79b := Eq.symm hp79b; subst hp79; subst hp79b
      refine r_if_eq o (tgt := 89) dX9_of_82 (by decide) (fun hb82 => ?_) (fun hb82 => ?_)
      · skip
        rw [b01_eq0] at hb82
        refine r_iconst o (v := nI 0) dX9_of_89 (by decide) ?_
        exact r_ireturn o q dX9_of_90 (⟨by rw [if_neg (by rw [hb8]; decide), if_neg hs14_0, if_neg hs14_1, if_neg hs14_2, if_pos hs14_3, hb82]; rfl, rfl⟩)
      · skip
        rw [b01_ne0] at hb82
        refine r_iconst o (v := nI 1) dX9_of_85 (by decide) ?_
        refine r_goto o (tgt := 90) dX9_of_86 (by decide) ?_
        exact r_ireturn o q dX9_of_90 (⟨by rw [if_neg (by rw [hb8]; decide), if_neg hs14_0, if_neg hs14_1, if_neg hs14_2, if_pos hs14_3, hb82]; rfl, rfl⟩)
    refine r_tableOut o (tgt := 91) dX9_of_14 (by have e0 := neN hs14_0 (by decide); have e1 := neN hs14_1 (by decide); have e2 := neN hs14_2 (by decide); have e3 := neN hs14_3 (by decide); omega) (by decide) ?_
    refine r_bipush o (v := (-2)) dX9_of_91 (by decide) ?_
    exact r_ireturn o q dX9_of_93 (⟨by rw [if_neg (by rw [hb8]; decide), if_neg hs14_0, if_neg hs14_1, if_neg hs14_2, if_neg hs14_3], rfl⟩)
  · skip
    rw [b01_eq0] at hb8
    refine r_iconst o (v := (-1)) dX9_of_11 (by decide) ?_
    exact r_ireturn o q dX9_of_12 (⟨by rw [if_pos hb8], rfl⟩)
set_option maxHeartbeats 4000000 in
set_option maxRecDepth 100000 in
theorem c_X9_print (l : Launch) (G : Gl) (σ : Sto) (cntq : Nat) (prq : Nat) (trq : Nat) (hdr : DrO σ cntq prq trq) (tz : Int32) (isq : Bool) : CtI l G yX9_print cX9_print 4 (some .int) 1 23 [.ref (gad G 0), .int tz, .int (b01 isq)] σ (fun r σ' => if hasB cntq tz = false then r = -1 ∧ σ' = σ else r = b01 (prq.testBit tz.toNatClampNeg) ∧ σ' = sti σ 9 4 (nI (if isq = true then prq ||| 1 * 2 ^ tz.toNatClampNeg else ndiff prq (1 * 2 ^ tz.toNatClampNeg)))) := by
  refine CtI.of (by decide +kernel) (Nat.le_of_ble_eq_true rfl) (fun X o q => ?_)
  show WS X G 4 σ 0 [(0, .ref (gad G 0)), (1, .int tz), (2, .int (b01 isq))] []
  obtain ⟨hcq, hcnt, hpr, hprl, htr, htrl⟩ := id hdr
  have hpr20 : prq < 1048576 := pow_up hprl hcnt
  refine r_aload_n o dX9_print_0 0 rfl ?_
  refine gf_0_9 o mw_245 dX9_print_1 ?_
  refine r_iload_n o dX9_print_4 1 rfl ?_
  refine r_callVI o (As := [.int tz]) (st := []) (c_X1_has (xl X) G σ cntq prq trq hdr tz) om_X1_has mw_596 mw_597 mw_595 (by decide) rfl rfl rfl (by decide) rfl rfl (Nat.le_of_ble_eq_true rfl) dX9_print_5 (fun rr5 σσ5 hp5 => ?_)
  obtain ⟨hp5, hp5b⟩ := hp5; replace hp5 := Eq.symm hp5; replace hp5b := Eq.symm hp5b; subst hp5; subst hp5b
  refine r_if_ne o (tgt := 13) dX9_print_8 (by decide) (fun hb8 => ?_) (fun hb8 => ?_)
  · skip
    rw [b01_ne0] at hb8
    obtain ⟨ht1, ht2⟩ := hasB_t hcnt hb8
    refine r_lv (lv' := [(0, .ref (gad G 0)), (1, .int (nI tz.toNatClampNeg)), (2, .int (b01 isq))]) (congrArg (fun zz => ([(0, .ref (gad G 0)), (1, .int zz), (2, .int (b01 isq))] : List (Nat × Value))) (ht1)) ?_
    refine r_aload_n o dX9_print_13 0 rfl ?_
    refine gf_0_9 o mw_245 dX9_print_14 ?_
    refine r_iload_n o dX9_print_17 1 rfl ?_
    refine r_callVI o (As := [.int (nI tz.toNatClampNeg)]) (st := []) (c_X1_isPrinted (xl X) G σ cntq prq trq hdr tz.toNatClampNeg (by omega)) om_X1_isPrinted mw_600 mw_601 mw_599 (by decide) rfl rfl rfl (by decide) rfl rfl (Nat.le_of_ble_eq_true rfl) dX9_print_18 (fun rr18 σσ18 hp18 => ?_)
    obtain ⟨hp18, hp18b⟩ := hp18; replace hp18 := Eq.symm hp18; replace hp18b := Eq.symm hp18b; subst hp18; subst hp18b
    refine r_if_eq o (tgt := 28) dX9_print_21 (by decide) (fun hb21 => ?_) (fun hb21 => ?_)
    · skip
      rw [b01_eq0] at hb21
      refine r_iconst o (v := nI 0) dX9_print_28 (by decide) ?_
      refine r_topi (y := b01 (prq.testBit tz.toNatClampNeg)) (by rw [hb21]; rfl) ?_
      refine r_istore_n o (lv' := [(3, .int (b01 (prq.testBit tz.toNatClampNeg))), (0, .ref (gad G 0)), (1, .int (nI tz.toNatClampNeg)), (2, .int (b01 isq))]) dX9_print_29 (by decide) rfl ?_
      refine r_aload_n o dX9_print_30 1 rfl ?_
      refine gf_0_9 o mw_245 dX9_print_31 ?_
      refine r_iload_n o dX9_print_34 2 rfl ?_
      refine r_iload_n o dX9_print_35 3 rfl ?_
      refine r_callVV o (As := [.int (nI tz.toNatClampNeg), .int (b01 isq)]) (st := []) (c_X1_setPrinted (xl X) G σ cntq prq trq hdr tz.toNatClampNeg (by omega) isq) om_X1_setPrinted mw_608 mw_609 mw_607 (by decide) rfl rfl rfl (by decide) rfl rfl (Nat.le_of_ble_eq_true rfl) dX9_print_36 (fun σσ36 hp36 => ?_)
      replace hp36 := Eq.symm hp36; subst hp36
      refine r_iload_n o dX9_print_39 0 rfl ?_
      exact r_ireturn o q dX9_print_40 (by rw [if_neg (by rw [hb8]; decide)]; exact ⟨rfl, rfl⟩)
    · skip
      rw [b01_ne0] at hb21
      refine r_iconst o (v := nI 1) dX9_print_24 (by decide) ?_
      refine r_goto o (tgt := 29) dX9_print_25 (by decide) ?_
      refine r_topi (y := b01 (prq.testBit tz.toNatClampNeg)) (by rw [hb21]; rfl) ?_
      refine r_istore_n o (lv' := [(3, .int (b01 (prq.testBit tz.toNatClampNeg))), (0, .ref (gad G 0)), (1, .int (nI tz.toNatClampNeg)), (2, .int (b01 isq))]) dX9_print_29 (by decide) rfl ?_
      refine r_aload_n o dX9_print_30 1 rfl ?_
      refine gf_0_9 o mw_245 dX9_print_31 ?_
      refine r_iload_n o dX9_print_34 2 rfl ?_
      refine r_iload_n o dX9_print_35 3 rfl ?_
      refine r_callVV o (As := [.int (nI tz.toNatClampNeg), .int (b01 isq)]) (st := []) (c_X1_setPrinted (xl X) G σ cntq prq trq hdr tz.toNatClampNeg (by omega) isq) om_X1_setPrinted mw_608 mw_609 mw_607 (by decide) rfl rfl rfl (by decide) rfl rfl (Nat.le_of_ble_eq_true rfl) dX9_print_36 (fun σσ36 hp36 => ?_)
      replace hp36 := Eq.symm hp36; subst hp36
      refine r_iload_n o dX9_print_39 0 rfl ?_
      exact r_ireturn o q dX9_print_40 (by rw [if_neg (by rw [hb8]; decide)]; exact ⟨rfl, rfl⟩)
  · skip
    rw [b01_eq0] at hb8
    refine r_iconst o (v := (-1)) dX9_print_11 (by decide) ?_
    exact r_ireturn o q dX9_print_12 (by rw [if_pos hb8]; exact ⟨rfl, rfl⟩)
set_option maxHeartbeats 4000000 in
set_option maxRecDepth 100000 in
theorem c_X9_lean (l : Launch) (G : Gl) (σ : Sto) (cntq : Nat) (prq : Nat) (trq : Nat) (hdr : DrO σ cntq prq trq) (pf2 : Nat → Int32) (hpf : (σ 29).1 = pf2) (pz : Int32) : CtL l G yX9_lean cX9_lean 2 (some .long) 3 83 [.ref (gad G 0), .int pz] σ (fun r σ' => r = (if inB (nI 0) (nI 1) pz = false then -1000000000000000002 else if prq = 0 then -1000000000000000003 else if pz = 0 then fU (leanU pf2 prq cntq) (leanD prq cntq) else fL (leanU pf2 prq cntq) (leanD prq cntq)) ∧ keepC σ σ') := by
  refine CtL.of (by decide +kernel) (Nat.le_of_ble_eq_true rfl) (fun X o q => ?_)
  show WS X G 2 σ 0 [(0, .ref (gad G 0)), (1, .int pz)] []
  obtain ⟨hcq, hcnt, hpr, hprl, htr, htrl⟩ := id hdr
  have hpr20 : prq < 1048576 := pow_up hprl hcnt
  refine r_iload_n o dX9_lean_0 1 rfl ?_
  refine r_callSI o (As := [.int pz]) (st := []) (c_X9_isPart (xl X) G σ pz) om_X9_isPart mw_389 mw_388 (by decide) rfl rfl (Nat.le_of_ble_eq_true rfl) dX9_lean_1 (fun rr1 σσ1 hp1 => ?_)
  obtain ⟨hp1, hp1b⟩ := hp1; replace hp1 := Eq.symm hp1; replace hp1b := Eq.symm hp1b; subst hp1; subst hp1b
  refine r_if_ne o (tgt := 11) dX9_lean_4 (by decide) (fun hb4 => ?_) (fun hb4 => ?_)
  · skip
    rw [b01_ne0] at hb4
    refine r_aload_n o dX9_lean_11 0 rfl ?_
    refine gf_0_9 o mw_245 dX9_lean_12 ?_
    refine gfN_9_4 o (v := nI prq) hpr mw_204 dX9_lean_15 ?_
    refine r_if_ne o (tgt := 25) dX9_lean_18 (by decide) (fun hb18 => ?_) (fun hb18 => ?_)
    · skip
      rw [nI_eq0 (by omega)] at hb18
      refine r_aload_n o dX9_lean_25 0 rfl ?_
      refine gf_0_9 o mw_245 dX9_lean_26 ?_
      refine r_aload_n o dX9_lean_29 0 rfl ?_
      refine gf_0_7 o mw_243 dX9_lean_30 ?_
      refine r_callVV o (As := [.ref (gad G 7)]) (st := []) (c_X1_putLean (xl X) G σ cntq prq trq hdr pf2 hpf) om_X1_putLean mw_616 mw_617 mw_615 (by decide) rfl rfl rfl (by decide) rfl rfl (Nat.le_of_ble_eq_true rfl) dX9_lean_33 (fun σσ33 hp33 => ?_)
      replace hp33 := Eq.symm hp33; subst hp33
      refine r_aload_n o dX9_lean_36 0 rfl ?_
      refine gf_0_7 o mw_243 dX9_lean_37 ?_
      refine r_iload_n o dX9_lean_40 1 rfl ?_
      refine r_callVL o (As := [.int pz]) (st := []) (c_X2_partOf (xl X) G (stl (stl σ 7 0 (fU (leanU pf2 prq cntq) (leanD prq cntq))) 7 1 (fL (leanU pf2 prq cntq) (leanD prq cntq))) (fU (leanU pf2 prq cntq) (leanD prq cntq)) rfl (fL (leanU pf2 prq cntq) (leanD prq cntq)) rfl pz) om_X2_partOf mw_448 mw_449 mw_447 (by decide) rfl rfl rfl (by decide) rfl rfl (Nat.le_of_ble_eq_true rfl) dX9_lean_41 (fun rr41 σσ41 hp41 => ?_)
      obtain ⟨hp41, hp41b⟩ := hp41; replace hp41 := Eq.symm hp41; replace hp41b := Eq.symm hp41b; subst hp41; subst hp41b
      exact r_lreturn o q dX9_lean_44 (⟨((if_neg (by rw [hb4]; decide)).trans (if_neg hb18)).symm, fun cz hcz => by unfold scrC at hcz; rw [stl_ne (by omega), stl_ne (by omega)]⟩)
    · skip
      rw [nI_eq0 (by omega)] at hb18
      refine r_ldc2_w o mw_459 dX9_lean_21 ?_
      exact r_lreturn o q dX9_lean_24 (⟨by rw [if_neg (by rw [hb4]; decide), if_pos hb18], fun _ _ => rfl⟩)
  · skip
    rw [b01_eq0] at hb4
    refine r_ldc2_w o mw_524 dX9_lean_7 ?_
    exact r_lreturn o q dX9_lean_10 (⟨by rw [if_pos hb4], fun _ _ => rfl⟩)
set_option maxHeartbeats 4000000 in
set_option maxRecDepth 100000 in
theorem c_X9_reads (l : Launch) (G : Gl) (σ : Sto) (mz : Int32) (vz : Int32) : CtI l G yX9_reads cX9_reads 4 (some .int) 1 22 [.ref (gad G 0), .int mz, .int vz] σ (fun r σ' => if inB (nI 0) (nI 7) mz = false then r = -1 ∧ σ' = σ else if inB (nI 0) (nI 1048575) vz = false then r = -2 ∧ σ' = σ else r = (σ 30).1 mz.toNatClampNeg ∧ σ' = sti σ 30 mz.toNatClampNeg vz) := by
  refine CtI.of (by decide +kernel) (Nat.le_of_ble_eq_true rfl) (fun X o q => ?_)
  show WS X G 4 σ 0 [(0, .ref (gad G 0)), (1, .int mz), (2, .int vz)] []
  refine r_iload_n o dX9_reads_0 1 rfl ?_
  refine r_iconst o (v := nI 0) dX9_reads_1 (by decide) ?_
  refine r_bipush o (v := nI 7) dX9_reads_2 (by decide) ?_
  refine r_callSI o (As := [.int mz, .int (nI 0), .int (nI 7)]) (st := []) (c_X9_isWithin (xl X) G σ mz (nI 0) (nI 7)) om_X9_isWithin mw_278 mw_277 (by decide) rfl rfl (Nat.le_of_ble_eq_true rfl) dX9_reads_4 (fun rr4 σσ4 hp4 => ?_)
  obtain ⟨hp4, hp4b⟩ := hp4; replace hp4 := Eq.symm hp4; replace hp4b := Eq.symm hp4b; subst hp4; subst hp4b
  refine r_if_ne o (tgt := 12) dX9_reads_7 (by decide) (fun hb7 => ?_) (fun hb7 => ?_)
  · skip
    rw [b01_ne0] at hb7
    obtain ⟨ht1, ht2⟩ := inB_nI (n := 7) (by decide) hb7
    refine r_iload_n o dX9_reads_12 2 rfl ?_
    refine r_iconst o (v := nI 0) dX9_reads_13 (by decide) ?_
    refine r_ldc o mw_626 dX9_reads_14 ?_
    refine r_topi (y := nI 1048575) (by decide) ?_
    refine r_callSI o (As := [.int vz, .int (nI 0), .int (nI 1048575)]) (st := []) (c_X9_isWithin (xl X) G σ vz (nI 0) (nI 1048575)) om_X9_isWithin mw_278 mw_277 (by decide) rfl rfl (Nat.le_of_ble_eq_true rfl) dX9_reads_16 (fun rr16 σσ16 hp16 => ?_)
    obtain ⟨hp16, hp16b⟩ := hp16; replace hp16 := Eq.symm hp16; replace hp16b := Eq.symm hp16b; subst hp16; subst hp16b
    refine r_if_ne o (tgt := 25) dX9_reads_19 (by decide) (fun hb19 => ?_) (fun hb19 => ?_)
    · skip
      rw [b01_ne0] at hb19
      refine r_aload_n o dX9_reads_25 0 rfl ?_
      refine gf_0_10 o mw_246 dX9_reads_26 ?_
      refine gfN_10_0 o mw_227 dX9_reads_29 ?_
      refine r_iload_n o dX9_reads_32 1 rfl ?_
      refine r_ia o (by decide) ia_30 (f := (σ 30).1) rfl mz.toNatClampNeg ht1 (by omega) (by decide) dX9_reads_33 ?_
      refine r_istore_n o (lv' := [(3, .int (((σ 30).1) mz.toNatClampNeg)), (0, .ref (gad G 0)), (1, .int mz), (2, .int vz)]) dX9_reads_34 (by decide) rfl ?_
      refine r_aload_n o dX9_reads_35 1 rfl ?_
      refine gf_0_10 o mw_246 dX9_reads_36 ?_
      refine gfN_10_0 o mw_227 dX9_reads_39 ?_
      refine r_iload_n o dX9_reads_42 2 rfl ?_
      refine r_iload_n o dX9_reads_43 3 rfl ?_
      refine r_iast o (by decide) ia_30 mz.toNatClampNeg ht1 (by omega) (by decide) dX9_reads_44 ?_
      refine r_iload_n o dX9_reads_45 0 rfl ?_
      exact r_ireturn o q dX9_reads_46 (by rw [if_neg (by rw [hb7]; decide), if_neg (by rw [hb19]; decide)]; exact ⟨rfl, rfl⟩)
    · skip
      rw [b01_eq0] at hb19
      refine r_bipush o (v := (-2)) dX9_reads_22 (by decide) ?_
      exact r_ireturn o q dX9_reads_24 (by rw [if_neg (by rw [hb7]; decide), if_pos hb19]; exact ⟨rfl, rfl⟩)
  · skip
    rw [b01_eq0] at hb7
    refine r_iconst o (v := (-1)) dX9_reads_10 (by decide) ?_
    exact r_ireturn o q dX9_reads_11 (by rw [if_pos hb7]; exact ⟨rfl, rfl⟩)
set_option maxHeartbeats 4000000 in
set_option maxRecDepth 100000 in
theorem c_X9_bar (l : Launch) (G : Gl) (σ : Sto) (vz : Int32) : CtI l G yX9_bar cX9_bar 3 (some .int) 1 22 [.ref (gad G 0), .int vz] σ (fun r σ' => if inB (nI 0) (nI 100) vz = false then r = -2 ∧ σ' = σ else r = (σ 10).1 1 ∧ σ' = sti σ 10 1 vz) := by
  refine CtI.of (by decide +kernel) (Nat.le_of_ble_eq_true rfl) (fun X o q => ?_)
  show WS X G 3 σ 0 [(0, .ref (gad G 0)), (1, .int vz)] []
  refine r_iload_n o dX9_bar_0 1 rfl ?_
  refine r_iconst o (v := nI 0) dX9_bar_1 (by decide) ?_
  refine r_bipush o (v := nI 100) dX9_bar_2 (by decide) ?_
  refine r_callSI o (As := [.int vz, .int (nI 0), .int (nI 100)]) (st := []) (c_X9_isWithin (xl X) G σ vz (nI 0) (nI 100)) om_X9_isWithin mw_278 mw_277 (by decide) rfl rfl (Nat.le_of_ble_eq_true rfl) dX9_bar_4 (fun rr4 σσ4 hp4 => ?_)
  obtain ⟨hp4, hp4b⟩ := hp4; replace hp4 := Eq.symm hp4; replace hp4b := Eq.symm hp4b; subst hp4; subst hp4b
  refine r_if_ne o (tgt := 13) dX9_bar_7 (by decide) (fun hb7 => ?_) (fun hb7 => ?_)
  · skip
    rw [b01_ne0] at hb7
    refine r_aload_n o dX9_bar_13 0 rfl ?_
    refine gf_0_10 o mw_246 dX9_bar_14 ?_
    refine gfN_10_1 o (v := (σ 10).1 1) rfl mw_229 dX9_bar_17 ?_
    refine r_istore_n o (lv' := [(2, .int ((σ 10).1 1)), (0, .ref (gad G 0)), (1, .int vz)]) dX9_bar_20 (by decide) rfl ?_
    refine r_aload_n o dX9_bar_21 1 rfl ?_
    refine gf_0_10 o mw_246 dX9_bar_22 ?_
    refine r_iload_n o dX9_bar_25 2 rfl ?_
    refine pfN_10_1 o mw_229 dX9_bar_26 ?_
    refine r_iload_n o dX9_bar_29 0 rfl ?_
    exact r_ireturn o q dX9_bar_30 (by rw [if_neg (by rw [hb7]; decide)]; exact ⟨rfl, rfl⟩)
  · skip
    rw [b01_eq0] at hb7
    refine r_bipush o (v := (-2)) dX9_bar_10 (by decide) ?_
    exact r_ireturn o q dX9_bar_12 (by rw [if_pos hb7]; exact ⟨rfl, rfl⟩)
set_option maxHeartbeats 4000000 in
set_option maxRecDepth 100000 in
theorem c_X9_truth (l : Launch) (G : Gl) (σ : Sto) (vz : Int32) : CtI l G yX9_truth cX9_truth 3 (some .int) 1 22 [.ref (gad G 0), .int vz] σ (fun r σ' => if inB (nI 0) (nI 1048575) vz = false then r = -2 ∧ σ' = σ else r = (σ 9).1 5 ∧ σ' = sti σ 9 5 vz) := by
  refine CtI.of (by decide +kernel) (Nat.le_of_ble_eq_true rfl) (fun X o q => ?_)
  show WS X G 3 σ 0 [(0, .ref (gad G 0)), (1, .int vz)] []
  refine r_iload_n o dX9_truth_0 1 rfl ?_
  refine r_iconst o (v := nI 0) dX9_truth_1 (by decide) ?_
  refine r_ldc o mw_626 dX9_truth_2 ?_
  refine r_topi (y := nI 1048575) (by decide) ?_
  refine r_callSI o (As := [.int vz, .int (nI 0), .int (nI 1048575)]) (st := []) (c_X9_isWithin (xl X) G σ vz (nI 0) (nI 1048575)) om_X9_isWithin mw_278 mw_277 (by decide) rfl rfl (Nat.le_of_ble_eq_true rfl) dX9_truth_4 (fun rr4 σσ4 hp4 => ?_)
  obtain ⟨hp4, hp4b⟩ := hp4; replace hp4 := Eq.symm hp4; replace hp4b := Eq.symm hp4b; subst hp4; subst hp4b
  refine r_if_ne o (tgt := 13) dX9_truth_7 (by decide) (fun hb7 => ?_) (fun hb7 => ?_)
  · skip
    rw [b01_ne0] at hb7
    refine r_aload_n o dX9_truth_13 0 rfl ?_
    refine gf_0_9 o mw_245 dX9_truth_14 ?_
    refine gfN_9_5 o (v := (σ 9).1 5) rfl mw_206 dX9_truth_17 ?_
    refine r_istore_n o (lv' := [(2, .int ((σ 9).1 5)), (0, .ref (gad G 0)), (1, .int vz)]) dX9_truth_20 (by decide) rfl ?_
    refine r_aload_n o dX9_truth_21 1 rfl ?_
    refine gf_0_9 o mw_245 dX9_truth_22 ?_
    refine r_iload_n o dX9_truth_25 2 rfl ?_
    refine pfN_9_5 o mw_206 dX9_truth_26 ?_
    refine r_iload_n o dX9_truth_29 0 rfl ?_
    exact r_ireturn o q dX9_truth_30 (by rw [if_neg (by rw [hb7]; decide)]; exact ⟨rfl, rfl⟩)
  · skip
    rw [b01_eq0] at hb7
    refine r_bipush o (v := (-2)) dX9_truth_10 (by decide) ?_
    exact r_ireturn o q dX9_truth_12 (by rw [if_pos hb7]; exact ⟨rfl, rfl⟩)
set_option maxHeartbeats 4000000 in
set_option maxRecDepth 100000 in
theorem c_X9_club (l : Launch) (G : Gl) (σ : Sto) (rdq : Nat → Nat) (barq : Nat) (hrd : RdO σ rdq barq) (cntq : Nat) (prq : Nat) (trq : Nat) (hdr : DrO σ cntq prq trq) (pf2 : Nat → Int32) (hpf : (σ 29).1 = pf2) : CtI l G yX9_club cX9_club 1 (some .int) 2 45 [.ref (gad G 0)] σ (fun r σ' => r = nI (blv rdq prq (kpt pf2 (nI barq) cntq) 8) ∧ σ' = σ) := by
  refine CtI.of (by decide +kernel) (Nat.le_of_ble_eq_true rfl) (fun X o q => ?_)
  show WS X G 1 σ 0 [(0, .ref (gad G 0))] []
  obtain ⟨hbr, hbrl, hrdv, hrdl⟩ := id hrd
  obtain ⟨hcq, hcnt, hpr, hprl, htr, htrl⟩ := id hdr
  have hpr20 : prq < 1048576 := pow_up hprl hcnt
  refine r_aload_n o dX9_club_0 0 rfl ?_
  refine gf_0_10 o mw_246 dX9_club_1 ?_
  refine r_aload_n o dX9_club_4 0 rfl ?_
  refine gf_0_9 o mw_245 dX9_club_5 ?_
  refine gfN_9_4 o (v := nI prq) hpr mw_204 dX9_club_8 ?_
  refine r_aload_n o dX9_club_11 0 rfl ?_
  refine gf_0_9 o mw_245 dX9_club_12 ?_
  refine r_aload_n o dX9_club_15 0 rfl ?_
  refine gf_0_10 o mw_246 dX9_club_16 ?_
  refine gfN_10_1 o (v := nI barq) hbr mw_229 dX9_club_19 ?_
  refine r_callVI o (As := [.int (nI barq)]) (st := [.int (nI prq), .ref (gad G 10)]) (c_X1_kept (xl X) G σ cntq prq trq hdr pf2 hpf (nI barq)) om_X1_kept mw_636 mw_637 mw_635 (by decide) rfl rfl rfl (by decide) rfl rfl (Nat.le_of_ble_eq_true rfl) dX9_club_22 (fun rr22 σσ22 hp22 => ?_)
  obtain ⟨hp22, hp22b⟩ := hp22; replace hp22 := Eq.symm hp22; replace hp22b := Eq.symm hp22b; subst hp22; subst hp22b
  refine r_callVI o (As := [.int (nI prq), .int (nI (kpt pf2 (nI barq) cntq))]) (st := []) (c_X6_believing (xl X) G σ rdq barq hrd prq hpr20 (kpt pf2 (nI barq) cntq)) om_X6_believing mw_640 mw_641 mw_639 (by decide) rfl rfl rfl (by decide) rfl rfl (Nat.le_of_ble_eq_true rfl) dX9_club_25 (fun rr25 σσ25 hp25 => ?_)
  obtain ⟨hp25, hp25b⟩ := hp25; replace hp25 := Eq.symm hp25; replace hp25b := Eq.symm hp25b; subst hp25; subst hp25b
  exact r_ireturn o q dX9_club_28 (⟨rfl, rfl⟩)
set_option maxHeartbeats 4000000 in
set_option maxRecDepth 100000 in
theorem c_X9_least (l : Launch) (G : Gl) (σ : Sto) (rdq : Nat → Nat) (barq : Nat) (hrd : RdO σ rdq barq) (cntq : Nat) (prq : Nat) (trq : Nat) (hdr : DrO σ cntq prq trq) (pf2 : Nat → Int32) (hpf : (σ 29).1 = pf2) (mz : Int32) (wz : Int32) : CtI l G yX9_least cX9_least 4 (some .int) 3 74 [.ref (gad G 0), .int mz, .int wz] σ (fun r σ' => r = (if (inB (nI 0) (nI 255) mz && inB (nI 0) (nI 1) wz) = false then -2 else lstR (fwS rdq prq (kpt pf2 (nI barq) cntq) mz.toNatClampNeg (fup prq cntq).1 (2 ^ popc (fup prq cntq).1)).1 wz) ∧ σ' = σ) := by
  refine CtI.of (by decide +kernel) (Nat.le_of_ble_eq_true rfl) (fun X o q => ?_)
  show WS X G 4 σ 0 [(0, .ref (gad G 0)), (1, .int mz), (2, .int wz)] []
  obtain ⟨hbr, hbrl, hrdv, hrdl⟩ := id hrd
  obtain ⟨hcq, hcnt, hpr, hprl, htr, htrl⟩ := id hdr
  have hpr20 : prq < 1048576 := pow_up hprl hcnt
  have hol : (fup prq cntq).1 < 2 ^ 20 := pow_up (fup_lt prq cntq) hcnt
  refine r_iload_n o dX9_least_0 1 rfl ?_
  refine r_iconst o (v := nI 0) dX9_least_1 (by decide) ?_
  refine r_sipush o (v := nI 255) dX9_least_2 (by decide) ?_
  refine r_callSI o (As := [.int mz, .int (nI 0), .int (nI 255)]) (st := []) (c_X9_isWithin (xl X) G σ mz (nI 0) (nI 255)) om_X9_isWithin mw_278 mw_277 (by decide) rfl rfl (Nat.le_of_ble_eq_true rfl) dX9_least_5 (fun rr5 σσ5 hp5 => ?_)
  obtain ⟨hp5, hp5b⟩ := hp5; replace hp5 := Eq.symm hp5; replace hp5b := Eq.symm hp5b; subst hp5; subst hp5b
  refine r_if_eq o (tgt := 20) dX9_least_8 (by decide) (fun hb8 => ?_) (fun hb8 => ?_)
  · skip
    rw [b01_eq0] at hb8
    refine r_bipush o (v := (-2)) dX9_least_20 (by decide) ?_
    exact r_ireturn o q dX9_least_22 (⟨by rw [if_pos (by first | (rw [hb8]; rfl) | (rw [hb17, Bool.and_false]))], rfl⟩)
  · skip
    rw [b01_ne0] at hb8
    obtain ⟨ht1, ht2⟩ := inB_nI (n := 255) (by decide) hb8
    refine r_lv (lv' := [(0, .ref (gad G 0)), (1, .int (nI mz.toNatClampNeg)), (2, .int wz)]) (congrArg (fun zz => ([(0, .ref (gad G 0)), (1, .int zz), (2, .int wz)] : List (Nat × Value))) (ht1)) ?_
    refine r_iload_n o dX9_least_11 2 rfl ?_
    refine r_iconst o (v := nI 0) dX9_least_12 (by decide) ?_
    refine r_iconst o (v := nI 1) dX9_least_13 (by decide) ?_
    refine r_callSI o (As := [.int wz, .int (nI 0), .int (nI 1)]) (st := []) (c_X9_isWithin (xl X) G σ wz (nI 0) (nI 1)) om_X9_isWithin mw_278 mw_277 (by decide) rfl rfl (Nat.le_of_ble_eq_true rfl) dX9_least_14 (fun rr14 σσ14 hp14 => ?_)
    obtain ⟨hp14, hp14b⟩ := hp14; replace hp14 := Eq.symm hp14; replace hp14b := Eq.symm hp14b; subst hp14; subst hp14b
    refine r_if_ne o (tgt := 23) dX9_least_17 (by decide) (fun hb17 => ?_) (fun hb17 => ?_)
    · skip
      rw [b01_ne0] at hb17
      refine r_aload_n o dX9_least_23 0 rfl ?_
      refine gf_0_10 o mw_246 dX9_least_24 ?_
      refine r_iload_n o dX9_least_27 1 rfl ?_
      refine r_aload_n o dX9_least_28 0 rfl ?_
      refine gf_0_9 o mw_245 dX9_least_29 ?_
      refine r_callVI o (As := [.int (nI mz.toNatClampNeg), .ref (gad G 9)]) (st := []) (c_X6_fewestToTurn (xl X) G σ rdq barq hrd cntq prq trq hdr pf2 hpf mz.toNatClampNeg (by omega)) om_X6_fewestToTurn mw_649 mw_650 mw_648 (by decide) rfl rfl rfl (by decide) rfl rfl (Nat.le_of_ble_eq_true rfl) dX9_least_32 (fun rr32 σσ32 hp32 => ?_)
      obtain ⟨hp32, hp32b⟩ := hp32; replace hp32 := Eq.symm hp32; replace hp32b := Eq.symm hp32b; subst hp32; subst hp32b
      rcases hfw : (fwS rdq prq (kpt pf2 (nI barq) cntq) mz.toNatClampNeg (fup prq cntq).1 (2 ^ popc (fup prq cntq).1)).1 with _ | xq
      · skip
        refine r_topi (y := (-6)) (show opI none = -6 from rfl) ?_
        refine r_istore_n o (lv' := [(3, .int (-6)), (0, .ref (gad G 0)), (1, .int (nI mz.toNatClampNeg)), (2, .int wz)]) dX9_least_35 (by decide) rfl ?_
        refine r_iload_n o dX9_least_36 0 rfl ?_
        refine r_bipush o (v := (-6)) dX9_least_37 (by decide) ?_
        refine r_icmp_ne o (tgt := 45) dX9_least_39 (by decide) (fun hb39 => ?_) (fun hb39 => ?_)
        · skip
          exact absurd rfl hb39
        · skip
          refine r_bipush o (v := (-5)) dX9_least_42 (by decide) ?_
          exact r_ireturn o q dX9_least_44 (⟨by rw [if_neg (by rw [hb8, hb17]; decide), hfw]; rfl, rfl⟩)
      · skip
        have hxl := fwS_f hol _ xq hfw
        refine r_topi (y := nI xq) (show opI (some xq) = nI xq from rfl) ?_
        refine r_istore_n o (lv' := [(3, .int (nI xq)), (0, .ref (gad G 0)), (1, .int (nI mz.toNatClampNeg)), (2, .int wz)]) dX9_least_35 (by decide) rfl ?_
        refine r_iload_n o dX9_least_36 0 rfl ?_
        refine r_bipush o (v := (-6)) dX9_least_37 (by decide) ?_
        refine r_icmp_ne o (tgt := 45) dX9_least_39 (by decide) (fun hb39 => ?_) (fun hb39 => ?_)
        · skip
          refine r_iload_n o dX9_least_45 3 rfl ?_
          refine r_if_ne o (tgt := 53) dX9_least_46 (by decide) (fun hb46 => ?_) (fun hb46 => ?_)
          · skip
            refine r_iload_n o dX9_least_53 0 rfl ?_
            refine r_callSI o (As := [.int (nI xq)]) (st := []) (c_J6_bitCount_0f7a4 (xl X) G σ xq hxl) om_J6_bitCount_0f7a4 mw_529 mw_528 (by decide) rfl rfl (Nat.le_of_ble_eq_true rfl) dX9_least_54 (fun rr54 σσ54 hp54 => ?_)
            obtain ⟨hp54, hp54b⟩ := hp54; replace hp54 := Eq.symm hp54; replace hp54b := Eq.symm hp54b; subst hp54; subst hp54b
            exact r_ireturn o q dX9_least_57 (⟨by rw [if_neg (by rw [hb8, hb17]; decide), hfw]; first | exact (if_pos hb46).symm | exact (if_neg hb46).symm, rfl⟩)
          · skip
            refine r_iload_n o dX9_least_49 0 rfl ?_
            refine r_goto o (tgt := 57) dX9_least_50 (by decide) ?_
            exact r_ireturn o q dX9_least_57 (⟨by rw [if_neg (by rw [hb8, hb17]; decide), hfw]; first | exact (if_pos hb46).symm | exact (if_neg hb46).symm, rfl⟩)
        · skip
          exact absurd hb39 (nI_ne6 (by omega))
    · skip
      rw [b01_eq0] at hb17
      refine r_bipush o (v := (-2)) dX9_least_20 (by decide) ?_
      exact r_ireturn o q dX9_least_22 (⟨by rw [if_pos (by first | (rw [hb8]; rfl) | (rw [hb17, Bool.and_false]))], rfl⟩)
set_option maxHeartbeats 4000000 in
set_option maxRecDepth 100000 in
theorem c_X9_good (l : Launch) (G : Gl) (σ : Sto) (cntq : Nat) (prq : Nat) (trq : Nat) (hdr : DrO σ cntq prq trq) (pf2 : Nat → Int32) (hpf : (σ 29).1 = pf2) (vz : Int32) : CtI l G yX9_good cX9_good 2 (some .int) 2 45 [.ref (gad G 0), .int vz] σ (fun r σ' => r = (if inB (nI 0) (nI 101) vz = false then -1000002 else gdI pf2 cntq trq vz) ∧ σ' = σ) := by
  refine CtI.of (by decide +kernel) (Nat.le_of_ble_eq_true rfl) (fun X o q => ?_)
  show WS X G 2 σ 0 [(0, .ref (gad G 0)), (1, .int vz)] []
  obtain ⟨hcq, hcnt, hpr, hprl, htr, htrl⟩ := id hdr
  have hpr20 : prq < 1048576 := pow_up hprl hcnt
  refine r_iload_n o dX9_good_0 1 rfl ?_
  refine r_iconst o (v := nI 0) dX9_good_1 (by decide) ?_
  refine r_bipush o (v := nI 101) dX9_good_2 (by decide) ?_
  refine r_callSI o (As := [.int vz, .int (nI 0), .int (nI 101)]) (st := []) (c_X9_isWithin (xl X) G σ vz (nI 0) (nI 101)) om_X9_isWithin mw_278 mw_277 (by decide) rfl rfl (Nat.le_of_ble_eq_true rfl) dX9_good_4 (fun rr4 σσ4 hp4 => ?_)
  obtain ⟨hp4, hp4b⟩ := hp4; replace hp4 := Eq.symm hp4; replace hp4b := Eq.symm hp4b; subst hp4; subst hp4b
  refine r_if_ne o (tgt := 13) dX9_good_7 (by decide) (fun hb7 => ?_) (fun hb7 => ?_)
  · skip
    rw [b01_ne0] at hb7
    refine r_aload_n o dX9_good_13 0 rfl ?_
    refine gf_0_9 o mw_245 dX9_good_14 ?_
    refine r_iload_n o dX9_good_17 1 rfl ?_
    refine r_callVI o (As := [.int vz]) (st := []) (c_X1_goodBy (xl X) G σ cntq prq trq hdr pf2 hpf vz) om_X1_goodBy mw_667 mw_668 mw_666 (by decide) rfl rfl rfl (by decide) rfl rfl (Nat.le_of_ble_eq_true rfl) dX9_good_18 (fun rr18 σσ18 hp18 => ?_)
    obtain ⟨hp18, hp18b⟩ := hp18; replace hp18 := Eq.symm hp18; replace hp18b := Eq.symm hp18b; subst hp18; subst hp18b
    exact r_ireturn o q dX9_good_21 (⟨by rw [if_neg (by rw [hb7]; decide)], rfl⟩)
  · skip
    rw [b01_eq0] at hb7
    refine r_ldc o mw_287 dX9_good_10 ?_
    exact r_ireturn o q dX9_good_12 (⟨by rw [if_pos hb7], rfl⟩)
set_option maxHeartbeats 4000000 in
set_option maxRecDepth 100000 in
theorem c_X9_best (l : Launch) (G : Gl) (σ : Sto) (cntq : Nat) (prq : Nat) (trq : Nat) (hdr : DrO σ cntq prq trq) (pf2 : Nat → Int32) (hpf : (σ 29).1 = pf2) (wz : Int32) : CtI l G yX9_best cX9_best 3 (some .int) 3 69 [.ref (gad G 0), .int wz] σ (fun r σ' => r = (if inB (nI 0) (nI 1) wz = false then -1000002 else if wz = 0 then nI (bstN pf2 cntq trq 101) else gdI pf2 cntq trq (nI (bstN pf2 cntq trq 101))) ∧ σ' = σ) := by
  refine CtI.of (by decide +kernel) (Nat.le_of_ble_eq_true rfl) (fun X o q => ?_)
  show WS X G 3 σ 0 [(0, .ref (gad G 0)), (1, .int wz)] []
  obtain ⟨hcq, hcnt, hpr, hprl, htr, htrl⟩ := id hdr
  have hpr20 : prq < 1048576 := pow_up hprl hcnt
  refine r_iload_n o dX9_best_0 1 rfl ?_
  refine r_iconst o (v := nI 0) dX9_best_1 (by decide) ?_
  refine r_iconst o (v := nI 1) dX9_best_2 (by decide) ?_
  refine r_callSI o (As := [.int wz, .int (nI 0), .int (nI 1)]) (st := []) (c_X9_isWithin (xl X) G σ wz (nI 0) (nI 1)) om_X9_isWithin mw_278 mw_277 (by decide) rfl rfl (Nat.le_of_ble_eq_true rfl) dX9_best_3 (fun rr3 σσ3 hp3 => ?_)
  obtain ⟨hp3, hp3b⟩ := hp3; replace hp3 := Eq.symm hp3; replace hp3b := Eq.symm hp3b; subst hp3; subst hp3b
  refine r_if_ne o (tgt := 12) dX9_best_6 (by decide) (fun hb6 => ?_) (fun hb6 => ?_)
  · skip
    rw [b01_ne0] at hb6
    refine r_aload_n o dX9_best_12 0 rfl ?_
    refine gf_0_9 o mw_245 dX9_best_13 ?_
    refine r_callVI o (As := []) (st := []) (c_X1_bestRule (xl X) G σ cntq prq trq hdr pf2 hpf) om_X1_bestRule mw_676 mw_677 mw_675 (by decide) rfl rfl rfl (by decide) rfl rfl (Nat.le_of_ble_eq_true rfl) dX9_best_16 (fun rr16 σσ16 hp16 => ?_)
    obtain ⟨hp16, hp16b⟩ := hp16; replace hp16 := Eq.symm hp16; replace hp16b := Eq.symm hp16b; subst hp16; subst hp16b
    refine r_istore_n o (lv' := [(2, .int (nI (bstN pf2 cntq trq 101))), (0, .ref (gad G 0)), (1, .int wz)]) dX9_best_19 (by decide) rfl ?_
    refine r_iload_n o dX9_best_20 2 rfl ?_
    refine r_if_ne o (tgt := 28) dX9_best_21 (by decide) (fun hb21 => ?_) (fun hb21 => ?_)
    · skip
      refine r_aload_n o dX9_best_28 1 rfl ?_
      refine gf_0_9 o mw_245 dX9_best_29 ?_
      refine r_iload_n o dX9_best_32 0 rfl ?_
      refine r_callVI o (As := [.int (nI (bstN pf2 cntq trq 101))]) (st := []) (c_X1_goodBy (xl X) G σ cntq prq trq hdr pf2 hpf (nI (bstN pf2 cntq trq 101))) om_X1_goodBy mw_667 mw_668 mw_666 (by decide) rfl rfl rfl (by decide) rfl rfl (Nat.le_of_ble_eq_true rfl) dX9_best_33 (fun rr33 σσ33 hp33 => ?_)
      obtain ⟨hp33, hp33b⟩ := hp33; replace hp33 := Eq.symm hp33; replace hp33b := Eq.symm hp33b; subst hp33; subst hp33b
      exact r_ireturn o q dX9_best_36 (⟨by rw [if_neg (by rw [hb6]; decide)]; first | (rw [if_pos hb21]) | (rw [if_neg hb21]), rfl⟩)
    · skip
      refine r_iload_n o dX9_best_24 0 rfl ?_
      refine r_goto o (tgt := 36) dX9_best_25 (by decide) ?_
      exact r_ireturn o q dX9_best_36 (⟨by rw [if_neg (by rw [hb6]; decide)]; first | (rw [if_pos hb21]) | (rw [if_neg hb21]), rfl⟩)
  · skip
    rw [b01_eq0] at hb6
    refine r_ldc o mw_287 dX9_best_9 ?_
    exact r_ireturn o q dX9_best_11 (⟨by rw [if_pos hb6], rfl⟩)
set_option maxHeartbeats 4000000 in
set_option maxRecDepth 100000 in
theorem c_X9_told (l : Launch) (G : Gl) (σ : Sto) (scnt : Nat) (hsc : (σ 1).1 1 = nI scnt) (rdq : Nat → Nat) (barq : Nat) (hrd : RdO σ rdq barq) (cntq : Nat) (prq : Nat) (trq : Nat) (hdr : DrO σ cntq prq trq) (wz : Int32) : CtI l G yX9_told cX9_told 2 (some .int) 2 42 [.ref (gad G 0), .int wz] σ (fun r σ' => r = (if wz = nI 0 then nI scnt else if wz = nI 1 then nI cntq else if wz = nI 2 then nI prq else if wz = nI 3 then nI barq else if wz = nI 4 then nI (trq &&& (2 ^ cntq - 1)) else if inB (nI 0) (nI 5) (wz - nI 10) = true then nI (gcnt (σ (13 + (wz - nI 10).toNatClampNeg)).1 24) else -2) ∧ σ' = σ) := by
  refine CtI.of (by decide +kernel) (Nat.le_of_ble_eq_true rfl) (fun X o q => ?_)
  show WS X G 2 σ 0 [(0, .ref (gad G 0)), (1, .int wz)] []
  obtain ⟨hbr, hbrl, hrdv, hrdl⟩ := id hrd
  obtain ⟨hcq, hcnt, hpr, hprl, htr, htrl⟩ := id hdr
  have hpr20 : prq < 1048576 := pow_up hprl hcnt
  refine r_iload_n o dX9_told_0 1 rfl ?_
  by_cases hs1_0 : wz = nI 0
  · skip
    refine r_topi (y := nI 0) (by rw [hs1_0]) ?_
    refine r_tableIn o (off := 35) (tgt := 36) dX9_told_1 (by decide) (by decide) rfl (by decide) ?_
    refine r_aload_n o dX9_told_36 0 rfl ?_
    refine gf_0_1 o mw_237 dX9_told_37 ?_
    refine gfN_1_1 o (v := nI scnt) hsc mw_68 dX9_told_40 ?_
    exact r_ireturn o q dX9_told_43 (⟨by rw [if_pos hs1_0], rfl⟩)
  by_cases hs1_1 : wz = nI 1
  · skip
    refine r_topi (y := nI 1) (by rw [hs1_1]) ?_
    refine r_tableIn o (off := 43) (tgt := 44) dX9_told_1 (by decide) (by decide) rfl (by decide) ?_
    refine r_aload_n o dX9_told_44 0 rfl ?_
    refine gf_0_9 o mw_245 dX9_told_45 ?_
    refine gfN_9_3 o (v := nI cntq) hcq mw_201 dX9_told_48 ?_
    exact r_ireturn o q dX9_told_51 (⟨by rw [if_neg hs1_0, if_pos hs1_1], rfl⟩)
  by_cases hs1_2 : wz = nI 2
  · skip
    refine r_topi (y := nI 2) (by rw [hs1_2]) ?_
    refine r_tableIn o (off := 51) (tgt := 52) dX9_told_1 (by decide) (by decide) rfl (by decide) ?_
    refine r_aload_n o dX9_told_52 0 rfl ?_
    refine gf_0_9 o mw_245 dX9_told_53 ?_
    refine gfN_9_4 o (v := nI prq) hpr mw_204 dX9_told_56 ?_
    exact r_ireturn o q dX9_told_59 (⟨by rw [if_neg hs1_0, if_neg hs1_1, if_pos hs1_2], rfl⟩)
  by_cases hs1_3 : wz = nI 3
  · skip
    refine r_topi (y := nI 3) (by rw [hs1_3]) ?_
    refine r_tableIn o (off := 59) (tgt := 60) dX9_told_1 (by decide) (by decide) rfl (by decide) ?_
    refine r_aload_n o dX9_told_60 0 rfl ?_
    refine gf_0_10 o mw_246 dX9_told_61 ?_
    refine gfN_10_1 o (v := nI barq) hbr mw_229 dX9_told_64 ?_
    exact r_ireturn o q dX9_told_67 (⟨by rw [if_neg hs1_0, if_neg hs1_1, if_neg hs1_2, if_pos hs1_3], rfl⟩)
  by_cases hs1_4 : wz = nI 4
  · skip
    refine r_topi (y := nI 4) (by rw [hs1_4]) ?_
    refine r_tableIn o (off := 67) (tgt := 68) dX9_told_1 (by decide) (by decide) rfl (by decide) ?_
    refine r_aload_n o dX9_told_68 0 rfl ?_
    refine gf_0_9 o mw_245 dX9_told_69 ?_
    refine gfN_9_5 o (v := nI trq) htr mw_206 dX9_told_72 ?_
    refine r_aload_n o dX9_told_75 0 rfl ?_
    refine gf_0_9 o mw_245 dX9_told_76 ?_
    refine r_callVI o (As := []) (st := [.int (nI trq)]) (c_X1_all (xl X) G σ cntq prq trq hdr) om_X1_all mw_685 mw_686 mw_684 (by decide) rfl rfl rfl (by decide) rfl rfl (Nat.le_of_ble_eq_true rfl) dX9_told_79 (fun rr79 σσ79 hp79 => ?_)
    obtain ⟨hp79, hp79b⟩ := hp79; replace hp79 := Eq.symm hp79; replace hp79b := Eq.symm hp79b; subst hp79; subst hp79b
    refine r_iand o dX9_told_82 ?_
    refine r_topi (y := nI (trq &&& (2 ^ cntq - 1))) (nI_and _ _) ?_
    exact r_ireturn o q dX9_told_83 (⟨by rw [if_neg hs1_0, if_neg hs1_1, if_neg hs1_2, if_neg hs1_3, if_pos hs1_4], rfl⟩)
  refine r_tableOut o (tgt := 84) dX9_told_1 (by have e0 := neN hs1_0 (by decide); have e1 := neN hs1_1 (by decide); have e2 := neN hs1_2 (by decide); have e3 := neN hs1_3 (by decide); have e4 := neN hs1_4 (by decide); omega) (by decide) ?_
  refine r_iload_n o dX9_told_84 1 rfl ?_
  refine r_bipush o (v := nI 10) dX9_told_85 (by decide) ?_
  refine r_isub o dX9_told_87 ?_
  refine r_callSI o (As := [.int (wz - (nI 10))]) (st := []) (c_X9_isRow (xl X) G σ (wz - (nI 10))) om_X9_isRow mw_275 mw_274 (by decide) rfl rfl (Nat.le_of_ble_eq_true rfl) dX9_told_88 (fun rr88 σσ88 hp88 => ?_)
  obtain ⟨hp88, hp88b⟩ := hp88; replace hp88 := Eq.symm hp88; replace hp88b := Eq.symm hp88b; subst hp88; subst hp88b
  refine r_if_eq o (tgt := 109) dX9_told_91 (by decide) (fun hb91 => ?_) (fun hb91 => ?_)
  · skip
    rw [b01_eq0] at hb91
    refine r_bipush o (v := (-2)) dX9_told_109 (by decide) ?_
    exact r_ireturn o q dX9_told_111 (⟨by rw [if_neg hs1_0, if_neg hs1_1, if_neg hs1_2, if_neg hs1_3, if_neg hs1_4]; first | (rw [if_pos hb91]) | (rw [if_neg (by rw [hb91]; decide)]), rfl⟩)
  · skip
    rw [b01_ne0] at hb91
    obtain ⟨ht1, ht2⟩ := inB_nI (n := 5) (by decide) hb91
    refine r_aload_n o dX9_told_94 0 rfl ?_
    refine gf_0_0 o mw_236 dX9_told_95 ?_
    refine r_iload_n o dX9_told_98 1 rfl ?_
    refine r_bipush o (v := nI 10) dX9_told_99 (by decide) ?_
    refine r_isub o dX9_told_101 ?_
    refine r_rows o ((wz - nI 10).toNatClampNeg) ht1 (by omega) dX9_told_102 ?_
    refine r_callSI o (As := [.ref (gad G (13 + ((wz - nI 10).toNatClampNeg)))]) (st := []) (c_X9_numbersIn (xl X) G σ ((wz - nI 10).toNatClampNeg) (by omega) ((σ (13 + (wz - nI 10).toNatClampNeg)).1) rfl) om_X9_numbersIn mw_689 mw_688 (by decide) rfl rfl (Nat.le_of_ble_eq_true rfl) dX9_told_103 (fun rr103 σσ103 hp103 => ?_)
    obtain ⟨hp103, hp103b⟩ := hp103; replace hp103 := Eq.symm hp103; replace hp103b := Eq.symm hp103b; subst hp103; subst hp103b
    refine r_goto o (tgt := 111) dX9_told_106 (by decide) ?_
    exact r_ireturn o q dX9_told_111 (⟨by rw [if_neg hs1_0, if_neg hs1_1, if_neg hs1_2, if_neg hs1_3, if_neg hs1_4]; first | (rw [if_pos hb91]) | (rw [if_neg (by rw [hb91]; decide)]), rfl⟩)
set_option maxHeartbeats 4000000 in
set_option maxRecDepth 100000 in
theorem c_X9_trial (l : Launch) (G : Gl) (σ : Sto) (sn : Nat → Nat) (cntq : Nat) (hp : PadO σ sn cntq) (prq : Nat) (cdq : Nat) (trq : Nat) (hdr : DrO σ cdq prq trq) (rz : Int32) (lz : Int32) : CtI l G yX9_trial cX9_trial 4 (some .int) 7 163 [.ref (gad G 0), .int rz, .int lz] σ (fun r σ' => if ¬ refI (inB (nI 0) (nI 5) rz) (inB (nI 2) (nI 12) lz) (fltF sn cntq 21 0) = 0 then r = refI (inB (nI 0) (nI 5) rz) (inB (nI 2) (nI 12) lz) (fltF sn cntq 21 0) ∧ σ' = σ else if 20 ≤ cdq then r = -4 ∧ σ' = σ else r = nI cdq ∧ keepC (sti (sti (sti (sti σ 27 cdq rz) 28 cdq lz) 29 cdq (pctI (fU (shU (dlF σ sn cntq rz.toNatClampNeg) 24 lz.toNatClampNeg) (shD (dlF σ sn cntq rz.toNatClampNeg) 24)) (fL (shU (dlF σ sn cntq rz.toNatClampNeg) 24 lz.toNatClampNeg) (shD (dlF σ sn cntq rz.toNatClampNeg) 24)))) 9 3 (nI (cdq + 1))) σ') := by
  refine CtI.of (by decide +kernel) (Nat.le_of_ble_eq_true rfl) (fun X o q => ?_)
  show WS X G 4 σ 0 [(0, .ref (gad G 0)), (1, .int rz), (2, .int lz)] []
  obtain ⟨hcq, hcnt, hsg, hsn⟩ := id hp
  obtain ⟨hcd, hcdl, hpr, hprl, htr, htrl⟩ := id hdr
  refine r_aload_n o dX9_trial_0 0 rfl ?_
  refine r_iload_n o dX9_trial_1 1 rfl ?_
  refine r_callSI o (As := [.int rz]) (st := [.ref (gad G 0)]) (c_X9_isRow (xl X) G σ rz) om_X9_isRow mw_275 mw_274 (by decide) rfl rfl (Nat.le_of_ble_eq_true rfl) dX9_trial_2 (fun rr2 σσ2 hp2 => ?_)
  obtain ⟨hp2, hp2b⟩ := hp2; replace hp2 := Eq.symm hp2; replace hp2b := Eq.symm hp2b; subst hp2; subst hp2b
  refine r_iload_n o dX9_trial_5 2 rfl ?_
  refine r_callSI o (As := [.int lz]) (st := [.int (b01 (inB (nI 0) (nI 5) rz)), .ref (gad G 0)]) (c_X9_isLength (xl X) G σ lz) om_X9_isLength mw_386 mw_385 (by decide) rfl rfl (Nat.le_of_ble_eq_true rfl) dX9_trial_6 (fun rr6 σσ6 hp6 => ?_)
  obtain ⟨hp6, hp6b⟩ := hp6; replace hp6 := Eq.symm hp6; replace hp6b := Eq.symm hp6b; subst hp6; subst hp6b
  refine r_callVI o (As := [.int (b01 (inB (nI 0) (nI 5) rz)), .int (b01 (inB (nI 2) (nI 12) lz))]) (st := []) (c_X9_refusalOf (xl X) G σ sn cntq hp (inB (nI 0) (nI 5) rz) (inB (nI 2) (nI 12) lz)) om_X9_refusalOf mw_343 mw_4 mw_341 (by decide) rfl rfl rfl (by decide) rfl rfl (Nat.le_of_ble_eq_true rfl) dX9_trial_9 (fun rr9 σσ9 hp9 => ?_)
  obtain ⟨hp9, hp9b⟩ := hp9; replace hp9 := Eq.symm hp9; replace hp9b := Eq.symm hp9b; subst hp9; subst hp9b
  refine r_istore_n o (lv' := [(3, .int (refI (inB (nI 0) (nI 5) rz) (inB (nI 2) (nI 12) lz) (fltF sn cntq 21 0))), (0, .ref (gad G 0)), (1, .int rz), (2, .int lz)]) dX9_trial_12 (by decide) rfl ?_
  refine r_iload_n o dX9_trial_13 0 rfl ?_
  refine r_if_eq o (tgt := 19) dX9_trial_14 (by decide) (fun hb14 => ?_) (fun hb14 => ?_)
  · skip
    obtain ⟨hk1, hk2, hno⟩ := refI_z hb14
    obtain ⟨hr1, hr2⟩ := inB_nI (n := 5) (by decide) hk1
    obtain ⟨hl1, hl2⟩ := inB_nI (n := 12) (by decide) (inB_wk hk2)
    have hl3 := inB_ge hk2
    refine r_aload_n o dX9_trial_19 1 rfl ?_
    refine gf_0_9 o mw_245 dX9_trial_20 ?_
    refine r_callVI o (As := []) (st := []) (c_X1_isFull (xl X) G σ cdq prq trq hdr) om_X1_isFull mw_578 mw_579 mw_577 (by decide) rfl rfl rfl (by decide) rfl rfl (Nat.le_of_ble_eq_true rfl) dX9_trial_23 (fun rr23 σσ23 hp23 => ?_)
    obtain ⟨hp23, hp23b⟩ := hp23; replace hp23 := Eq.symm hp23; replace hp23b := Eq.symm hp23b; subst hp23; subst hp23b
    refine r_if_eq o (tgt := 32) dX9_trial_26 (by decide) (fun hb26 => ?_) (fun hb26 => ?_)
    · skip
      rw [b01_eq0] at hb26
      have hb26 := of_decide_eq_false hb26
      refine r_aload_n o dX9_trial_32 1 rfl ?_
      refine r_iload_n o dX9_trial_33 2 rfl ?_
      refine r_iload_n o dX9_trial_34 3 rfl ?_
      refine r_top2 (y := nI rz.toNatClampNeg) hr1 ?_
      refine r_topi (y := nI lz.toNatClampNeg) hl1 ?_
      refine r_callVV o (As := [.int (nI rz.toNatClampNeg), .int (nI lz.toNatClampNeg)]) (st := []) (c_X9_putShare (xl X) G σ sn cntq hp rz.toNatClampNeg (by omega) lz.toNatClampNeg (by omega) hno) om_X9_putShare mw_394 mw_6 mw_392 (by decide) rfl rfl rfl (by decide) rfl rfl (Nat.le_of_ble_eq_true rfl) dX9_trial_35 (fun σσ35 hp35 => ?_)
      obtain ⟨hu, hl, hkp⟩ := hp35
      refine r_aload_n o dX9_trial_38 1 rfl ?_
      refine gf_0_9 o mw_245 dX9_trial_39 ?_
      refine r_iload_n o dX9_trial_42 2 rfl ?_
      refine r_iload_n o dX9_trial_43 3 rfl ?_
      refine r_aload_n o dX9_trial_44 1 rfl ?_
      refine gf_0_7 o mw_243 dX9_trial_45 ?_
      refine r_callVI o (As := []) (st := [.int lz, .int rz, .ref (gad G 9)]) (c_X2_percent (xl X) G σσ35 (fU (shU (dlF σ sn cntq rz.toNatClampNeg) 24 lz.toNatClampNeg) (shD (dlF σ sn cntq rz.toNatClampNeg) 24)) hu (fL (shU (dlF σ sn cntq rz.toNatClampNeg) 24 lz.toNatClampNeg) (shD (dlF σ sn cntq rz.toNatClampNeg) 24)) hl) om_X2_percent mw_582 mw_583 mw_581 (by decide) rfl rfl rfl (by decide) rfl rfl (Nat.le_of_ble_eq_true rfl) dX9_trial_48 (fun rr48 σσ48 hp48 => ?_)
      obtain ⟨hp48, hp48b⟩ := hp48; replace hp48 := Eq.symm hp48; replace hp48b := Eq.symm hp48b; subst hp48; subst hp48b
      refine r_callVV o (As := [.int rz, .int lz, .int (pctI (fU (shU (dlF σ sn cntq rz.toNatClampNeg) 24 lz.toNatClampNeg) (shD (dlF σ sn cntq rz.toNatClampNeg) 24)) (fL (shU (dlF σ sn cntq rz.toNatClampNeg) 24 lz.toNatClampNeg) (shD (dlF σ sn cntq rz.toNatClampNeg) 24)))]) (st := []) (c_X1_add (xl X) G σσ35 cdq prq trq (by unfold DrO; rw [hkp 9 (by unfold scrC; omega)]; exact hdr) rz lz (pctI (fU (shU (dlF σ sn cntq rz.toNatClampNeg) 24 lz.toNatClampNeg) (shD (dlF σ sn cntq rz.toNatClampNeg) 24)) (fL (shU (dlF σ sn cntq rz.toNatClampNeg) 24 lz.toNatClampNeg) (shD (dlF σ sn cntq rz.toNatClampNeg) 24))) (by omega)) om_X1_add mw_587 mw_588 mw_586 (by decide) rfl rfl rfl (by decide) rfl rfl (Nat.le_of_ble_eq_true rfl) dX9_trial_51 (fun σσ51 hp51 => ?_)
      replace hp51 := Eq.symm hp51; subst hp51
      refine r_aload_n o dX9_trial_54 1 rfl ?_
      refine gf_0_9 o mw_245 dX9_trial_55 ?_
      refine gfN_9_3 (σ := sti (sti (sti (sti σσ35 27 cdq rz) 28 cdq lz) 29 cdq (pctI (fU (shU (dlF σ sn cntq rz.toNatClampNeg) 24 lz.toNatClampNeg) (shD (dlF σ sn cntq rz.toNatClampNeg) 24)) (fL (shU (dlF σ sn cntq rz.toNatClampNeg) 24 lz.toNatClampNeg) (shD (dlF σ sn cntq rz.toNatClampNeg) 24)))) 9 3 (nI (cdq + 1))) o (v := nI (cdq + 1)) rfl mw_201 dX9_trial_58 ?_
      refine r_iconst o (v := nI 1) dX9_trial_61 (by decide) ?_
      refine r_isub o dX9_trial_62 ?_
      refine r_topi (y := nI (cdq + 1 - 1)) (nI_sub' (by omega)) ?_
      exact r_ireturn o q dX9_trial_63 (by rw [if_neg (fun zq => zq hb14), if_neg hb26]; exact ⟨rfl, fun cz hcz => by rw [trial_ag (hkp cz hcz)]⟩)
    · skip
      rw [b01_ne0] at hb26
      have hb26 := of_decide_eq_true hb26
      refine r_bipush o (v := (-4)) dX9_trial_29 (by decide) ?_
      exact r_ireturn o q dX9_trial_31 (by rw [if_neg (fun zq => zq hb14), if_pos hb26]; exact ⟨rfl, rfl⟩)
  · skip
    refine r_iload_n o dX9_trial_17 0 rfl ?_
    exact r_ireturn o q dX9_trial_18 (by rw [if_pos hb14]; exact ⟨rfl, rfl⟩)
