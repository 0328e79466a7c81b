set_option maxHeartbeats 4000000 in
set_option maxRecDepth 100000 in
theorem c_X10_year (l : Launch) (G : Gl) (σ : Sto) (rz : Int32) (yz : Int32) (vz : Int32) : CtI l G yX10_year cX10_year 5 (some .int) 2 45 [.ref (gad G 11), .int rz, .int yz, .int vz] σ (fun r σ' => if inB (nI 0) (nI 5) rz = false then r = -1000001 ∧ σ' = σ else if (inB (nI 0) (nI 23) yz && nonB vz) = false then r = -1000002 ∧ σ' = σ else r = (σ 71).1 (24 * rz.toNatClampNeg + yz.toNatClampNeg) ∧ σ' = sti σ 71 (24 * rz.toNatClampNeg + yz.toNatClampNeg) vz) := by
  refine CtI.of (by decide +kernel) (Nat.le_of_ble_eq_true rfl) (fun X o q => ?_)
  show WS X G 5 σ 0 [(0, .ref (gad G 11)), (1, .int rz), (2, .int yz), (3, .int vz)] []
  refine r_iload_n o dX10_year_0 1 rfl ?_
  refine r_callSI o (As := [.int rz]) (st := []) (c_X10_isRow (xl X) G σ rz) om_X10_isRow mw_779 mw_778 (by decide) rfl rfl (Nat.le_of_ble_eq_true rfl) dX10_year_1 (fun rr1 σσ1 hp1 => ?_)
  obtain ⟨hp1, hp1b⟩ := hp1; replace hp1 := Eq.symm hp1; replace hp1b := Eq.symm hp1b; subst hp1; subst hp1b
  refine r_if_ne o (tgt := 10) dX10_year_4 (by decide) (fun hb4 => ?_) (fun hb4 => ?_)
  · skip
    rw [b01_ne0] at hb4
    have hk1 := hb4
    obtain ⟨hr1, hr2⟩ := inB_nI (n := 5) (by decide) hk1
    refine r_iload_n o dX10_year_10 2 rfl ?_
    refine r_callSI o (As := [.int yz]) (st := []) (c_X10_isYear (xl X) G σ yz) om_X10_isYear mw_787 mw_786 (by decide) rfl rfl (Nat.le_of_ble_eq_true rfl) dX10_year_11 (fun rr11 σσ11 hp11 => ?_)
    obtain ⟨hp11, hp11b⟩ := hp11; replace hp11 := Eq.symm hp11; replace hp11b := Eq.symm hp11b; subst hp11; subst hp11b
    refine r_if_eq o (tgt := 37) dX10_year_14 (by decide) (fun hb14 => ?_) (fun hb14 => ?_)
    · skip
      rw [b01_eq0] at hb14
      refine r_ldc o mw_792 dX10_year_37 ?_
      exact r_ireturn o q dX10_year_39 (by rw [if_neg (by rw [hb4]; decide), if_pos (by first | (rw [hb14]; rfl) | (rw [hb14]; show nonB vz = false; unfold nonB; rw [if_neg hb20]; exact hb34))]; exact ⟨rfl, rfl⟩)
    · skip
      rw [b01_ne0] at hb14
      obtain ⟨hy1, hy2⟩ := inB_nI (n := 23) (by decide) hb14
      refine r_iload_n o dX10_year_17 3 rfl ?_
      refine r_ldc o mw_697 dX10_year_18 ?_
      refine r_icmp_eq o (tgt := 40) dX10_year_20 (by decide) (fun hb20 => ?_) (fun hb20 => ?_)
      · skip
        refine r_lv (lv' := [(0, .ref (gad G 11)), (1, .int (nI rz.toNatClampNeg)), (2, .int yz), (3, .int vz)]) (congrArg (fun zz => ([(0, .ref (gad G 11)), (1, .int zz), (2, .int yz), (3, .int vz)] : List (Nat × Value))) (hr1)) ?_
        refine r_lv (lv' := [(0, .ref (gad G 11)), (1, .int (nI rz.toNatClampNeg)), (2, .int (nI yz.toNatClampNeg)), (3, .int vz)]) (congrArg (fun zz => ([(0, .ref (gad G 11)), (1, .int (nI rz.toNatClampNeg)), (2, .int zz), (3, .int vz)] : List (Nat × Value))) (hy1)) ?_
        refine r_aload_n o dX10_year_40 0 rfl ?_
        refine gf_11_0 o mw_698 dX10_year_41 ?_
        refine r_bipush o (v := nI 24) dX10_year_44 (by decide) ?_
        refine r_iload_n o dX10_year_46 1 rfl ?_
        refine r_imul o dX10_year_47 ?_
        refine r_topi (y := nI (24 * rz.toNatClampNeg)) (nI_mul' _ _) ?_
        refine r_iload_n o dX10_year_48 2 rfl ?_
        refine r_iadd o dX10_year_49 ?_
        refine r_topi (y := nI (24 * rz.toNatClampNeg + yz.toNatClampNeg)) (nI_add' _ _) ?_
        refine r_ia o (by decide) ia_71 (f := (σ 71).1) rfl (24 * rz.toNatClampNeg + yz.toNatClampNeg) rfl (by omega) (by decide) dX10_year_50 ?_
        refine r_istore o (lv' := [(4, .int (((σ 71).1) (24 * rz.toNatClampNeg + yz.toNatClampNeg))), (0, .ref (gad G 11)), (1, .int (nI rz.toNatClampNeg)), (2, .int (nI yz.toNatClampNeg)), (3, .int vz)]) dX10_year_51 (by decide) rfl ?_
        refine r_aload_n o dX10_year_53 1 rfl ?_
        refine gf_11_0 o mw_698 dX10_year_54 ?_
        refine r_bipush o (v := nI 24) dX10_year_57 (by decide) ?_
        refine r_iload_n o dX10_year_59 2 rfl ?_
        refine r_imul o dX10_year_60 ?_
        refine r_topi (y := nI (24 * rz.toNatClampNeg)) (nI_mul' _ _) ?_
        refine r_iload_n o dX10_year_61 3 rfl ?_
        refine r_iadd o dX10_year_62 ?_
        refine r_topi (y := nI (24 * rz.toNatClampNeg + yz.toNatClampNeg)) (nI_add' _ _) ?_
        refine r_iload_n o dX10_year_63 4 rfl ?_
        refine r_iast o (by decide) ia_71 (24 * rz.toNatClampNeg + yz.toNatClampNeg) rfl (by omega) (by decide) dX10_year_64 ?_
        refine r_iload o dX10_year_65 0 rfl ?_
        exact r_ireturn o q dX10_year_67 (by rw [if_neg (by rw [hb4]; decide), if_neg (by rw [hb14]; unfold nonB; first | (rw [if_pos hb20]; decide) | (rw [if_neg hb20, hb34]; decide))]; exact ⟨rfl, rfl⟩)
      · skip
        refine r_iload_n o dX10_year_23 3 rfl ?_
        refine r_i2l o dX10_year_24 rfl ?_
        refine r_ldc2_w o mw_790 dX10_year_25 ?_
        refine r_ldc2_w o mw_791 dX10_year_28 ?_
        refine r_callSI o (As := [.long ((vz).toInt64), .long (-99), .long 99]) (st := []) (c_X10_in (xl X) G σ ((vz).toInt64) (-99) 99) om_X10_in mw_783 mw_782 (by decide) rfl rfl (Nat.le_of_ble_eq_true rfl) dX10_year_31 (fun rr31 σσ31 hp31 => ?_)
        obtain ⟨hp31, hp31b⟩ := hp31; replace hp31 := Eq.symm hp31; replace hp31b := Eq.symm hp31b; subst hp31; subst hp31b
        refine r_topi (y := b01 (inB (-99) (nI 99) vz)) (by rw [← inL_w]; rfl) ?_
        refine r_if_ne o (tgt := 40) dX10_year_34 (by decide) (fun hb34 => ?_) (fun hb34 => ?_)
        · skip
          rw [b01_ne0] at hb34
          refine r_lv (lv' := [(0, .ref (gad G 11)), (1, .int (nI rz.toNatClampNeg)), (2, .int yz), (3, .int vz)]) (congrArg (fun zz => ([(0, .ref (gad G 11)), (1, .int zz), (2, .int yz), (3, .int vz)] : List (Nat × Value))) (hr1)) ?_
          refine r_lv (lv' := [(0, .ref (gad G 11)), (1, .int (nI rz.toNatClampNeg)), (2, .int (nI yz.toNatClampNeg)), (3, .int vz)]) (congrArg (fun zz => ([(0, .ref (gad G 11)), (1, .int (nI rz.toNatClampNeg)), (2, .int zz), (3, .int vz)] : List (Nat × Value))) (hy1)) ?_
          refine r_aload_n o dX10_year_40 0 rfl ?_
          refine gf_11_0 o mw_698 dX10_year_41 ?_
          refine r_bipush o (v := nI 24) dX10_year_44 (by decide) ?_
          refine r_iload_n o dX10_year_46 1 rfl ?_
          refine r_imul o dX10_year_47 ?_
          refine r_topi (y := nI (24 * rz.toNatClampNeg)) (nI_mul' _ _) ?_
          refine r_iload_n o dX10_year_48 2 rfl ?_
          refine r_iadd o dX10_year_49 ?_
          refine r_topi (y := nI (24 * rz.toNatClampNeg + yz.toNatClampNeg)) (nI_add' _ _) ?_
          refine r_ia o (by decide) ia_71 (f := (σ 71).1) rfl (24 * rz.toNatClampNeg + yz.toNatClampNeg) rfl (by omega) (by decide) dX10_year_50 ?_
          refine r_istore o (lv' := [(4, .int (((σ 71).1) (24 * rz.toNatClampNeg + yz.toNatClampNeg))), (0, .ref (gad G 11)), (1, .int (nI rz.toNatClampNeg)), (2, .int (nI yz.toNatClampNeg)), (3, .int vz)]) dX10_year_51 (by decide) rfl ?_
          refine r_aload_n o dX10_year_53 1 rfl ?_
          refine gf_11_0 o mw_698 dX10_year_54 ?_
          refine r_bipush o (v := nI 24) dX10_year_57 (by decide) ?_
          refine r_iload_n o dX10_year_59 2 rfl ?_
          refine r_imul o dX10_year_60 ?_
          refine r_topi (y := nI (24 * rz.toNatClampNeg)) (nI_mul' _ _) ?_
          refine r_iload_n o dX10_year_61 3 rfl ?_
          refine r_iadd o dX10_year_62 ?_
          refine r_topi (y := nI (24 * rz.toNatClampNeg + yz.toNatClampNeg)) (nI_add' _ _) ?_
          refine r_iload_n o dX10_year_63 4 rfl ?_
          refine r_iast o (by decide) ia_71 (24 * rz.toNatClampNeg + yz.toNatClampNeg) rfl (by omega) (by decide) dX10_year_64 ?_
          refine r_iload o dX10_year_65 0 rfl ?_
          exact r_ireturn o q dX10_year_67 (by rw [if_neg (by rw [hb4]; decide), if_neg (by rw [hb14]; unfold nonB; first | (rw [if_pos hb20]; decide) | (rw [if_neg hb20, hb34]; decide))]; exact ⟨rfl, rfl⟩)
        · skip
          rw [b01_eq0] at hb34
          refine r_ldc o mw_792 dX10_year_37 ?_
          exact r_ireturn o q dX10_year_39 (by rw [if_neg (by rw [hb4]; decide), if_pos (by first | (rw [hb14]; rfl) | (rw [hb14]; show nonB vz = false; unfold nonB; rw [if_neg hb20]; exact hb34))]; exact ⟨rfl, rfl⟩)
  · skip
    rw [b01_eq0] at hb4
    refine r_ldc o mw_785 dX10_year_7 ?_
    exact r_ireturn o q dX10_year_9 (by rw [if_pos hb4]; exact ⟨rfl, rfl⟩)
set_option maxHeartbeats 4000000 in
set_option maxRecDepth 100000 in
theorem c_X10_say (l : Launch) (G : Gl) (σ : Sto) (sn : Nat → Nat) (cntq : Nat) (hp : PadM σ sn cntq) (vz : Int32) : CtI l G yX10_say cX10_say 2 (some .int) 1 25 [.ref (gad G 11), .int vz] σ (fun r σ' => if inB (nI 33) (nI 126) vz = false then r = -2 ∧ σ' = σ else if 20 ≤ cntq then r = -4 ∧ σ' = σ else r = nI (cntq + 1) ∧ σ' = sti (sti σ 72 cntq vz) 11 2 (nI (cntq + 1))) := by
  refine CtI.of (by decide +kernel) (Nat.le_of_ble_eq_true rfl) (fun X o q => ?_)
  show WS X G 2 σ 0 [(0, .ref (gad G 11)), (1, .int vz)] []
  obtain ⟨hcq, hcnt, hsg, hsn⟩ := id hp
  refine r_iload_n o dX10_say_0 1 rfl ?_
  refine r_i2l o dX10_say_1 rfl ?_
  refine r_ldc2_w o mw_797 dX10_say_2 ?_
  refine r_ldc2_w o mw_798 dX10_say_5 ?_
  refine r_callSI o (As := [.long ((vz).toInt64), .long 33, .long 126]) (st := []) (c_X10_in (xl X) G σ ((vz).toInt64) 33 126) om_X10_in mw_783 mw_782 (by decide) rfl rfl (Nat.le_of_ble_eq_true rfl) dX10_say_8 (fun rr8 σσ8 hp8 => ?_)
  obtain ⟨hp8, hp8b⟩ := hp8; replace hp8 := Eq.symm hp8; replace hp8b := Eq.symm hp8b; subst hp8; subst hp8b
  refine r_topi (y := b01 (inB (nI 33) (nI 126) vz)) (by rw [← inL_w]; rfl) ?_
  refine r_if_ne o (tgt := 17) dX10_say_11 (by decide) (fun hb11 => ?_) (fun hb11 => ?_)
  · skip
    rw [b01_ne0] at hb11
    refine r_aload_n o dX10_say_17 0 rfl ?_
    refine gf_11_2 o (v := nI cntq) hcq mw_700 dX10_say_18 ?_
    refine r_bipush o (v := nI 20) dX10_say_21 (by decide) ?_
    refine r_icmp_ne o (tgt := 29) dX10_say_23 (by decide) (fun hb23 => ?_) (fun hb23 => ?_)
    · skip
      rw [nI_eq (by omega) (by omega)] at hb23
      refine r_aload_n o dX10_say_29 0 rfl ?_
      refine gf_11_1 o mw_699 dX10_say_30 ?_
      refine r_aload_n o dX10_say_33 0 rfl ?_
      refine gf_11_2 o (v := nI cntq) hcq mw_700 dX10_say_34 ?_
      refine r_iload_n o dX10_say_37 1 rfl ?_
      refine r_iast o (by decide) ia_72 cntq rfl (by omega) (by decide) dX10_say_38 ?_
      refine r_aload_n o dX10_say_39 0 rfl ?_
      refine r_dup o dX10_say_40 rfl ?_
      refine gf_11_2 (σ := sti σ 72 cntq vz) o (v := nI cntq) hcq mw_700 dX10_say_41 ?_
      refine r_iconst o (v := nI 1) dX10_say_44 (by decide) ?_
      refine r_iadd o dX10_say_45 ?_
      refine r_topi (y := nI (cntq + 1)) (nI_add' _ _) ?_
      refine pf_11_2 o mw_700 dX10_say_46 ?_
      refine r_aload_n o dX10_say_49 0 rfl ?_
      refine gf_11_2 (σ := sti (sti σ 72 cntq vz) 11 2 (nI (cntq + 1))) o (v := nI (cntq + 1)) rfl mw_700 dX10_say_50 ?_
      exact r_ireturn o q dX10_say_53 (by rw [if_neg (by rw [hb11]; decide), if_neg (by omega)]; exact ⟨rfl, rfl⟩)
    · skip
      rw [nI_eq (by omega) (by omega)] at hb23
      refine r_bipush o (v := (-4)) dX10_say_26 (by decide) ?_
      exact r_ireturn o q dX10_say_28 (by rw [if_neg (by rw [hb11]; decide), if_pos (by omega)]; exact ⟨rfl, rfl⟩)
  · skip
    rw [b01_eq0] at hb11
    refine r_bipush o (v := (-2)) dX10_say_14 (by decide) ?_
    exact r_ireturn o q dX10_say_16 (by rw [if_pos hb11]; exact ⟨rfl, rfl⟩)
set_option maxHeartbeats 4000000 in
set_option maxRecDepth 100000 in
theorem c_X10_wipe (l : Launch) (G : Gl) (σ : Sto) (sn : Nat → Nat) (cntq : Nat) (hp : PadM σ sn cntq) : CtI l G yX10_wipe cX10_wipe 2 (some .int) 0 0 [.ref (gad G 11)] σ (fun r σ' => r = nI cntq ∧ σ' = sti σ 11 2 (nI 0)) := by
  refine CtI.of (by decide +kernel) (Nat.le_of_ble_eq_true rfl) (fun X o q => ?_)
  show WS X G 2 σ 0 [(0, .ref (gad G 11))] []
  obtain ⟨hcq, hcnt, hsg, hsn⟩ := id hp
  refine r_aload_n o dX10_wipe_0 0 rfl ?_
  refine gf_11_2 o (v := nI cntq) hcq mw_700 dX10_wipe_1 ?_
  refine r_istore_n o (lv' := [(1, .int (nI cntq)), (0, .ref (gad G 11))]) dX10_wipe_4 (by decide) rfl ?_
  refine r_aload_n o dX10_wipe_5 1 rfl ?_
  refine r_iconst o (v := nI 0) dX10_wipe_6 (by decide) ?_
  refine pf_11_2 o mw_700 dX10_wipe_7 ?_
  refine r_iload_n o dX10_wipe_10 0 rfl ?_
  exact r_ireturn o q dX10_wipe_11 (⟨rfl, rfl⟩)
set_option maxHeartbeats 4000000 in
set_option maxRecDepth 100000 in
theorem c_X10_dealt (l : Launch) (G : Gl) (σ : Sto) (sn : Nat → Nat) (cntq : Nat) (hp : PadM σ sn cntq) (hyb : ∀ rq, rq < 6 → BdF (yrF σ rq)) (rz : Int32) (yz : Int32) : CtI l G yX10_dealt cX10_dealt 3 (some .int) 5 115 [.ref (gad G 11), .int rz, .int yz] σ (fun r σ' => r = (if refI (inB (nI 0) (nI 5) rz) (inB (nI 0) (nI 23) yz) (fltF sn cntq 21 0) = 0 then (dlM σ sn cntq rz.toNatClampNeg) yz.toNatClampNeg else -1000000 + refI (inB (nI 0) (nI 5) rz) (inB (nI 0) (nI 23) yz) (fltF sn cntq 21 0)) ∧ keepM σ σ') := by
  refine CtI.of (by decide +kernel) (Nat.le_of_ble_eq_true rfl) (fun X o q => ?_)
  show WS X G 3 σ 0 [(0, .ref (gad G 11)), (1, .int rz), (2, .int yz)] []
  obtain ⟨hcq, hcnt, hsg, hsn⟩ := id hp
  refine r_iload_n o dX10_dealt_0 1 rfl ?_
  refine r_callSI o (As := [.int rz]) (st := []) (c_X10_isRow (xl X) G σ rz) om_X10_isRow mw_779 mw_778 (by decide) rfl rfl (Nat.le_of_ble_eq_true rfl) dX10_dealt_1 (fun rr1 σσ1 hp1 => ?_)
  obtain ⟨hp1, hp1b⟩ := hp1; replace hp1 := Eq.symm hp1; replace hp1b := Eq.symm hp1b; subst hp1; subst hp1b
  refine r_if_ne o (tgt := 10) dX10_dealt_4 (by decide) (fun hb4 => ?_) (fun hb4 => ?_)
  · skip
    rw [b01_ne0] at hb4
    have hk1 := hb4
    obtain ⟨hr1, hr2⟩ := inB_nI (n := 5) (by decide) hk1
    refine r_iload_n o dX10_dealt_10 2 rfl ?_
    refine r_callSI o (As := [.int yz]) (st := []) (c_X10_isYear (xl X) G σ yz) om_X10_isYear mw_787 mw_786 (by decide) rfl rfl (Nat.le_of_ble_eq_true rfl) dX10_dealt_11 (fun rr11 σσ11 hp11 => ?_)
    obtain ⟨hp11, hp11b⟩ := hp11; replace hp11 := Eq.symm hp11; replace hp11b := Eq.symm hp11b; subst hp11; subst hp11b
    refine r_if_ne o (tgt := 20) dX10_dealt_14 (by decide) (fun hb14 => ?_) (fun hb14 => ?_)
    · skip
      rw [b01_ne0] at hb14
      obtain ⟨hy1, hy2⟩ := inB_nI (n := 23) (by decide) hb14
      refine r_aload_n o dX10_dealt_20 0 rfl ?_
      refine r_callVI o (As := []) (st := []) (c_X10_fault (xl X) G σ sn cntq hp) om_X10_fault mw_804 mw_805 mw_827 (by decide) rfl rfl rfl (by decide) rfl rfl (Nat.le_of_ble_eq_true rfl) dX10_dealt_21 (fun rr21 σσ21 hp21 => ?_)
      obtain ⟨hp21, hp21b⟩ := hp21; replace hp21 := Eq.symm hp21; replace hp21b := Eq.symm hp21b; subst hp21; subst hp21b
      refine r_if_lt o (tgt := 30) dX10_dealt_24 (by decide) (fun hb24 => ?_) (fun hb24 => ?_)
      · skip
        have hno := flt_n hcnt hb24
        refine r_lv (lv' := [(0, .ref (gad G 11)), (1, .int (nI rz.toNatClampNeg)), (2, .int yz)]) (congrArg (fun zz => ([(0, .ref (gad G 11)), (1, .int zz), (2, .int yz)] : List (Nat × Value))) (hr1)) ?_
        refine r_lv (lv' := [(0, .ref (gad G 11)), (1, .int (nI rz.toNatClampNeg)), (2, .int (nI yz.toNatClampNeg))]) (congrArg (fun zz => ([(0, .ref (gad G 11)), (1, .int (nI rz.toNatClampNeg)), (2, .int zz)] : List (Nat × Value))) (hy1)) ?_
        refine r_aload_n o dX10_dealt_30 0 rfl ?_
        refine r_iload_n o dX10_dealt_31 1 rfl ?_
        refine r_callVV o (As := [.int (nI rz.toNatClampNeg)]) (st := []) (c_X10_deal (xl X) G σ sn cntq hp rz.toNatClampNeg (by omega) hno (hyb _ (by omega))) om_X10_deal mw_831 mw_18 mw_829 (by decide) rfl rfl rfl (by decide) rfl rfl (Nat.le_of_ble_eq_true rfl) dX10_dealt_32 (fun σσ32 hp32 => ?_)
        obtain ⟨hdd, hkk⟩ := hp32
        refine r_aload_n o dX10_dealt_35 0 rfl ?_
        refine gf_11_3 o mw_701 dX10_dealt_36 ?_
        refine r_iload_n o dX10_dealt_39 2 rfl ?_
        refine r_ia o (by decide) ia_73 (f := (σσ32 73).1) rfl yz.toNatClampNeg rfl (by omega) (by decide) dX10_dealt_40 ?_
        exact r_ireturn o q dX10_dealt_41 (⟨by rw [rf_0 hb4 hb14 hno, if_pos rfl]; exact hdd _ (by omega), ⟨fun cz h1 h2 => hkk cz (by omega) (by omega), fun kq _ _ _ _ => by rw [hkk 11 (by decide) (by decide)]⟩⟩)
      · skip
        have hfs := flt_s hb24
        refine r_ldc o mw_828 dX10_dealt_27 ?_
        exact r_ireturn o q dX10_dealt_29 (⟨by rw [rf_5 hb4 hb14 hfs, if_neg (by decide)]; rfl, keepM_rfl⟩)
    · skip
      rw [b01_eq0] at hb14
      refine r_ldc o mw_792 dX10_dealt_17 ?_
      exact r_ireturn o q dX10_dealt_19 (⟨by rw [rf_2 hb4 hb14, if_neg (by decide)]; rfl, keepM_rfl⟩)
  · skip
    rw [b01_eq0] at hb4
    refine r_ldc o mw_785 dX10_dealt_7 ?_
    exact r_ireturn o q dX10_dealt_9 (⟨by rw [rf_1 hb4, if_neg (by decide)]; rfl, keepM_rfl⟩)
set_option maxHeartbeats 4000000 in
set_option maxRecDepth 100000 in
theorem c_X10_isTrial (l : Launch) (G : Gl) (σ : Sto) (cntq : Nat) (prq : Nat) (trq : Nat) (hdr : DrM σ cntq prq trq) (tz : Int32) : CtI l G yX10_isTrial cX10_isTrial 2 (some .boolean) 1 25 [.ref (gad G 11), .int tz] σ (fun r σ' => r = b01 (hasB cntq tz) ∧ σ' = σ) := by
  refine CtI.of (by decide +kernel) (Nat.le_of_ble_eq_true rfl) (fun X o q => ?_)
  show WS X G 2 σ 0 [(0, .ref (gad G 11)), (1, .int tz)] []
  obtain ⟨hcq, hcnt, hpr, hprl, htr, htrl⟩ := id hdr
  have hpr20 : prq < 1048576 := pow_up hprl hcnt
  refine r_iload_n o dX10_isTrial_0 1 rfl ?_
  refine r_i2l o dX10_isTrial_1 rfl ?_
  refine r_lconst o (v := 0) dX10_isTrial_2 rfl ?_
  refine r_aload_n o dX10_isTrial_3 0 rfl ?_
  refine gf_11_21 o (v := nI cntq) hcq mw_719 dX10_isTrial_4 ?_
  refine r_iconst o (v := nI 1) dX10_isTrial_7 (by decide) ?_
  refine r_isub o dX10_isTrial_8 ?_
  refine r_i2l o dX10_isTrial_9 rfl ?_
  refine r_callSI o (As := [.long ((tz).toInt64), .long 0, .long (((nI cntq) - (nI 1)).toInt64)]) (st := []) (c_X10_in (xl X) G σ ((tz).toInt64) 0 (((nI cntq) - (nI 1)).toInt64)) om_X10_in mw_783 mw_782 (by decide) rfl rfl (Nat.le_of_ble_eq_true rfl) dX10_isTrial_10 (fun rr10 σσ10 hp10 => ?_)
  obtain ⟨hp10, hp10b⟩ := hp10; replace hp10 := Eq.symm hp10; replace hp10b := Eq.symm hp10b; subst hp10; subst hp10b
  refine r_topi (y := b01 (hasB cntq tz)) (congrArg b01 (trl_e hcnt)) ?_
  exact r_zreturn o q (b01_n _) dX10_isTrial_13 (⟨rfl, rfl⟩)
set_option maxHeartbeats 4000000 in
set_option maxRecDepth 100000 in
theorem c_X10_of (l : Launch) (G : Gl) (σ : Sto) (cntq : Nat) (prq : Nat) (trq : Nat) (hdr : DrM σ cntq prq trq) (tz : Int32) (wz : Int32) : CtI l G yX10_of cX10_of 3 (some .int) 2 46 [.ref (gad G 11), .int tz, .int wz] σ (fun r σ' => r = (if hasB cntq tz = false then -1 else if wz = nI 0 then (σ 81).1 tz.toNatClampNeg else if wz = nI 1 then (σ 82).1 tz.toNatClampNeg else if wz = nI 2 then (σ 83).1 tz.toNatClampNeg else if wz = nI 3 then b01 (prq.testBit tz.toNatClampNeg) else -2) ∧ σ' = σ) := by
  refine CtI.of (by decide +kernel) (Nat.le_of_ble_eq_true rfl) (fun X o q => ?_)
  show WS X G 3 σ 0 [(0, .ref (gad G 11)), (1, .int tz), (2, .int wz)] []
  obtain ⟨hcq, hcnt, hpr, hprl, htr, htrl⟩ := id hdr
  have hpr20 : prq < 1048576 := pow_up hprl hcnt
  refine r_aload_n o dX10_of_0 0 rfl ?_
  refine r_iload_n o dX10_of_1 1 rfl ?_
  refine r_callVI o (As := [.int tz]) (st := []) (c_X10_isTrial (xl X) G σ cntq prq trq hdr tz) om_X10_isTrial mw_973 mw_32 mw_971 (by decide) rfl rfl rfl (by decide) rfl rfl (Nat.le_of_ble_eq_true rfl) dX10_of_2 (fun rr2 σσ2 hp2 => ?_)
  obtain ⟨hp2, hp2b⟩ := hp2; replace hp2 := Eq.symm hp2; replace hp2b := Eq.symm hp2b; subst hp2; subst hp2b
  refine r_if_ne o (tgt := 10) dX10_of_5 (by decide) (fun hb5 => ?_) (fun hb5 => ?_)
  · skip
    rw [b01_ne0] at hb5
    obtain ⟨ht1, ht2⟩ := hasB_t hcnt hb5
    refine r_lv (lv' := [(0, .ref (gad G 11)), (1, .int (nI tz.toNatClampNeg)), (2, .int wz)]) (congrArg (fun zz => ([(0, .ref (gad G 11)), (1, .int zz), (2, .int wz)] : List (Nat × Value))) (ht1)) ?_
    refine r_iload_n o dX10_of_10 2 rfl ?_
    by_cases hs11_0 : wz = nI 0
    · skip
      refine r_topi (y := nI 0) (by rw [hs11_0]) ?_
      refine r_tableIn o (off := 29) (tgt := 40) dX10_of_11 (by decide) (by decide) rfl (by decide) ?_
      refine r_aload_n o dX10_of_40 0 rfl ?_
      refine gf_11_17 o mw_715 dX10_of_41 ?_
      refine r_iload_n o dX10_of_44 1 rfl ?_
      refine r_ia o (by decide) ia_81 (f := (σ 81).1) rfl tz.toNatClampNeg rfl (by omega) (by decide) dX10_of_45 ?_
      exact r_ireturn o q dX10_of_46 (⟨by rw [if_neg (by rw [hb5]; decide), if_pos hs11_0], rfl⟩)
    by_cases hs11_1 : wz = nI 1
    · skip
      refine r_topi (y := nI 1) (by rw [hs11_1]) ?_
      refine r_tableIn o (off := 36) (tgt := 47) dX10_of_11 (by decide) (by decide) rfl (by decide) ?_
      refine r_aload_n o dX10_of_47 0 rfl ?_
      refine gf_11_18 o mw_716 dX10_of_48 ?_
      refine r_iload_n o dX10_of_51 1 rfl ?_
      refine r_ia o (by decide) ia_82 (f := (σ 82).1) rfl tz.toNatClampNeg rfl (by omega) (by decide) dX10_of_52 ?_
      exact r_ireturn o q dX10_of_53 (⟨by rw [if_neg (by rw [hb5]; decide), if_neg hs11_0, if_pos hs11_1], rfl⟩)
    by_cases hs11_2 : wz = nI 2
    · skip
      refine r_topi (y := nI 2) (by rw [hs11_2]) ?_
      refine r_tableIn o (off := 43) (tgt := 54) dX10_of_11 (by decide) (by decide) rfl (by decide) ?_
      refine r_aload_n o dX10_of_54 0 rfl ?_
      refine gf_11_19 o mw_717 dX10_of_55 ?_
      refine r_iload_n o dX10_of_58 1 rfl ?_
      refine r_ia o (by decide) ia_83 (f := (σ 83).1) rfl tz.toNatClampNeg rfl (by omega) (by decide) dX10_of_59 ?_
      exact r_ireturn o q dX10_of_60 (⟨by rw [if_neg (by rw [hb5]; decide), if_neg hs11_0, if_neg hs11_1, if_pos hs11_2], rfl⟩)
    by_cases hs11_3 : wz = nI 3
    · skip
      refine r_topi (y := nI 3) (by rw [hs11_3]) ?_
      refine r_tableIn o (off := 50) (tgt := 61) dX10_of_11 (by decide) (by decide) rfl (by decide) ?_
      refine r_aload_n o dX10_of_61 0 rfl ?_
      refine gf_11_20 o (v := nI prq) hpr mw_718 dX10_of_62 ?_
      refine r_iload_n o dX10_of_65 1 rfl ?_
      refine r_ishr o dX10_of_66 ?_
      refine r_topi (y := nI (prq / 2 ^ tz.toNatClampNeg)) (nI_shr (by omega) (by omega)) ?_
      refine r_iconst o (v := nI 1) dX10_of_67 (by decide) ?_
      refine r_iand o dX10_of_68 ?_
      refine r_topi (y := nI ((prq / 2 ^ tz.toNatClampNeg) &&& 1)) (nI_and _ _) ?_
      exact r_ireturn o q dX10_of_69 (⟨by rw [if_neg (by rw [hb5]; decide), if_neg hs11_0, if_neg hs11_1, if_neg hs11_2, if_pos hs11_3]; exact bit_e _ _, rfl⟩)
    refine r_tableOut o (tgt := 70) dX10_of_11 (by have e0 := neN hs11_0 (by decide); have e1 := neN hs11_1 (by decide); have e2 := neN hs11_2 (by decide); have e3 := neN hs11_3 (by decide); omega) (by decide) ?_
    refine r_bipush o (v := (-2)) dX10_of_70 (by decide) ?_
    exact r_ireturn o q dX10_of_72 (⟨by rw [if_neg (by rw [hb5]; decide), if_neg hs11_0, if_neg hs11_1, if_neg hs11_2, if_neg hs11_3], rfl⟩)
  · skip
    rw [b01_eq0] at hb5
    refine r_iconst o (v := (-1)) dX10_of_8 (by decide) ?_
    exact r_ireturn o q dX10_of_9 (⟨by rw [if_pos hb5], rfl⟩)
set_option maxHeartbeats 4000000 in
set_option maxRecDepth 100000 in
theorem c_X10_print (l : Launch) (G : Gl) (σ : Sto) (cntq : Nat) (prq : Nat) (trq : Nat) (hdr : DrM σ cntq prq trq) (tz : Int32) (isq : Bool) : CtI l G yX10_print cX10_print 4 (some .int) 2 46 [.ref (gad G 11), .int tz, .int (b01 isq)] σ (fun r σ' => if hasB cntq tz = false then r = -1 ∧ σ' = σ else r = b01 (prq.testBit tz.toNatClampNeg) ∧ σ' = sti σ 11 20 (nI (if isq = true then prq ||| 1 * 2 ^ tz.toNatClampNeg else ndiff prq (1 * 2 ^ tz.toNatClampNeg)))) := by
  refine CtI.of (by decide +kernel) (Nat.le_of_ble_eq_true rfl) (fun X o q => ?_)
  show WS X G 4 σ 0 [(0, .ref (gad G 11)), (1, .int tz), (2, .int (b01 isq))] []
  obtain ⟨hcq, hcnt, hpr, hprl, htr, htrl⟩ := id hdr
  have hpr20 : prq < 1048576 := pow_up hprl hcnt
  refine r_aload_n o dX10_print_0 0 rfl ?_
  refine r_iload_n o dX10_print_1 1 rfl ?_
  refine r_callVI o (As := [.int tz]) (st := []) (c_X10_isTrial (xl X) G σ cntq prq trq hdr tz) om_X10_isTrial mw_973 mw_32 mw_971 (by decide) rfl rfl rfl (by decide) rfl rfl (Nat.le_of_ble_eq_true rfl) dX10_print_2 (fun rr2 σσ2 hp2 => ?_)
  obtain ⟨hp2, hp2b⟩ := hp2; replace hp2 := Eq.symm hp2; replace hp2b := Eq.symm hp2b; subst hp2; subst hp2b
  refine r_if_ne o (tgt := 10) dX10_print_5 (by decide) (fun hb5 => ?_) (fun hb5 => ?_)
  · skip
    rw [b01_ne0] at hb5
    obtain ⟨ht1, ht2⟩ := hasB_t hcnt hb5
    refine r_lv (lv' := [(0, .ref (gad G 11)), (1, .int (nI tz.toNatClampNeg)), (2, .int (b01 isq))]) (congrArg (fun zz => ([(0, .ref (gad G 11)), (1, .int zz), (2, .int (b01 isq))] : List (Nat × Value))) (ht1)) ?_
    refine r_aload_n o dX10_print_10 0 rfl ?_
    refine gf_11_20 o (v := nI prq) hpr mw_718 dX10_print_11 ?_
    refine r_iload_n o dX10_print_14 1 rfl ?_
    refine r_ishr o dX10_print_15 ?_
    refine r_topi (y := nI (prq / 2 ^ tz.toNatClampNeg)) (nI_shr (by omega) (by omega)) ?_
    refine r_iconst o (v := nI 1) dX10_print_16 (by decide) ?_
    refine r_iand o dX10_print_17 ?_
    refine r_topi (y := nI ((prq / 2 ^ tz.toNatClampNeg) &&& 1)) (nI_and _ _) ?_
    refine r_istore_n o (lv' := [(3, .int (nI ((prq / 2 ^ tz.toNatClampNeg) &&& 1))), (0, .ref (gad G 11)), (1, .int (nI tz.toNatClampNeg)), (2, .int (b01 isq))]) dX10_print_18 (by decide) rfl ?_
    refine r_aload_n o dX10_print_19 1 rfl ?_
    refine r_iload_n o dX10_print_20 3 rfl ?_
    refine r_if_eq o (tgt := 35) dX10_print_21 (by decide) (fun hb21 => ?_) (fun hb21 => ?_)
    · skip
      rw [b01_eq0] at hb21
      refine r_aload_n o dX10_print_35 1 rfl ?_
      refine gf_11_20 o (v := nI prq) hpr mw_718 dX10_print_36 ?_
      refine r_iconst o (v := nI 1) dX10_print_39 (by decide) ?_
      refine r_iload_n o dX10_print_40 2 rfl ?_
      refine r_ishl o dX10_print_41 ?_
      refine r_topi (y := nI (1 * 2 ^ tz.toNatClampNeg)) (nI_shl (by omega)) ?_
      refine r_iconst o (v := (-1)) dX10_print_42 (by decide) ?_
      refine r_ixor o dX10_print_43 ?_
      refine r_iand o dX10_print_44 ?_
      refine r_topi (y := nI (ndiff prq (1 * 2 ^ tz.toNatClampNeg))) nI_ndiff ?_
      refine pf_11_20 o mw_718 dX10_print_45 ?_
      refine r_iload_n o dX10_print_48 0 rfl ?_
      exact r_ireturn o q dX10_print_49 (by rw [if_neg (by rw [hb5]; decide)]; exact ⟨bit_e _ _, by first | rw [if_pos hb21] | rw [if_neg (by rw [hb21]; decide)]⟩)
    · skip
      rw [b01_ne0] at hb21
      refine r_aload_n o dX10_print_24 1 rfl ?_
      refine gf_11_20 o (v := nI prq) hpr mw_718 dX10_print_25 ?_
      refine r_iconst o (v := nI 1) dX10_print_28 (by decide) ?_
      refine r_iload_n o dX10_print_29 2 rfl ?_
      refine r_ishl o dX10_print_30 ?_
      refine r_topi (y := nI (1 * 2 ^ tz.toNatClampNeg)) (nI_shl (by omega)) ?_
      refine r_ior o dX10_print_31 ?_
      refine r_topi (y := nI (prq ||| (1 * 2 ^ tz.toNatClampNeg))) (nI_or _ _) ?_
      refine r_goto o (tgt := 45) dX10_print_32 (by decide) ?_
      refine pf_11_20 o mw_718 dX10_print_45 ?_
      refine r_iload_n o dX10_print_48 0 rfl ?_
      exact r_ireturn o q dX10_print_49 (by rw [if_neg (by rw [hb5]; decide)]; exact ⟨bit_e _ _, by first | rw [if_pos hb21] | rw [if_neg (by rw [hb21]; decide)]⟩)
  · skip
    rw [b01_eq0] at hb5
    refine r_iconst o (v := (-1)) dX10_print_8 (by decide) ?_
    exact r_ireturn o q dX10_print_9 (by rw [if_pos hb5]; exact ⟨rfl, rfl⟩)
set_option maxHeartbeats 4000000 in
set_option maxRecDepth 100000 in
theorem c_X10_reads (l : Launch) (G : Gl) (σ : Sto) (mz : Int32) (vz : Int32) : CtI l G yX10_reads cX10_reads 4 (some .int) 2 45 [.ref (gad G 11), .int mz, .int vz] σ (fun r σ' => if inB (nI 0) (nI 7) mz = false then r = -1 ∧ σ' = σ else if inB (nI 0) (nI 1048575) vz = false then r = -2 ∧ σ' = σ else r = (σ 84).1 mz.toNatClampNeg ∧ σ' = sti σ 84 mz.toNatClampNeg vz) := by
  refine CtI.of (by decide +kernel) (Nat.le_of_ble_eq_true rfl) (fun X o q => ?_)
  show WS X G 4 σ 0 [(0, .ref (gad G 11)), (1, .int mz), (2, .int vz)] []
  refine r_iload_n o dX10_reads_0 1 rfl ?_
  refine r_callSI o (As := [.int mz]) (st := []) (c_X10_isMan (xl X) G σ mz) om_X10_isMan mw_991 mw_990 (by decide) rfl rfl (Nat.le_of_ble_eq_true rfl) dX10_reads_1 (fun rr1 σσ1 hp1 => ?_)
  obtain ⟨hp1, hp1b⟩ := hp1; replace hp1 := Eq.symm hp1; replace hp1b := Eq.symm hp1b; subst hp1; subst hp1b
  refine r_if_ne o (tgt := 9) dX10_reads_4 (by decide) (fun hb4 => ?_) (fun hb4 => ?_)
  · skip
    rw [b01_ne0] at hb4
    obtain ⟨ht1, ht2⟩ := inB_nI (n := 7) (by decide) hb4
    refine r_lv (lv' := [(0, .ref (gad G 11)), (1, .int (nI mz.toNatClampNeg)), (2, .int vz)]) (congrArg (fun zz => ([(0, .ref (gad G 11)), (1, .int zz), (2, .int vz)] : List (Nat × Value))) (ht1)) ?_
    refine r_iload_n o dX10_reads_9 2 rfl ?_
    refine r_i2l o dX10_reads_10 rfl ?_
    refine r_lconst o (v := 0) dX10_reads_11 rfl ?_
    refine r_ldc2_w o mw_993 dX10_reads_12 ?_
    refine r_callSI o (As := [.long ((vz).toInt64), .long 0, .long 1048575]) (st := []) (c_X10_in (xl X) G σ ((vz).toInt64) 0 1048575) om_X10_in mw_783 mw_782 (by decide) rfl rfl (Nat.le_of_ble_eq_true rfl) dX10_reads_15 (fun rr15 σσ15 hp15 => ?_)
    obtain ⟨hp15, hp15b⟩ := hp15; replace hp15 := Eq.symm hp15; replace hp15b := Eq.symm hp15b; subst hp15; subst hp15b
    refine r_topi (y := b01 (inB (nI 0) (nI 1048575) vz)) (by rw [← inL_w]; rfl) ?_
    refine r_if_ne o (tgt := 24) dX10_reads_18 (by decide) (fun hb18 => ?_) (fun hb18 => ?_)
    · skip
      rw [b01_ne0] at hb18
      refine r_aload_n o dX10_reads_24 0 rfl ?_
      refine gf_11_22 o mw_720 dX10_reads_25 ?_
      refine r_iload_n o dX10_reads_28 1 rfl ?_
      refine r_ia o (by decide) ia_84 (f := (σ 84).1) rfl mz.toNatClampNeg rfl (by omega) (by decide) dX10_reads_29 ?_
      refine r_istore_n o (lv' := [(3, .int (((σ 84).1) mz.toNatClampNeg)), (0, .ref (gad G 11)), (1, .int (nI mz.toNatClampNeg)), (2, .int vz)]) dX10_reads_30 (by decide) rfl ?_
      refine r_aload_n o dX10_reads_31 1 rfl ?_
      refine gf_11_22 o mw_720 dX10_reads_32 ?_
      refine r_iload_n o dX10_reads_35 2 rfl ?_
      refine r_iload_n o dX10_reads_36 3 rfl ?_
      refine r_iast o (by decide) ia_84 mz.toNatClampNeg rfl (by omega) (by decide) dX10_reads_37 ?_
      refine r_iload_n o dX10_reads_38 0 rfl ?_
      exact r_ireturn o q dX10_reads_39 (by rw [if_neg (by rw [hb4]; decide), if_neg (by rw [hb18]; decide)]; exact ⟨rfl, rfl⟩)
    · skip
      rw [b01_eq0] at hb18
      refine r_bipush o (v := (-2)) dX10_reads_21 (by decide) ?_
      exact r_ireturn o q dX10_reads_23 (by rw [if_neg (by rw [hb4]; decide), if_pos hb18]; exact ⟨rfl, rfl⟩)
  · skip
    rw [b01_eq0] at hb4
    refine r_iconst o (v := (-1)) dX10_reads_7 (by decide) ?_
    exact r_ireturn o q dX10_reads_8 (by rw [if_pos hb4]; exact ⟨rfl, rfl⟩)
set_option maxHeartbeats 4000000 in
set_option maxRecDepth 100000 in
theorem c_X10_bar (l : Launch) (G : Gl) (σ : Sto) (vz : Int32) : CtI l G yX10_bar cX10_bar 3 (some .int) 1 25 [.ref (gad G 11), .int vz] σ (fun r σ' => if inB (nI 0) (nI 100) vz = false then r = -2 ∧ σ' = σ else r = (σ 11).1 23 ∧ σ' = sti σ 11 23 vz) := by
  refine CtI.of (by decide +kernel) (Nat.le_of_ble_eq_true rfl) (fun X o q => ?_)
  show WS X G 3 σ 0 [(0, .ref (gad G 11)), (1, .int vz)] []
  refine r_iload_n o dX10_bar_0 1 rfl ?_
  refine r_i2l o dX10_bar_1 rfl ?_
  refine r_lconst o (v := 0) dX10_bar_2 rfl ?_
  refine r_ldc2_w o mw_912 dX10_bar_3 ?_
  refine r_callSI o (As := [.long ((vz).toInt64), .long 0, .long 100]) (st := []) (c_X10_in (xl X) G σ ((vz).toInt64) 0 100) om_X10_in mw_783 mw_782 (by decide) rfl rfl (Nat.le_of_ble_eq_true rfl) dX10_bar_6 (fun rr6 σσ6 hp6 => ?_)
  obtain ⟨hp6, hp6b⟩ := hp6; replace hp6 := Eq.symm hp6; replace hp6b := Eq.symm hp6b; subst hp6; subst hp6b
  refine r_topi (y := b01 (inB (nI 0) (nI 100) vz)) (by rw [← inL_w]; rfl) ?_
  refine r_if_ne o (tgt := 15) dX10_bar_9 (by decide) (fun hb9 => ?_) (fun hb9 => ?_)
  · skip
    rw [b01_ne0] at hb9
    refine r_aload_n o dX10_bar_15 0 rfl ?_
    refine gf_11_23 o (v := (σ 11).1 23) rfl mw_721 dX10_bar_16 ?_
    refine r_istore_n o (lv' := [(2, .int ((σ 11).1 23)), (0, .ref (gad G 11)), (1, .int vz)]) dX10_bar_19 (by decide) rfl ?_
    refine r_aload_n o dX10_bar_20 1 rfl ?_
    refine r_iload_n o dX10_bar_21 2 rfl ?_
    refine pf_11_23 o mw_721 dX10_bar_22 ?_
    refine r_iload_n o dX10_bar_25 0 rfl ?_
    exact r_ireturn o q dX10_bar_26 (by rw [if_neg (by rw [hb9]; decide)]; exact ⟨rfl, rfl⟩)
  · skip
    rw [b01_eq0] at hb9
    refine r_bipush o (v := (-2)) dX10_bar_12 (by decide) ?_
    exact r_ireturn o q dX10_bar_14 (by rw [if_pos hb9]; exact ⟨rfl, rfl⟩)
set_option maxHeartbeats 4000000 in
set_option maxRecDepth 100000 in
theorem c_X10_truth (l : Launch) (G : Gl) (σ : Sto) (vz : Int32) : CtI l G yX10_truth cX10_truth 3 (some .int) 1 25 [.ref (gad G 11), .int vz] σ (fun r σ' => if inB (nI 0) (nI 1048575) vz = false then r = -2 ∧ σ' = σ else r = (σ 11).1 24 ∧ σ' = sti σ 11 24 vz) := by
  refine CtI.of (by decide +kernel) (Nat.le_of_ble_eq_true rfl) (fun X o q => ?_)
  show WS X G 3 σ 0 [(0, .ref (gad G 11)), (1, .int vz)] []
  refine r_iload_n o dX10_truth_0 1 rfl ?_
  refine r_i2l o dX10_truth_1 rfl ?_
  refine r_lconst o (v := 0) dX10_truth_2 rfl ?_
  refine r_ldc2_w o mw_993 dX10_truth_3 ?_
  refine r_callSI o (As := [.long ((vz).toInt64), .long 0, .long 1048575]) (st := []) (c_X10_in (xl X) G σ ((vz).toInt64) 0 1048575) om_X10_in mw_783 mw_782 (by decide) rfl rfl (Nat.le_of_ble_eq_true rfl) dX10_truth_6 (fun rr6 σσ6 hp6 => ?_)
  obtain ⟨hp6, hp6b⟩ := hp6; replace hp6 := Eq.symm hp6; replace hp6b := Eq.symm hp6b; subst hp6; subst hp6b
  refine r_topi (y := b01 (inB (nI 0) (nI 1048575) vz)) (by rw [← inL_w]; rfl) ?_
  refine r_if_ne o (tgt := 15) dX10_truth_9 (by decide) (fun hb9 => ?_) (fun hb9 => ?_)
  · skip
    rw [b01_ne0] at hb9
    refine r_aload_n o dX10_truth_15 0 rfl ?_
    refine gf_11_24 o (v := (σ 11).1 24) rfl mw_722 dX10_truth_16 ?_
    refine r_istore_n o (lv' := [(2, .int ((σ 11).1 24)), (0, .ref (gad G 11)), (1, .int vz)]) dX10_truth_19 (by decide) rfl ?_
    refine r_aload_n o dX10_truth_20 1 rfl ?_
    refine r_iload_n o dX10_truth_21 2 rfl ?_
    refine pf_11_24 o mw_722 dX10_truth_22 ?_
    refine r_iload_n o dX10_truth_25 0 rfl ?_
    exact r_ireturn o q dX10_truth_26 (by rw [if_neg (by rw [hb9]; decide)]; exact ⟨rfl, rfl⟩)
  · skip
    rw [b01_eq0] at hb9
    refine r_bipush o (v := (-2)) dX10_truth_12 (by decide) ?_
    exact r_ireturn o q dX10_truth_14 (by rw [if_pos hb9]; exact ⟨rfl, rfl⟩)
set_option maxHeartbeats 4000000 in
set_option maxRecDepth 100000 in
theorem c_X10_told (l : Launch) (G : Gl) (σ : Sto) (scnt : Nat) (hsc : (σ 11).1 2 = nI scnt) (rdq : Nat → Nat) (barq : Nat) (hrd : RdM σ rdq barq) (cntq : Nat) (prq : Nat) (trq : Nat) (hdr : DrM σ cntq prq trq) (wz : Int32) : CtI l G yX10_told cX10_told 4 (some .int) 1 25 [.ref (gad G 11), .int wz] σ (fun r σ' => r = (if wz = nI 0 then nI scnt else if wz = nI 1 then nI cntq else if wz = nI 2 then nI prq else if wz = nI 3 then nI barq else if wz = nI 4 then nI (trq &&& (2 ^ cntq - 1)) else if inB (nI 0) (nI 5) (wz - nI 10) = true then nI (gcnt (yrF σ (wz - nI 10).toNatClampNeg) 24) else -2) ∧ σ' = σ) := by
  refine CtI.of (by decide +kernel) (Nat.le_of_ble_eq_true rfl) (fun X o q => ?_)
  show WS X G 4 σ 0 [(0, .ref (gad G 11)), (1, .int wz)] []
  obtain ⟨hbr, hbrl, hrdv, hrdl⟩ := id hrd
  obtain ⟨hcq, hcnt, hpr, hprl, htr, htrl⟩ := id hdr
  have hpr20 : prq < 1048576 := pow_up hprl hcnt
  have hw := nI_wpow hcnt
  have hw1 : 1 ≤ 2 ^ cntq := Nat.one_le_two_pow
  refine r_iload_n o dX10_told_0 1 rfl ?_
  refine r_i2l o dX10_told_1 rfl ?_
  refine r_ldc2_w o mw_1032 dX10_told_2 ?_
  refine r_ldc2_w o mw_1033 dX10_told_5 ?_
  refine r_callSI o (As := [.long ((wz).toInt64), .long 10, .long 15]) (st := []) (c_X10_in (xl X) G σ ((wz).toInt64) 10 15) om_X10_in mw_783 mw_782 (by decide) rfl rfl (Nat.le_of_ble_eq_true rfl) dX10_told_8 (fun rr8 σσ8 hp8 => ?_)
  obtain ⟨hp8, hp8b⟩ := hp8; replace hp8 := Eq.symm hp8; replace hp8b := Eq.symm hp8b; subst hp8; subst hp8b
  refine r_topi (y := b01 (inB (nI 10) (nI 15) wz)) (by rw [← inL_w]; rfl) ?_
  refine r_if_eq o (tgt := 59) dX10_told_11 (by decide) (fun hb11 => ?_) (fun hb11 => ?_)
  · skip
    rw [b01_eq0] at hb11
    refine r_iload_n o dX10_told_59 1 rfl ?_
    by_cases hs60_0 : wz = nI 0
    · skip
      refine r_topi (y := nI 0) (by rw [hs60_0]) ?_
      refine r_tableIn o (off := 36) (tgt := 96) dX10_told_60 (by decide) (by decide) rfl (by decide) ?_
      refine r_aload_n o dX10_told_96 0 rfl ?_
      refine gf_11_2 o (v := nI scnt) hsc mw_700 dX10_told_97 ?_
      exact r_ireturn o q dX10_told_100 (⟨by rw [if_pos hs60_0], rfl⟩)
    by_cases hs60_1 : wz = nI 1
    · skip
      refine r_topi (y := nI 1) (by rw [hs60_1]) ?_
      refine r_tableIn o (off := 41) (tgt := 101) dX10_told_60 (by decide) (by decide) rfl (by decide) ?_
      refine r_aload_n o dX10_told_101 0 rfl ?_
      refine gf_11_21 o (v := nI cntq) hcq mw_719 dX10_told_102 ?_
      exact r_ireturn o q dX10_told_105 (⟨by rw [if_neg hs60_0, if_pos hs60_1], rfl⟩)
    by_cases hs60_2 : wz = nI 2
    · skip
      refine r_topi (y := nI 2) (by rw [hs60_2]) ?_
      refine r_tableIn o (off := 46) (tgt := 106) dX10_told_60 (by decide) (by decide) rfl (by decide) ?_
      refine r_aload_n o dX10_told_106 0 rfl ?_
      refine gf_11_20 o (v := nI prq) hpr mw_718 dX10_told_107 ?_
      exact r_ireturn o q dX10_told_110 (⟨by rw [if_neg hs60_0, if_neg hs60_1, if_pos hs60_2], rfl⟩)
    by_cases hs60_3 : wz = nI 3
    · skip
      refine r_topi (y := nI 3) (by rw [hs60_3]) ?_
      refine r_tableIn o (off := 51) (tgt := 111) dX10_told_60 (by decide) (by decide) rfl (by decide) ?_
      refine r_aload_n o dX10_told_111 0 rfl ?_
      refine gf_11_23 o (v := nI barq) hbr mw_721 dX10_told_112 ?_
      exact r_ireturn o q dX10_told_115 (⟨by rw [if_neg hs60_0, if_neg hs60_1, if_neg hs60_2, if_pos hs60_3], rfl⟩)
    by_cases hs60_4 : wz = nI 4
    · skip
      refine r_topi (y := nI 4) (by rw [hs60_4]) ?_
      refine r_tableIn o (off := 56) (tgt := 116) dX10_told_60 (by decide) (by decide) rfl (by decide) ?_
      refine r_aload_n o dX10_told_116 0 rfl ?_
      refine gf_11_24 o (v := nI trq) htr mw_722 dX10_told_117 ?_
      refine r_iconst o (v := nI 1) dX10_told_120 (by decide) ?_
      refine r_aload_n o dX10_told_121 0 rfl ?_
      refine gf_11_21 o (v := nI cntq) hcq mw_719 dX10_told_122 ?_
      refine r_ishl o dX10_told_125 ?_
      refine r_topi (y := nI (1 * 2 ^ cntq)) (nI_shl (by omega)) ?_
      refine r_iconst o (v := nI 1) dX10_told_126 (by decide) ?_
      refine r_isub o dX10_told_127 ?_
      refine r_topi (y := nI ((1 * 2 ^ cntq) - 1)) (nI_sub' (by omega)) ?_
      refine r_iand o dX10_told_128 ?_
      refine r_topi (y := nI (trq &&& ((1 * 2 ^ cntq) - 1))) (nI_and _ _) ?_
      exact r_ireturn o q dX10_told_129 (⟨by rw [if_neg hs60_0, if_neg hs60_1, if_neg hs60_2, if_neg hs60_3, if_pos hs60_4, Nat.one_mul], rfl⟩)
    refine r_tableOut o (tgt := 130) dX10_told_60 (by have e0 := neN hs60_0 (by decide); have e1 := neN hs60_1 (by decide); have e2 := neN hs60_2 (by decide); have e3 := neN hs60_3 (by decide); have e4 := neN hs60_4 (by decide); omega) (by decide) ?_
    refine r_bipush o (v := (-2)) dX10_told_130 (by decide) ?_
    exact r_ireturn o q dX10_told_132 (⟨by rw [if_neg hs60_0, if_neg hs60_1, if_neg hs60_2, if_neg hs60_3, if_neg hs60_4, if_neg (told_n hb11)], rfl⟩)
  · skip
    rw [b01_ne0] at hb11
    obtain ⟨kx0, hkv, hk1, hk2⟩ := inB_lo (by decide) (by decide) hb11
    refine r_lv (lv' := [(0, .ref (gad G 11)), (1, .int (nI kx0))]) (congrArg (fun zz => ([(0, .ref (gad G 11)), (1, .int zz)] : List (Nat × Value))) (hkv)) ?_
    refine r_iconst o (v := nI 0) dX10_told_14 (by decide) ?_
    refine r_istore_n o (lv' := [(2, .int (nI 0)), (0, .ref (gad G 11)), (1, .int (nI kx0))]) dX10_told_15 (by decide) rfl ?_
    refine r_iconst o (v := nI 0) dX10_told_16 (by decide) ?_
    refine r_istore_n o (lv' := [(3, .int (nI 0)), (2, .int (nI 0)), (0, .ref (gad G 11)), (1, .int (nI kx0))]) dX10_told_17 (by decide) rfl ?_
    have L18 : ∀ (n : Nat) (kq : Nat) (hkq : kq ≤ 24), 24 - kq < n → WS X G 4 σ 18 [(0, .ref (gad G 11)), (1, .int (nI kx0)), (2, .int (nI (gcnt (yrF σ (kx0 - 10)) kq))), (3, .int (nI kq))] [] := by
      intro n
      induction n with
      | zero => intro kq hkq hm; exact absurd hm (Nat.not_lt_zero _)
      | succ n ih18 =>
        intro kq hkq hm
        refine r_iload_n o dX10_told_18 3 rfl ?_
        refine r_bipush o (v := nI 24) dX10_told_19 (by decide) ?_
        refine r_icmp_ge o (tgt := 57) dX10_told_21 (by decide) (fun hb21 => ?_) (fun hb21 => ?_)
        · skip
          rw [nI_leI (by omega) (by omega)] at hb21
          obtain rfl : kq = 24 := by omega
          refine r_iload_n o dX10_told_57 2 rfl ?_
          exact r_ireturn o q dX10_told_58 (⟨told_e (gf := fun zq => nI (gcnt (yrF σ zq) 24)) hkv hk1 hk2, rfl⟩)
        · skip
          rw [nI_leI (by omega) (by omega)] at hb21
          refine r_iload_n o dX10_told_24 2 rfl ?_
          refine r_aload_n o dX10_told_25 0 rfl ?_
          refine gf_11_0 o mw_698 dX10_told_26 ?_
          refine r_bipush o (v := nI 24) dX10_told_29 (by decide) ?_
          refine r_iload_n o dX10_told_31 1 rfl ?_
          refine r_bipush o (v := nI 10) dX10_told_32 (by decide) ?_
          refine r_isub o dX10_told_34 ?_
          refine r_topi (y := nI (kx0 - 10)) (nI_sub' (by omega)) ?_
          refine r_imul o dX10_told_35 ?_
          refine r_topi (y := nI (24 * (kx0 - 10))) (nI_mul' _ _) ?_
          refine r_iload_n o dX10_told_36 3 rfl ?_
          refine r_iadd o dX10_told_37 ?_
          refine r_topi (y := nI (24 * (kx0 - 10) + kq)) (nI_add' _ _) ?_
          refine r_ia o (by decide) ia_71 (f := (σ 71).1) rfl (24 * (kx0 - 10) + kq) rfl (by omega) (by decide) dX10_told_38 ?_
          refine r_ldc o mw_697 dX10_told_39 ?_
          refine r_icmp_ne o (tgt := 48) dX10_told_41 (by decide) (fun hb41 => ?_) (fun hb41 => ?_)
          · skip
            refine r_iconst o (v := nI 1) dX10_told_48 (by decide) ?_
            refine r_iadd o dX10_told_49 ?_
            refine r_topi (y := nI (gcnt (yrF σ (kx0 - 10)) kq + 1)) (nI_add' _ _) ?_
            refine r_istore_n o (lv' := [(2, .int (nI (gcnt (yrF σ (kx0 - 10)) kq + 1))), (0, .ref (gad G 11)), (1, .int (nI kx0)), (3, .int (nI kq))]) dX10_told_50 (by decide) rfl ?_
            refine r_lv (lv' := [(2, .int (nI (gcnt (yrF σ (kx0 - 10)) (kq + 1)))), (0, .ref (gad G 11)), (1, .int (nI kx0)), (3, .int (nI kq))]) (congrArg (fun zz => ([(2, .int zz), (0, .ref (gad G 11)), (1, .int (nI kx0)), (3, .int (nI kq))] : List (Nat × Value))) (show nI (gcnt (yrF σ (kx0 - 10)) kq + 1) = nI (gcnt (yrF σ (kx0 - 10)) (kq + 1)) from congrArg nI (gcnt_n (fq := yrF σ (kx0 - 10)) hb41).symm)) ?_
            refine r_iinc o (v := nI (kq + 1)) (lv' := [(3, .int (nI (kq + 1))), (2, .int (nI (gcnt (yrF σ (kx0 - 10)) (kq + 1)))), (0, .ref (gad G 11)), (1, .int (nI kx0))]) dX10_told_51 3 rfl (nI_inc _) (by decide) rfl ?_
            refine r_goto o (tgt := 18) dX10_told_54 (by decide) ?_
            exact r_to rfl [2, 3, 1, 0] rfl (ih18 (kq + 1) (by omega) (by omega))
          · skip
            refine r_iconst o (v := nI 0) dX10_told_44 (by decide) ?_
            refine r_goto o (tgt := 49) dX10_told_45 (by decide) ?_
            refine r_iadd o dX10_told_49 ?_
            refine r_topi (y := nI (gcnt (yrF σ (kx0 - 10)) kq + 0)) (nI_add' _ _) ?_
            refine r_istore_n o (lv' := [(2, .int (nI (gcnt (yrF σ (kx0 - 10)) kq + 0))), (0, .ref (gad G 11)), (1, .int (nI kx0)), (3, .int (nI kq))]) dX10_told_50 (by decide) rfl ?_
            refine r_lv (lv' := [(2, .int (nI (gcnt (yrF σ (kx0 - 10)) (kq + 1)))), (0, .ref (gad G 11)), (1, .int (nI kx0)), (3, .int (nI kq))]) (congrArg (fun zz => ([(2, .int zz), (0, .ref (gad G 11)), (1, .int (nI kx0)), (3, .int (nI kq))] : List (Nat × Value))) (show nI (gcnt (yrF σ (kx0 - 10)) kq + 0) = nI (gcnt (yrF σ (kx0 - 10)) (kq + 1)) from congrArg nI (gcnt_g (fq := yrF σ (kx0 - 10)) hb41).symm)) ?_
            refine r_iinc o (v := nI (kq + 1)) (lv' := [(3, .int (nI (kq + 1))), (2, .int (nI (gcnt (yrF σ (kx0 - 10)) (kq + 1)))), (0, .ref (gad G 11)), (1, .int (nI kx0))]) dX10_told_51 3 rfl (nI_inc _) (by decide) rfl ?_
            refine r_goto o (tgt := 18) dX10_told_54 (by decide) ?_
            exact r_to rfl [2, 3, 1, 0] rfl (ih18 (kq + 1) (by omega) (by omega))
    exact r_to rfl [2, 3, 1, 0] rfl (L18 _ 0 (by omega) (Nat.lt_succ_self _))
set_option maxHeartbeats 4000000 in
set_option maxRecDepth 100000 in
theorem c_X10_goodBy (l : Launch) (G : Gl) (σ : Sto) (cntq : Nat) (prq : Nat) (trq : Nat) (hdr : DrM σ cntq prq trq) (pf2 : Nat → Int32) (hpf : (σ 83).1 = pf2) (rz : Int32) : CtI l G yX10_goodBy cX10_goodBy 4 (some .int) 0 0 [.ref (gad G 11), .int rz] σ (fun r σ' => r = gdI pf2 cntq trq rz ∧ σ' = σ) := by
  refine CtI.of (by decide +kernel) (Nat.le_of_ble_eq_true rfl) (fun X o q => ?_)
  show WS X G 4 σ 0 [(0, .ref (gad G 11)), (1, .int rz)] []
  obtain ⟨hcq, hcnt, hpr, hprl, htr, htrl⟩ := id hdr
  have hpr20 : prq < 1048576 := pow_up hprl hcnt
  refine r_iconst o (v := nI 0) dX10_goodBy_0 (by decide) ?_
  refine r_istore_n o (lv' := [(2, .int (nI 0)), (0, .ref (gad G 11)), (1, .int rz)]) dX10_goodBy_1 (by decide) rfl ?_
  refine r_iconst o (v := nI 0) dX10_goodBy_2 (by decide) ?_
  refine r_istore_n o (lv' := [(3, .int (nI 0)), (2, .int (nI 0)), (0, .ref (gad G 11)), (1, .int rz)]) dX10_goodBy_3 (by decide) rfl ?_
  have L4 : ∀ (n : Nat) (kq : Nat) (hkq : kq ≤ cntq), cntq - kq < n → WS X G 4 σ 4 [(0, .ref (gad G 11)), (1, .int rz), (2, .int (smX (kpt pf2 rz cntq) trq kq)), (3, .int (nI kq))] [] := by
    intro n
    induction n with
    | zero => intro kq hkq hm; exact absurd hm (Nat.not_lt_zero _)
    | succ n ih4 =>
      intro kq hkq hm
      have hand : trq / 2 ^ kq &&& 1 ≤ 1 := Nat.and_le_right
      refine r_iload_n o dX10_goodBy_4 3 rfl ?_
      refine r_aload_n o dX10_goodBy_5 0 rfl ?_
      refine gf_11_21 o (v := nI cntq) hcq mw_719 dX10_goodBy_6 ?_
      refine r_icmp_ge o (tgt := 52) dX10_goodBy_9 (by decide) (fun hb9 => ?_) (fun hb9 => ?_)
      · skip
        rw [nI_leI (by omega) (by omega)] at hb9
        obtain rfl : cntq = kq := by omega
        refine r_iload_n o dX10_goodBy_52 2 rfl ?_
        exact r_ireturn o q dX10_goodBy_53 (⟨sm_gd hcnt, rfl⟩)
      · skip
        rw [nI_leI (by omega) (by omega)] at hb9
        refine r_iload_n o dX10_goodBy_12 2 rfl ?_
        refine r_aload_n o dX10_goodBy_13 0 rfl ?_
        refine gf_11_19 o mw_717 dX10_goodBy_14 ?_
        refine r_iload_n o dX10_goodBy_17 3 rfl ?_
        refine r_ia o (by decide) ia_83 (f := pf2) hpf kq rfl (by omega) (by decide) dX10_goodBy_18 ?_
        refine r_iload_n o dX10_goodBy_19 1 rfl ?_
        refine r_icmp_ge o (tgt := 27) dX10_goodBy_20 (by decide) (fun hb20 => ?_) (fun hb20 => ?_)
        · skip
          refine r_aload_n o dX10_goodBy_27 0 rfl ?_
          refine gf_11_24 o (v := nI trq) htr mw_722 dX10_goodBy_28 ?_
          refine r_iload_n o dX10_goodBy_31 3 rfl ?_
          refine r_ishr o dX10_goodBy_32 ?_
          refine r_topi (y := nI (trq / 2 ^ kq)) (nI_shr (by omega) (by omega)) ?_
          refine r_iconst o (v := nI 1) dX10_goodBy_33 (by decide) ?_
          refine r_iand o dX10_goodBy_34 ?_
          refine r_topi (y := nI ((trq / 2 ^ kq) &&& 1)) (nI_and _ _) ?_
          refine r_iconst o (v := nI 1) dX10_goodBy_35 (by decide) ?_
          refine r_icmp_ne o (tgt := 43) dX10_goodBy_36 (by decide) (fun hb36 => ?_) (fun hb36 => ?_)
          · skip
            rw [nI_eq (by omega) (by omega)] at hb36
            refine r_iconst o (v := (-1)) dX10_goodBy_43 (by decide) ?_
            refine r_iadd o dX10_goodBy_44 ?_
            refine r_istore_n o (lv' := [(2, .int ((smX (kpt pf2 rz cntq) trq kq) + (-1))), (0, .ref (gad G 11)), (1, .int rz), (3, .int (nI kq))]) dX10_goodBy_45 (by decide) rfl ?_
            refine r_lv (lv' := [(2, .int (smX (kpt pf2 rz cntq) trq (kq + 1))), (0, .ref (gad G 11)), (1, .int rz), (3, .int (nI kq))]) (congrArg (fun zz => ([(2, .int zz), (0, .ref (gad G 11)), (1, .int rz), (3, .int (nI kq))] : List (Nat × Value))) (show (smX (kpt pf2 rz cntq) trq kq) + (-1) = smX (kpt pf2 rz cntq) trq (kq + 1) from smX_m (by rw [kpt_in (by omega), decide_eq_false (i_nlt.mpr hb20)]; rfl) (Bool.eq_false_iff.mpr (fun zq => hb36 (tstb.mpr zq))))) ?_
            refine r_iinc o (v := nI (kq + 1)) (lv' := [(3, .int (nI (kq + 1))), (2, .int (smX (kpt pf2 rz cntq) trq (kq + 1))), (0, .ref (gad G 11)), (1, .int rz)]) dX10_goodBy_46 3 rfl (nI_inc _) (by decide) rfl ?_
            refine r_goto o (tgt := 4) dX10_goodBy_49 (by decide) ?_
            exact r_to rfl [2, 3, 1, 0] rfl (ih4 (kq + 1) (by omega) (by omega))
          · skip
            rw [nI_eq (by omega) (by omega)] at hb36
            refine r_iconst o (v := nI 1) dX10_goodBy_39 (by decide) ?_
            refine r_goto o (tgt := 44) dX10_goodBy_40 (by decide) ?_
            refine r_iadd o dX10_goodBy_44 ?_
            refine r_istore_n o (lv' := [(2, .int ((smX (kpt pf2 rz cntq) trq kq) + (nI 1))), (0, .ref (gad G 11)), (1, .int rz), (3, .int (nI kq))]) dX10_goodBy_45 (by decide) rfl ?_
            refine r_lv (lv' := [(2, .int (smX (kpt pf2 rz cntq) trq (kq + 1))), (0, .ref (gad G 11)), (1, .int rz), (3, .int (nI kq))]) (congrArg (fun zz => ([(2, .int zz), (0, .ref (gad G 11)), (1, .int rz), (3, .int (nI kq))] : List (Nat × Value))) (show (smX (kpt pf2 rz cntq) trq kq) + (nI 1) = smX (kpt pf2 rz cntq) trq (kq + 1) from smX_1 (by rw [kpt_in (by omega), decide_eq_false (i_nlt.mpr hb20)]; rfl) (tstb.mp hb36))) ?_
            refine r_iinc o (v := nI (kq + 1)) (lv' := [(3, .int (nI (kq + 1))), (2, .int (smX (kpt pf2 rz cntq) trq (kq + 1))), (0, .ref (gad G 11)), (1, .int rz)]) dX10_goodBy_46 3 rfl (nI_inc _) (by decide) rfl ?_
            refine r_goto o (tgt := 4) dX10_goodBy_49 (by decide) ?_
            exact r_to rfl [2, 3, 1, 0] rfl (ih4 (kq + 1) (by omega) (by omega))
        · skip
          refine r_iconst o (v := nI 0) dX10_goodBy_23 (by decide) ?_
          refine r_goto o (tgt := 44) dX10_goodBy_24 (by decide) ?_
          refine r_iadd o dX10_goodBy_44 ?_
          refine r_istore_n o (lv' := [(2, .int ((smX (kpt pf2 rz cntq) trq kq) + (nI 0))), (0, .ref (gad G 11)), (1, .int rz), (3, .int (nI kq))]) dX10_goodBy_45 (by decide) rfl ?_
          refine r_lv (lv' := [(2, .int (smX (kpt pf2 rz cntq) trq (kq + 1))), (0, .ref (gad G 11)), (1, .int rz), (3, .int (nI kq))]) (congrArg (fun zz => ([(2, .int zz), (0, .ref (gad G 11)), (1, .int rz), (3, .int (nI kq))] : List (Nat × Value))) (show (smX (kpt pf2 rz cntq) trq kq) + (nI 0) = smX (kpt pf2 rz cntq) trq (kq + 1) from smX_0 (by rw [kpt_in (by omega), decide_eq_true (i_nle.mp hb20)]; rfl))) ?_
          refine r_iinc o (v := nI (kq + 1)) (lv' := [(3, .int (nI (kq + 1))), (2, .int (smX (kpt pf2 rz cntq) trq (kq + 1))), (0, .ref (gad G 11)), (1, .int rz)]) dX10_goodBy_46 3 rfl (nI_inc _) (by decide) rfl ?_
          refine r_goto o (tgt := 4) dX10_goodBy_49 (by decide) ?_
          exact r_to rfl [2, 3, 1, 0] rfl (ih4 (kq + 1) (by omega) (by omega))
  exact r_to rfl [2, 3, 1, 0] rfl (L4 _ 0 (by omega) (Nat.lt_succ_self _))
set_option maxHeartbeats 4000000 in
set_option maxRecDepth 100000 in
theorem c_X10_good (l : Launch) (G : Gl) (σ : Sto) (cntq : Nat) (prq : Nat) (trq : Nat) (hdr : DrM σ cntq prq trq) (pf2 : Nat → Int32) (hpf : (σ 83).1 = pf2) (vz : Int32) : CtI l G yX10_good cX10_good 2 (some .int) 1 25 [.ref (gad G 11), .int vz] σ (fun r σ' => r = (if inB (nI 0) (nI 101) vz = false then -1000002 else gdI pf2 cntq trq vz) ∧ σ' = σ) := by
  refine CtI.of (by decide +kernel) (Nat.le_of_ble_eq_true rfl) (fun X o q => ?_)
  show WS X G 2 σ 0 [(0, .ref (gad G 11)), (1, .int vz)] []
  obtain ⟨hcq, hcnt, hpr, hprl, htr, htrl⟩ := id hdr
  have hpr20 : prq < 1048576 := pow_up hprl hcnt
  refine r_iload_n o dX10_good_0 1 rfl ?_
  refine r_i2l o dX10_good_1 rfl ?_
  refine r_lconst o (v := 0) dX10_good_2 rfl ?_
  refine r_ldc2_w o mw_1019 dX10_good_3 ?_
  refine r_callSI o (As := [.long ((vz).toInt64), .long 0, .long 101]) (st := []) (c_X10_in (xl X) G σ ((vz).toInt64) 0 101) om_X10_in mw_783 mw_782 (by decide) rfl rfl (Nat.le_of_ble_eq_true rfl) dX10_good_6 (fun rr6 σσ6 hp6 => ?_)
  obtain ⟨hp6, hp6b⟩ := hp6; replace hp6 := Eq.symm hp6; replace hp6b := Eq.symm hp6b; subst hp6; subst hp6b
  refine r_topi (y := b01 (inB (nI 0) (nI 101) vz)) (by rw [← inL_w]; rfl) ?_
  refine r_if_eq o (tgt := 20) dX10_good_9 (by decide) (fun hb9 => ?_) (fun hb9 => ?_)
  · skip
    rw [b01_eq0] at hb9
    refine r_ldc o mw_792 dX10_good_20 ?_
    exact r_ireturn o q dX10_good_22 (⟨by first | (rw [if_pos hb9]; done) | (rw [if_neg (by rw [hb9]; decide)]; done), rfl⟩)
  · skip
    rw [b01_ne0] at hb9
    refine r_aload_n o dX10_good_12 0 rfl ?_
    refine r_iload_n o dX10_good_13 1 rfl ?_
    refine r_callVI o (As := [.int vz]) (st := []) (c_X10_goodBy (xl X) G σ cntq prq trq hdr pf2 hpf vz) om_X10_goodBy mw_1022 mw_34 mw_1020 (by decide) rfl rfl rfl (by decide) rfl rfl (Nat.le_of_ble_eq_true rfl) dX10_good_14 (fun rr14 σσ14 hp14 => ?_)
    obtain ⟨hp14, hp14b⟩ := hp14; replace hp14 := Eq.symm hp14; replace hp14b := Eq.symm hp14b; subst hp14; subst hp14b
    refine r_goto o (tgt := 22) dX10_good_17 (by decide) ?_
    exact r_ireturn o q dX10_good_22 (⟨by first | (rw [if_pos hb9]; done) | (rw [if_neg (by rw [hb9]; decide)]; done), rfl⟩)
set_option maxHeartbeats 4000000 in
set_option maxRecDepth 100000 in
theorem c_X10_best (l : Launch) (G : Gl) (σ : Sto) (cntq : Nat) (prq : Nat) (trq : Nat) (hdr : DrM σ cntq prq trq) (pf2 : Nat → Int32) (hpf : (σ 83).1 = pf2) (wz : Int32) : CtI l G yX10_best cX10_best 4 (some .int) 2 45 [.ref (gad G 11), .int wz] σ (fun r σ' => r = (if inB (nI 0) (nI 1) wz = false then -1000002 else if wz = 0 then nI (bstN pf2 cntq trq 101) else gdI pf2 cntq trq (nI (bstN pf2 cntq trq 101))) ∧ σ' = σ) := by
  refine CtI.of (by decide +kernel) (Nat.le_of_ble_eq_true rfl) (fun X o q => ?_)
  show WS X G 4 σ 0 [(0, .ref (gad G 11)), (1, .int wz)] []
  obtain ⟨hcq, hcnt, hpr, hprl, htr, htrl⟩ := id hdr
  have hpr20 : prq < 1048576 := pow_up hprl hcnt
  refine r_iload_n o dX10_best_0 1 rfl ?_
  refine r_callSI o (As := [.int wz]) (st := []) (c_X10_isPart (xl X) G σ wz) om_X10_isPart mw_857 mw_856 (by decide) rfl rfl (Nat.le_of_ble_eq_true rfl) dX10_best_1 (fun rr1 σσ1 hp1 => ?_)
  obtain ⟨hp1, hp1b⟩ := hp1; replace hp1 := Eq.symm hp1; replace hp1b := Eq.symm hp1b; subst hp1; subst hp1b
  refine r_if_ne o (tgt := 10) dX10_best_4 (by decide) (fun hb4 => ?_) (fun hb4 => ?_)
  · skip
    rw [b01_ne0] at hb4
    refine r_iconst o (v := nI 0) dX10_best_10 (by decide) ?_
    refine r_istore_n o (lv' := [(2, .int (nI 0)), (0, .ref (gad G 11)), (1, .int wz)]) dX10_best_11 (by decide) rfl ?_
    refine r_iconst o (v := nI 1) dX10_best_12 (by decide) ?_
    refine r_istore_n o (lv' := [(3, .int (nI 1)), (2, .int (nI 0)), (0, .ref (gad G 11)), (1, .int wz)]) dX10_best_13 (by decide) rfl ?_
    have L14 : ∀ (n : Nat) (jq : Nat) (hkq : jq ≤ 101), 101 - jq < n → WS X G 4 σ 14 [(0, .ref (gad G 11)), (1, .int wz), (2, .int (nI (bstN pf2 cntq trq jq))), (3, .int (nI (jq + 1)))] [] := by
      intro n
      induction n with
      | zero => intro jq hkq hm; exact absurd hm (Nat.not_lt_zero _)
      | succ n ih14 =>
        intro jq hkq hm
        refine r_iload_n o dX10_best_14 3 rfl ?_
        refine r_bipush o (v := nI 101) dX10_best_15 (by decide) ?_
        refine r_icmp_gt o (tgt := 45) dX10_best_17 (by decide) (fun hb17 => ?_) (fun hb17 => ?_)
        · skip
          rw [nI_ltI (by omega) (by omega)] at hb17
          obtain rfl : jq = 101 := by omega
          refine r_iload_n o dX10_best_45 1 rfl ?_
          refine r_if_ne o (tgt := 53) dX10_best_46 (by decide) (fun hb46 => ?_) (fun hb46 => ?_)
          · skip
            refine r_aload_n o dX10_best_53 0 rfl ?_
            refine r_iload_n o dX10_best_54 2 rfl ?_
            refine r_callVI o (As := [.int (nI (bstN pf2 cntq trq 101))]) (st := []) (c_X10_goodBy (xl X) G σ cntq prq trq hdr pf2 hpf (nI (bstN pf2 cntq trq 101))) om_X10_goodBy mw_1022 mw_34 mw_1020 (by decide) rfl rfl rfl (by decide) rfl rfl (Nat.le_of_ble_eq_true rfl) dX10_best_55 (fun rr55 σσ55 hp55 => ?_)
            obtain ⟨hp55, hp55b⟩ := hp55; replace hp55 := Eq.symm hp55; replace hp55b := Eq.symm hp55b; subst hp55; subst hp55b
            exact r_ireturn o q dX10_best_58 (⟨by rw [if_neg (by rw [hb4]; decide)]; first | (rw [if_pos hb46]; done) | (rw [if_neg hb46]; done), rfl⟩)
          · skip
            refine r_iload_n o dX10_best_49 2 rfl ?_
            refine r_goto o (tgt := 58) dX10_best_50 (by decide) ?_
            exact r_ireturn o q dX10_best_58 (⟨by rw [if_neg (by rw [hb4]; decide)]; first | (rw [if_pos hb46]; done) | (rw [if_neg hb46]; done), rfl⟩)
        · skip
          rw [nI_ltI (by omega) (by omega)] at hb17
          refine r_aload_n o dX10_best_20 0 rfl ?_
          refine r_iload_n o dX10_best_21 3 rfl ?_
          refine r_callVI o (As := [.int (nI (jq + 1))]) (st := []) (c_X10_goodBy (xl X) G σ cntq prq trq hdr pf2 hpf (nI (jq + 1))) om_X10_goodBy mw_1022 mw_34 mw_1020 (by decide) rfl rfl rfl (by decide) rfl rfl (Nat.le_of_ble_eq_true rfl) dX10_best_22 (fun rr22 σσ22 hp22 => ?_)
          obtain ⟨hp22, hp22b⟩ := hp22; replace hp22 := Eq.symm hp22; replace hp22b := Eq.symm hp22b; subst hp22; subst hp22b
          refine r_aload_n o dX10_best_25 0 rfl ?_
          refine r_iload_n o dX10_best_26 2 rfl ?_
          refine r_callVI o (As := [.int (nI (bstN pf2 cntq trq jq))]) (st := [.int (gdI pf2 cntq trq (nI (jq + 1)))]) (c_X10_goodBy (xl X) G σ cntq prq trq hdr pf2 hpf (nI (bstN pf2 cntq trq jq))) om_X10_goodBy mw_1022 mw_34 mw_1020 (by decide) rfl rfl rfl (by decide) rfl rfl (Nat.le_of_ble_eq_true rfl) dX10_best_27 (fun rr27 σσ27 hp27 => ?_)
          obtain ⟨hp27, hp27b⟩ := hp27; replace hp27 := Eq.symm hp27; replace hp27b := Eq.symm hp27b; subst hp27; subst hp27b
          refine r_icmp_le o (tgt := 37) dX10_best_30 (by decide) (fun hb30 => ?_) (fun hb30 => ?_)
          · skip
            refine r_iload_n o dX10_best_37 2 rfl ?_
            refine r_istore_n o (lv' := [(2, .int (nI (bstN pf2 cntq trq jq))), (0, .ref (gad G 11)), (1, .int wz), (3, .int (nI (jq + 1)))]) dX10_best_38 (by decide) rfl ?_
            refine r_lv (lv' := [(2, .int (nI (bstN pf2 cntq trq (jq + 1)))), (0, .ref (gad G 11)), (1, .int wz), (3, .int (nI (jq + 1)))]) (congrArg (fun zz => ([(2, .int zz), (0, .ref (gad G 11)), (1, .int wz), (3, .int (nI (jq + 1)))] : List (Nat × Value))) (show nI (bstN pf2 cntq trq jq) = nI (bstN pf2 cntq trq (jq + 1)) from congrArg nI (if_pos hb30).symm)) ?_
            refine r_iinc o (v := nI (jq + 1 + 1)) (lv' := [(3, .int (nI (jq + 1 + 1))), (2, .int (nI (bstN pf2 cntq trq (jq + 1)))), (0, .ref (gad G 11)), (1, .int wz)]) dX10_best_39 3 rfl (nI_inc _) (by decide) rfl ?_
            refine r_goto o (tgt := 14) dX10_best_42 (by decide) ?_
            exact r_to rfl [2, 3, 1, 0] rfl (ih14 (jq + 1) (by omega) (by omega))
          · skip
            refine r_iload_n o dX10_best_33 3 rfl ?_
            refine r_goto o (tgt := 38) dX10_best_34 (by decide) ?_
            refine r_istore_n o (lv' := [(2, .int (nI (jq + 1))), (0, .ref (gad G 11)), (1, .int wz), (3, .int (nI (jq + 1)))]) dX10_best_38 (by decide) rfl ?_
            refine r_lv (lv' := [(2, .int (nI (bstN pf2 cntq trq (jq + 1)))), (0, .ref (gad G 11)), (1, .int wz), (3, .int (nI (jq + 1)))]) (congrArg (fun zz => ([(2, .int zz), (0, .ref (gad G 11)), (1, .int wz), (3, .int (nI (jq + 1)))] : List (Nat × Value))) (show nI (jq + 1) = nI (bstN pf2 cntq trq (jq + 1)) from congrArg nI (if_neg hb30).symm)) ?_
            refine r_iinc o (v := nI (jq + 1 + 1)) (lv' := [(3, .int (nI (jq + 1 + 1))), (2, .int (nI (bstN pf2 cntq trq (jq + 1)))), (0, .ref (gad G 11)), (1, .int wz)]) dX10_best_39 3 rfl (nI_inc _) (by decide) rfl ?_
            refine r_goto o (tgt := 14) dX10_best_42 (by decide) ?_
            exact r_to rfl [2, 3, 1, 0] rfl (ih14 (jq + 1) (by omega) (by omega))
    exact r_to rfl [2, 3, 1, 0] rfl (L14 _ 0 (by omega) (Nat.lt_succ_self _))
  · skip
    rw [b01_eq0] at hb4
    refine r_ldc o mw_792 dX10_best_7 ?_
    exact r_ireturn o q dX10_best_9 (⟨by rw [if_pos hb4], rfl⟩)
set_option maxHeartbeats 4000000 in
set_option maxRecDepth 100000 in
theorem c_X10_clubBy (l : Launch) (G : Gl) (σ : Sto) (rdq : Nat → Nat) (barq : Nat) (hrd : RdM σ rdq barq) (cntq : Nat) (prq : Nat) (trq : Nat) (hdr : DrM σ cntq prq trq) (pf2 : Nat → Int32) (hpf : (σ 83).1 = pf2) (pqq : Nat) (hpq : pqq < 2 ^ cntq) : CtI l G yX10_clubBy cX10_clubBy 7 (some .int) 0 0 [.ref (gad G 11), .int (nI pqq)] σ (fun r σ' => r = nI (blv rdq pqq (kpt pf2 (nI barq) cntq) 8) ∧ σ' = σ) := by
  refine CtI.of (by decide +kernel) (Nat.le_of_ble_eq_true rfl) (fun X o q => ?_)
  show WS X G 7 σ 0 [(0, .ref (gad G 11)), (1, .int (nI pqq))] []
  obtain ⟨hbr, hbrl, hrdv, hrdl⟩ := id hrd
  obtain ⟨hcq, hcnt, hpr, hprl, htr, htrl⟩ := id hdr
  have hpr20 : prq < 1048576 := pow_up hprl hcnt
  refine r_iconst o (v := nI 0) dX10_clubBy_0 (by decide) ?_
  refine r_istore_n o (lv' := [(2, .int (nI 0)), (0, .ref (gad G 11)), (1, .int (nI pqq))]) dX10_clubBy_1 (by decide) rfl ?_
  refine r_iconst o (v := nI 0) dX10_clubBy_2 (by decide) ?_
  refine r_istore_n o (lv' := [(3, .int (nI 0)), (2, .int (nI 0)), (0, .ref (gad G 11)), (1, .int (nI pqq))]) dX10_clubBy_3 (by decide) rfl ?_
  have L4 : ∀ (n : Nat) (kq : Nat) (hkq : kq ≤ 8), 8 - kq < n → WS X G 7 σ 4 [(0, .ref (gad G 11)), (1, .int (nI pqq)), (2, .int (nI (blv rdq pqq (kpt pf2 (nI barq) cntq) kq))), (3, .int (nI kq))] [] := by
    intro n
    induction n with
    | zero => intro kq hkq hm; exact absurd hm (Nat.not_lt_zero _)
    | succ n ih4 =>
      intro kq hkq hm
      have hal : rdq kq &&& pqq < 2 ^ cntq := Nat.lt_of_le_of_lt Nat.and_le_right hpq
      have hal2 : rdq kq &&& pqq < 2 ^ 20 := pow_up hal hcnt
      refine r_iload_n o dX10_clubBy_4 3 rfl ?_
      refine r_bipush o (v := nI 8) dX10_clubBy_5 (by decide) ?_
      refine r_icmp_ge o (tgt := 109) dX10_clubBy_7 (by decide) (fun hb7 => ?_) (fun hb7 => ?_)
      · skip
        rw [nI_leI (by omega) (by omega)] at hb7
        obtain rfl : kq = 8 := by omega
        refine r_iload_n o dX10_clubBy_109 2 rfl ?_
        exact r_ireturn o q dX10_clubBy_110 (⟨rfl, rfl⟩)
      · skip
        rw [nI_leI (by omega) (by omega)] at hb7
        refine r_iconst o (v := nI 0) dX10_clubBy_10 (by decide) ?_
        refine r_istore o (lv' := [(4, .int (nI 0)), (0, .ref (gad G 11)), (1, .int (nI pqq)), (2, .int (nI (blv rdq pqq (kpt pf2 (nI barq) cntq) kq))), (3, .int (nI kq))]) dX10_clubBy_11 (by decide) rfl ?_
        refine r_iconst o (v := nI 0) dX10_clubBy_13 (by decide) ?_
        refine r_istore o (lv' := [(5, .int (nI 0)), (4, .int (nI 0)), (0, .ref (gad G 11)), (1, .int (nI pqq)), (2, .int (nI (blv rdq pqq (kpt pf2 (nI barq) cntq) kq))), (3, .int (nI kq))]) dX10_clubBy_14 (by decide) rfl ?_
        have L16 : ∀ (n : Nat) (tq1 : Nat) (htq1 : tq1 ≤ cntq), cntq - tq1 < n → WS X G 7 σ 16 [(0, .ref (gad G 11)), (1, .int (nI pqq)), (2, .int (nI (blv rdq pqq (kpt pf2 (nI barq) cntq) kq))), (3, .int (nI kq)), (4, .int (smX (rdq kq &&& pqq) (kpt pf2 (nI barq) cntq) tq1)), (5, .int (nI tq1))] [] := by
          intro n
          induction n with
          | zero => intro tq1 htq1 hm; exact absurd hm (Nat.not_lt_zero _)
          | succ n ih16 =>
            intro tq1 htq1 hm
            have hand : (rdq kq &&& pqq) / 2 ^ tq1 &&& 1 ≤ 1 := Nat.and_le_right
            refine r_iload o dX10_clubBy_16 5 rfl ?_
            refine r_aload_n o dX10_clubBy_18 0 rfl ?_
            refine gf_11_21 o (v := nI cntq) hcq mw_719 dX10_clubBy_19 ?_
            refine r_icmp_ge o (tgt := 88) dX10_clubBy_22 (by decide) (fun hb22 => ?_) (fun hb22 => ?_)
            · skip
              rw [nI_leI (by omega) (by omega)] at hb22
              obtain rfl : cntq = tq1 := by omega
              refine r_iload_n o dX10_clubBy_88 2 rfl ?_
              refine r_iload o dX10_clubBy_89 4 rfl ?_
              have hsl := sm_le (bq := kpt pf2 (nI barq) cntq) hal hcnt
              refine r_if_le o (tgt := 100) dX10_clubBy_91 (by decide) (fun hb91 => ?_) (fun hb91 => ?_)
              · skip
                refine r_iconst o (v := nI 0) dX10_clubBy_100 (by decide) ?_
                refine r_ior o dX10_clubBy_101 ?_
                refine r_topi (y := nI ((blv rdq pqq (kpt pf2 (nI barq) cntq) kq) ||| 0)) (nI_or _ _) ?_
                refine r_istore_n o (lv' := [(2, .int (nI ((blv rdq pqq (kpt pf2 (nI barq) cntq) kq) ||| 0))), (0, .ref (gad G 11)), (1, .int (nI pqq)), (3, .int (nI kq)), (4, .int (smX (rdq kq &&& pqq) (kpt pf2 (nI barq) cntq) cntq)), (5, .int (nI cntq))]) dX10_clubBy_102 (by decide) rfl ?_
                refine r_lv (lv' := [(2, .int (nI (blv rdq pqq (kpt pf2 (nI barq) cntq) (kq + 1)))), (0, .ref (gad G 11)), (1, .int (nI pqq)), (3, .int (nI kq)), (4, .int (smX (rdq kq &&& pqq) (kpt pf2 (nI barq) cntq) cntq)), (5, .int (nI cntq))]) (congrArg (fun zz => ([(2, .int zz), (0, .ref (gad G 11)), (1, .int (nI pqq)), (3, .int (nI kq)), (4, .int (smX (rdq kq &&& pqq) (kpt pf2 (nI barq) cntq) cntq)), (5, .int (nI cntq))] : List (Nat × Value))) (show nI ((blv rdq pqq (kpt pf2 (nI barq) cntq) kq) ||| 0) = nI (blv rdq pqq (kpt pf2 (nI barq) cntq) (kq + 1)) from blv_k (hsl.mp hb91))) ?_
                refine r_iinc o (v := nI (kq + 1)) (lv' := [(3, .int (nI (kq + 1))), (2, .int (nI (blv rdq pqq (kpt pf2 (nI barq) cntq) (kq + 1)))), (0, .ref (gad G 11)), (1, .int (nI pqq)), (4, .int (smX (rdq kq &&& pqq) (kpt pf2 (nI barq) cntq) cntq)), (5, .int (nI cntq))]) dX10_clubBy_103 3 rfl (nI_inc _) (by decide) rfl ?_
                refine r_goto o (tgt := 4) dX10_clubBy_106 (by decide) ?_
                exact r_to rfl [2, 3, 1, 0] rfl (ih4 (kq + 1) (by omega) (by omega))
              · skip
                refine r_iconst o (v := nI 1) dX10_clubBy_94 (by decide) ?_
                refine r_iload_n o dX10_clubBy_95 3 rfl ?_
                refine r_ishl o dX10_clubBy_96 ?_
                refine r_topi (y := nI (1 * 2 ^ kq)) (nI_shl (by omega)) ?_
                refine r_goto o (tgt := 101) dX10_clubBy_97 (by decide) ?_
                refine r_ior o dX10_clubBy_101 ?_
                refine r_topi (y := nI ((blv rdq pqq (kpt pf2 (nI barq) cntq) kq) ||| (1 * 2 ^ kq))) (nI_or _ _) ?_
                refine r_istore_n o (lv' := [(2, .int (nI ((blv rdq pqq (kpt pf2 (nI barq) cntq) kq) ||| (1 * 2 ^ kq)))), (0, .ref (gad G 11)), (1, .int (nI pqq)), (3, .int (nI kq)), (4, .int (smX (rdq kq &&& pqq) (kpt pf2 (nI barq) cntq) cntq)), (5, .int (nI cntq))]) dX10_clubBy_102 (by decide) rfl ?_
                refine r_lv (lv' := [(2, .int (nI (blv rdq pqq (kpt pf2 (nI barq) cntq) (kq + 1)))), (0, .ref (gad G 11)), (1, .int (nI pqq)), (3, .int (nI kq)), (4, .int (smX (rdq kq &&& pqq) (kpt pf2 (nI barq) cntq) cntq)), (5, .int (nI cntq))]) (congrArg (fun zz => ([(2, .int zz), (0, .ref (gad G 11)), (1, .int (nI pqq)), (3, .int (nI kq)), (4, .int (smX (rdq kq &&& pqq) (kpt pf2 (nI barq) cntq) cntq)), (5, .int (nI cntq))] : List (Nat × Value))) (show nI ((blv rdq pqq (kpt pf2 (nI barq) cntq) kq) ||| (1 * 2 ^ kq)) = nI (blv rdq pqq (kpt pf2 (nI barq) cntq) (kq + 1)) from blv_t (fun zq => hb91 (hsl.mpr zq)))) ?_
                refine r_iinc o (v := nI (kq + 1)) (lv' := [(3, .int (nI (kq + 1))), (2, .int (nI (blv rdq pqq (kpt pf2 (nI barq) cntq) (kq + 1)))), (0, .ref (gad G 11)), (1, .int (nI pqq)), (4, .int (smX (rdq kq &&& pqq) (kpt pf2 (nI barq) cntq) cntq)), (5, .int (nI cntq))]) dX10_clubBy_103 3 rfl (nI_inc _) (by decide) rfl ?_
                refine r_goto o (tgt := 4) dX10_clubBy_106 (by decide) ?_
                exact r_to rfl [2, 3, 1, 0] rfl (ih4 (kq + 1) (by omega) (by omega))
            · skip
              rw [nI_leI (by omega) (by omega)] at hb22
              refine r_aload_n o dX10_clubBy_25 0 rfl ?_
              refine gf_11_22 o mw_720 dX10_clubBy_26 ?_
              refine r_iload_n o dX10_clubBy_29 3 rfl ?_
              refine r_ia o (by decide) ia_84 (f := (σ 84).1) rfl kq rfl (by omega) (by decide) dX10_clubBy_30 ?_
              refine r_topi (y := nI (rdq kq)) (hrdv _ (by omega)) ?_
              refine r_iload_n o dX10_clubBy_31 1 rfl ?_
              refine r_iand o dX10_clubBy_32 ?_
              refine r_topi (y := nI ((rdq kq) &&& pqq)) (nI_and _ _) ?_
              refine r_iload o dX10_clubBy_33 5 rfl ?_
              refine r_ishr o dX10_clubBy_35 ?_
              refine r_topi (y := nI (((rdq kq) &&& pqq) / 2 ^ tq1)) (nI_shr (by omega) (by omega)) ?_
              refine r_iconst o (v := nI 1) dX10_clubBy_36 (by decide) ?_
              refine r_iand o dX10_clubBy_37 ?_
              refine r_topi (y := nI ((((rdq kq) &&& pqq) / 2 ^ tq1) &&& 1)) (nI_and _ _) ?_
              refine r_iconst o (v := nI 1) dX10_clubBy_38 (by decide) ?_
              refine r_icmp_ne o (tgt := 46) dX10_clubBy_39 (by decide) (fun hb39 => ?_) (fun hb39 => ?_)
              · skip
                rw [nI_eq (by omega) (by omega)] at hb39
                refine r_iconst o (v := nI 0) dX10_clubBy_46 (by decide) ?_
                refine r_topi (y := b01 ((rdq kq &&& pqq).testBit tq1)) (b01_f' (Bool.eq_false_iff.mpr (fun zq => hb39 (tstb.mpr zq)))) ?_
                refine r_istore o (lv' := [(6, .int (b01 ((rdq kq &&& pqq).testBit tq1))), (0, .ref (gad G 11)), (1, .int (nI pqq)), (2, .int (nI (blv rdq pqq (kpt pf2 (nI barq) cntq) kq))), (3, .int (nI kq)), (4, .int (smX (rdq kq &&& pqq) (kpt pf2 (nI barq) cntq) tq1)), (5, .int (nI tq1))]) dX10_clubBy_47 (by decide) rfl ?_
                refine r_iload o dX10_clubBy_49 5 rfl ?_
                refine r_iload o dX10_clubBy_51 0 rfl ?_
                refine r_if_eq o (tgt := 78) dX10_clubBy_53 (by decide) (fun hb53 => ?_) (fun hb53 => ?_)
                · skip
                  rw [b01_eq0] at hb53
                  refine r_iconst o (v := nI 0) dX10_clubBy_78 (by decide) ?_
                  refine r_iadd o dX10_clubBy_79 ?_
                  refine r_istore o (lv' := [(4, .int ((smX (rdq kq &&& pqq) (kpt pf2 (nI barq) cntq) tq1) + (nI 0))), (6, .int (b01 ((rdq kq &&& pqq).testBit tq1))), (0, .ref (gad G 11)), (1, .int (nI pqq)), (2, .int (nI (blv rdq pqq (kpt pf2 (nI barq) cntq) kq))), (3, .int (nI kq)), (5, .int (nI tq1))]) dX10_clubBy_80 (by decide) rfl ?_
                  refine r_lv (lv' := [(4, .int (smX (rdq kq &&& pqq) (kpt pf2 (nI barq) cntq) (tq1 + 1))), (6, .int (b01 ((rdq kq &&& pqq).testBit tq1))), (0, .ref (gad G 11)), (1, .int (nI pqq)), (2, .int (nI (blv rdq pqq (kpt pf2 (nI barq) cntq) kq))), (3, .int (nI kq)), (5, .int (nI tq1))]) (congrArg (fun zz => ([(4, .int zz), (6, .int (b01 ((rdq kq &&& pqq).testBit tq1))), (0, .ref (gad G 11)), (1, .int (nI pqq)), (2, .int (nI (blv rdq pqq (kpt pf2 (nI barq) cntq) kq))), (3, .int (nI kq)), (5, .int (nI tq1))] : List (Nat × Value))) (show (smX (rdq kq &&& pqq) (kpt pf2 (nI barq) cntq) tq1) + (nI 0) = smX (rdq kq &&& pqq) (kpt pf2 (nI barq) cntq) (tq1 + 1) from smX_0 hb53)) ?_
                  refine r_iinc o (v := nI (tq1 + 1)) (lv' := [(5, .int (nI (tq1 + 1))), (4, .int (smX (rdq kq &&& pqq) (kpt pf2 (nI barq) cntq) (tq1 + 1))), (6, .int (b01 ((rdq kq &&& pqq).testBit tq1))), (0, .ref (gad G 11)), (1, .int (nI pqq)), (2, .int (nI (blv rdq pqq (kpt pf2 (nI barq) cntq) kq))), (3, .int (nI kq))]) dX10_clubBy_82 6 rfl (nI_inc _) (by decide) rfl ?_
                  refine r_goto o (tgt := 16) dX10_clubBy_85 (by decide) ?_
                  exact r_to rfl [3, 4, 5, 6, 1, 0] rfl (ih16 (tq1 + 1) (by omega) (by omega))
                · skip
                  rw [b01_ne0] at hb53
                  refine r_aload_n o dX10_clubBy_56 1 rfl ?_
                  refine gf_11_19 o mw_717 dX10_clubBy_57 ?_
                  refine r_iload o dX10_clubBy_60 6 rfl ?_
                  refine r_ia o (by decide) ia_83 (f := pf2) hpf tq1 rfl (by omega) (by decide) dX10_clubBy_62 ?_
                  refine r_aload_n o dX10_clubBy_63 1 rfl ?_
                  refine gf_11_23 o (v := nI barq) hbr mw_721 dX10_clubBy_64 ?_
                  refine r_icmp_lt o (tgt := 74) dX10_clubBy_67 (by decide) (fun hb67 => ?_) (fun hb67 => ?_)
                  · skip
                    refine r_iconst o (v := (-1)) dX10_clubBy_74 (by decide) ?_
                    refine r_goto o (tgt := 79) dX10_clubBy_75 (by decide) ?_
                    refine r_iadd o dX10_clubBy_79 ?_
                    refine r_istore o (lv' := [(4, .int ((smX (rdq kq &&& pqq) (kpt pf2 (nI barq) cntq) tq1) + (-1))), (6, .int (b01 ((rdq kq &&& pqq).testBit tq1))), (0, .ref (gad G 11)), (1, .int (nI pqq)), (2, .int (nI (blv rdq pqq (kpt pf2 (nI barq) cntq) kq))), (3, .int (nI kq)), (5, .int (nI tq1))]) dX10_clubBy_80 (by decide) rfl ?_
                    refine r_lv (lv' := [(4, .int (smX (rdq kq &&& pqq) (kpt pf2 (nI barq) cntq) (tq1 + 1))), (6, .int (b01 ((rdq kq &&& pqq).testBit tq1))), (0, .ref (gad G 11)), (1, .int (nI pqq)), (2, .int (nI (blv rdq pqq (kpt pf2 (nI barq) cntq) kq))), (3, .int (nI kq)), (5, .int (nI tq1))]) (congrArg (fun zz => ([(4, .int zz), (6, .int (b01 ((rdq kq &&& pqq).testBit tq1))), (0, .ref (gad G 11)), (1, .int (nI pqq)), (2, .int (nI (blv rdq pqq (kpt pf2 (nI barq) cntq) kq))), (3, .int (nI kq)), (5, .int (nI tq1))] : List (Nat × Value))) (show (smX (rdq kq &&& pqq) (kpt pf2 (nI barq) cntq) tq1) + (-1) = smX (rdq kq &&& pqq) (kpt pf2 (nI barq) cntq) (tq1 + 1) from smX_m hb53 (by rw [kpt_in (by omega), decide_eq_true hb67]; rfl))) ?_
                    refine r_iinc o (v := nI (tq1 + 1)) (lv' := [(5, .int (nI (tq1 + 1))), (4, .int (smX (rdq kq &&& pqq) (kpt pf2 (nI barq) cntq) (tq1 + 1))), (6, .int (b01 ((rdq kq &&& pqq).testBit tq1))), (0, .ref (gad G 11)), (1, .int (nI pqq)), (2, .int (nI (blv rdq pqq (kpt pf2 (nI barq) cntq) kq))), (3, .int (nI kq))]) dX10_clubBy_82 6 rfl (nI_inc _) (by decide) rfl ?_
                    refine r_goto o (tgt := 16) dX10_clubBy_85 (by decide) ?_
                    exact r_to rfl [3, 4, 5, 6, 1, 0] rfl (ih16 (tq1 + 1) (by omega) (by omega))
                  · skip
                    refine r_iconst o (v := nI 1) dX10_clubBy_70 (by decide) ?_
                    refine r_goto o (tgt := 79) dX10_clubBy_71 (by decide) ?_
                    refine r_iadd o dX10_clubBy_79 ?_
                    refine r_istore o (lv' := [(4, .int ((smX (rdq kq &&& pqq) (kpt pf2 (nI barq) cntq) tq1) + (nI 1))), (6, .int (b01 ((rdq kq &&& pqq).testBit tq1))), (0, .ref (gad G 11)), (1, .int (nI pqq)), (2, .int (nI (blv rdq pqq (kpt pf2 (nI barq) cntq) kq))), (3, .int (nI kq)), (5, .int (nI tq1))]) dX10_clubBy_80 (by decide) rfl ?_
                    refine r_lv (lv' := [(4, .int (smX (rdq kq &&& pqq) (kpt pf2 (nI barq) cntq) (tq1 + 1))), (6, .int (b01 ((rdq kq &&& pqq).testBit tq1))), (0, .ref (gad G 11)), (1, .int (nI pqq)), (2, .int (nI (blv rdq pqq (kpt pf2 (nI barq) cntq) kq))), (3, .int (nI kq)), (5, .int (nI tq1))]) (congrArg (fun zz => ([(4, .int zz), (6, .int (b01 ((rdq kq &&& pqq).testBit tq1))), (0, .ref (gad G 11)), (1, .int (nI pqq)), (2, .int (nI (blv rdq pqq (kpt pf2 (nI barq) cntq) kq))), (3, .int (nI kq)), (5, .int (nI tq1))] : List (Nat × Value))) (show (smX (rdq kq &&& pqq) (kpt pf2 (nI barq) cntq) tq1) + (nI 1) = smX (rdq kq &&& pqq) (kpt pf2 (nI barq) cntq) (tq1 + 1) from smX_1 hb53 (by rw [kpt_in (by omega), decide_eq_false hb67]; rfl))) ?_
                    refine r_iinc o (v := nI (tq1 + 1)) (lv' := [(5, .int (nI (tq1 + 1))), (4, .int (smX (rdq kq &&& pqq) (kpt pf2 (nI barq) cntq) (tq1 + 1))), (6, .int (b01 ((rdq kq &&& pqq).testBit tq1))), (0, .ref (gad G 11)), (1, .int (nI pqq)), (2, .int (nI (blv rdq pqq (kpt pf2 (nI barq) cntq) kq))), (3, .int (nI kq))]) dX10_clubBy_82 6 rfl (nI_inc _) (by decide) rfl ?_
                    refine r_goto o (tgt := 16) dX10_clubBy_85 (by decide) ?_
                    exact r_to rfl [3, 4, 5, 6, 1, 0] rfl (ih16 (tq1 + 1) (by omega) (by omega))
              · skip
                rw [nI_eq (by omega) (by omega)] at hb39
                refine r_iconst o (v := nI 1) dX10_clubBy_42 (by decide) ?_
                refine r_goto o (tgt := 47) dX10_clubBy_43 (by decide) ?_
                refine r_topi (y := b01 ((rdq kq &&& pqq).testBit tq1)) (b01_t' (tstb.mp hb39)) ?_
                refine r_istore o (lv' := [(6, .int (b01 ((rdq kq &&& pqq).testBit tq1))), (0, .ref (gad G 11)), (1, .int (nI pqq)), (2, .int (nI (blv rdq pqq (kpt pf2 (nI barq) cntq) kq))), (3, .int (nI kq)), (4, .int (smX (rdq kq &&& pqq) (kpt pf2 (nI barq) cntq) tq1)), (5, .int (nI tq1))]) dX10_clubBy_47 (by decide) rfl ?_
                refine r_iload o dX10_clubBy_49 5 rfl ?_
                refine r_iload o dX10_clubBy_51 0 rfl ?_
                refine r_if_eq o (tgt := 78) dX10_clubBy_53 (by decide) (fun hb53 => ?_) (fun hb53 => ?_)
                · skip
                  rw [b01_eq0] at hb53
                  refine r_iconst o (v := nI 0) dX10_clubBy_78 (by decide) ?_
                  refine r_iadd o dX10_clubBy_79 ?_
                  refine r_istore o (lv' := [(4, .int ((smX (rdq kq &&& pqq) (kpt pf2 (nI barq) cntq) tq1) + (nI 0))), (6, .int (b01 ((rdq kq &&& pqq).testBit tq1))), (0, .ref (gad G 11)), (1, .int (nI pqq)), (2, .int (nI (blv rdq pqq (kpt pf2 (nI barq) cntq) kq))), (3, .int (nI kq)), (5, .int (nI tq1))]) dX10_clubBy_80 (by decide) rfl ?_
                  refine r_lv (lv' := [(4, .int (smX (rdq kq &&& pqq) (kpt pf2 (nI barq) cntq) (tq1 + 1))), (6, .int (b01 ((rdq kq &&& pqq).testBit tq1))), (0, .ref (gad G 11)), (1, .int (nI pqq)), (2, .int (nI (blv rdq pqq (kpt pf2 (nI barq) cntq) kq))), (3, .int (nI kq)), (5, .int (nI tq1))]) (congrArg (fun zz => ([(4, .int zz), (6, .int (b01 ((rdq kq &&& pqq).testBit tq1))), (0, .ref (gad G 11)), (1, .int (nI pqq)), (2, .int (nI (blv rdq pqq (kpt pf2 (nI barq) cntq) kq))), (3, .int (nI kq)), (5, .int (nI tq1))] : List (Nat × Value))) (show (smX (rdq kq &&& pqq) (kpt pf2 (nI barq) cntq) tq1) + (nI 0) = smX (rdq kq &&& pqq) (kpt pf2 (nI barq) cntq) (tq1 + 1) from smX_0 hb53)) ?_
                  refine r_iinc o (v := nI (tq1 + 1)) (lv' := [(5, .int (nI (tq1 + 1))), (4, .int (smX (rdq kq &&& pqq) (kpt pf2 (nI barq) cntq) (tq1 + 1))), (6, .int (b01 ((rdq kq &&& pqq).testBit tq1))), (0, .ref (gad G 11)), (1, .int (nI pqq)), (2, .int (nI (blv rdq pqq (kpt pf2 (nI barq) cntq) kq))), (3, .int (nI kq))]) dX10_clubBy_82 6 rfl (nI_inc _) (by decide) rfl ?_
                  refine r_goto o (tgt := 16) dX10_clubBy_85 (by decide) ?_
                  exact r_to rfl [3, 4, 5, 6, 1, 0] rfl (ih16 (tq1 + 1) (by omega) (by omega))
                · skip
                  rw [b01_ne0] at hb53
                  refine r_aload_n o dX10_clubBy_56 1 rfl ?_
                  refine gf_11_19 o mw_717 dX10_clubBy_57 ?_
                  refine r_iload o dX10_clubBy_60 6 rfl ?_
                  refine r_ia o (by decide) ia_83 (f := pf2) hpf tq1 rfl (by omega) (by decide) dX10_clubBy_62 ?_
                  refine r_aload_n o dX10_clubBy_63 1 rfl ?_
                  refine gf_11_23 o (v := nI barq) hbr mw_721 dX10_clubBy_64 ?_
                  refine r_icmp_lt o (tgt := 74) dX10_clubBy_67 (by decide) (fun hb67 => ?_) (fun hb67 => ?_)
                  · skip
                    refine r_iconst o (v := (-1)) dX10_clubBy_74 (by decide) ?_
                    refine r_goto o (tgt := 79) dX10_clubBy_75 (by decide) ?_
                    refine r_iadd o dX10_clubBy_79 ?_
                    refine r_istore o (lv' := [(4, .int ((smX (rdq kq &&& pqq) (kpt pf2 (nI barq) cntq) tq1) + (-1))), (6, .int (b01 ((rdq kq &&& pqq).testBit tq1))), (0, .ref (gad G 11)), (1, .int (nI pqq)), (2, .int (nI (blv rdq pqq (kpt pf2 (nI barq) cntq) kq))), (3, .int (nI kq)), (5, .int (nI tq1))]) dX10_clubBy_80 (by decide) rfl ?_
                    refine r_lv (lv' := [(4, .int (smX (rdq kq &&& pqq) (kpt pf2 (nI barq) cntq) (tq1 + 1))), (6, .int (b01 ((rdq kq &&& pqq).testBit tq1))), (0, .ref (gad G 11)), (1, .int (nI pqq)), (2, .int (nI (blv rdq pqq (kpt pf2 (nI barq) cntq) kq))), (3, .int (nI kq)), (5, .int (nI tq1))]) (congrArg (fun zz => ([(4, .int zz), (6, .int (b01 ((rdq kq &&& pqq).testBit tq1))), (0, .ref (gad G 11)), (1, .int (nI pqq)), (2, .int (nI (blv rdq pqq (kpt pf2 (nI barq) cntq) kq))), (3, .int (nI kq)), (5, .int (nI tq1))] : List (Nat × Value))) (show (smX (rdq kq &&& pqq) (kpt pf2 (nI barq) cntq) tq1) + (-1) = smX (rdq kq &&& pqq) (kpt pf2 (nI barq) cntq) (tq1 + 1) from smX_m hb53 (by rw [kpt_in (by omega), decide_eq_true hb67]; rfl))) ?_
                    refine r_iinc o (v := nI (tq1 + 1)) (lv' := [(5, .int (nI (tq1 + 1))), (4, .int (smX (rdq kq &&& pqq) (kpt pf2 (nI barq) cntq) (tq1 + 1))), (6, .int (b01 ((rdq kq &&& pqq).testBit tq1))), (0, .ref (gad G 11)), (1, .int (nI pqq)), (2, .int (nI (blv rdq pqq (kpt pf2 (nI barq) cntq) kq))), (3, .int (nI kq))]) dX10_clubBy_82 6 rfl (nI_inc _) (by decide) rfl ?_
                    refine r_goto o (tgt := 16) dX10_clubBy_85 (by decide) ?_
                    exact r_to rfl [3, 4, 5, 6, 1, 0] rfl (ih16 (tq1 + 1) (by omega) (by omega))
                  · skip
                    refine r_iconst o (v := nI 1) dX10_clubBy_70 (by decide) ?_
                    refine r_goto o (tgt := 79) dX10_clubBy_71 (by decide) ?_
                    refine r_iadd o dX10_clubBy_79 ?_
                    refine r_istore o (lv' := [(4, .int ((smX (rdq kq &&& pqq) (kpt pf2 (nI barq) cntq) tq1) + (nI 1))), (6, .int (b01 ((rdq kq &&& pqq).testBit tq1))), (0, .ref (gad G 11)), (1, .int (nI pqq)), (2, .int (nI (blv rdq pqq (kpt pf2 (nI barq) cntq) kq))), (3, .int (nI kq)), (5, .int (nI tq1))]) dX10_clubBy_80 (by decide) rfl ?_
                    refine r_lv (lv' := [(4, .int (smX (rdq kq &&& pqq) (kpt pf2 (nI barq) cntq) (tq1 + 1))), (6, .int (b01 ((rdq kq &&& pqq).testBit tq1))), (0, .ref (gad G 11)), (1, .int (nI pqq)), (2, .int (nI (blv rdq pqq (kpt pf2 (nI barq) cntq) kq))), (3, .int (nI kq)), (5, .int (nI tq1))]) (congrArg (fun zz => ([(4, .int zz), (6, .int (b01 ((rdq kq &&& pqq).testBit tq1))), (0, .ref (gad G 11)), (1, .int (nI pqq)), (2, .int (nI (blv rdq pqq (kpt pf2 (nI barq) cntq) kq))), (3, .int (nI kq)), (5, .int (nI tq1))] : List (Nat × Value))) (show (smX (rdq kq &&& pqq) (kpt pf2 (nI barq) cntq) tq1) + (nI 1) = smX (rdq kq &&& pqq) (kpt pf2 (nI barq) cntq) (tq1 + 1) from smX_1 hb53 (by rw [kpt_in (by omega), decide_eq_false hb67]; rfl))) ?_
                    refine r_iinc o (v := nI (tq1 + 1)) (lv' := [(5, .int (nI (tq1 + 1))), (4, .int (smX (rdq kq &&& pqq) (kpt pf2 (nI barq) cntq) (tq1 + 1))), (6, .int (b01 ((rdq kq &&& pqq).testBit tq1))), (0, .ref (gad G 11)), (1, .int (nI pqq)), (2, .int (nI (blv rdq pqq (kpt pf2 (nI barq) cntq) kq))), (3, .int (nI kq))]) dX10_clubBy_82 6 rfl (nI_inc _) (by decide) rfl ?_
                    refine r_goto o (tgt := 16) dX10_clubBy_85 (by decide) ?_
                    exact r_to rfl [3, 4, 5, 6, 1, 0] rfl (ih16 (tq1 + 1) (by omega) (by omega))
        exact r_to rfl [2, 3, 4, 5, 1, 0] rfl (L16 _ 0 (by omega) (Nat.lt_succ_self _))
  exact r_to rfl [2, 3, 1, 0] rfl (L4 _ 0 (by omega) (Nat.lt_succ_self _))
set_option maxHeartbeats 4000000 in
set_option maxRecDepth 100000 in
theorem c_X10_club (l : Launch) (G : Gl) (σ : Sto) (rdq : Nat → Nat) (barq : Nat) (hrd : RdM σ rdq barq) (cntq : Nat) (prq : Nat) (trq : Nat) (hdr : DrM σ cntq prq trq) (pf2 : Nat → Int32) (hpf : (σ 83).1 = pf2) : CtI l G yX10_club cX10_club 1 (some .int) 1 26 [.ref (gad G 11)] σ (fun r σ' => r = nI (blv rdq prq (kpt pf2 (nI barq) cntq) 8) ∧ σ' = σ) := by
  refine CtI.of (by decide +kernel) (Nat.le_of_ble_eq_true rfl) (fun X o q => ?_)
  show WS X G 1 σ 0 [(0, .ref (gad G 11))] []
  obtain ⟨hbr, hbrl, hrdv, hrdl⟩ := id hrd
  obtain ⟨hcq, hcnt, hpr, hprl, htr, htrl⟩ := id hdr
  have hpr20 : prq < 1048576 := pow_up hprl hcnt
  refine r_aload_n o dX10_club_0 0 rfl ?_
  refine r_aload_n o dX10_club_1 0 rfl ?_
  refine gf_11_20 o (v := nI prq) hpr mw_718 dX10_club_2 ?_
  refine r_callVI o (As := [.int (nI prq)]) (st := []) (c_X10_clubBy (xl X) G σ rdq barq hrd cntq prq trq hdr pf2 hpf prq hprl) om_X10_clubBy mw_1004 mw_33 mw_1002 (by decide) rfl rfl rfl (by decide) rfl rfl (Nat.le_of_ble_eq_true rfl) dX10_club_5 (fun rr5 σσ5 hp5 => ?_)
  obtain ⟨hp5, hp5b⟩ := hp5; replace hp5 := Eq.symm hp5; replace hp5b := Eq.symm hp5b; subst hp5; subst hp5b
  exact r_ireturn o q dX10_club_8 (⟨rfl, rfl⟩)
set_option maxHeartbeats 4000000 in
set_option maxRecDepth 100000 in
theorem c_X10_lean (l : Launch) (G : Gl) (σ : Sto) (cntq : Nat) (prq : Nat) (trq : Nat) (hdr : DrM σ cntq prq trq) (pf2 : Nat → Int32) (hpf : (σ 83).1 = pf2) (pz : Int32) : CtL l G yX10_lean cX10_lean 8 (some .long) 2 45 [.ref (gad G 11), .int pz] σ (fun r σ' => r = (if inB (nI 0) (nI 1) pz = false then -1000000000000000002 else if prq = 0 then -1000000000000000003 else fX (leanU pf2 prq cntq) (leanD prq cntq) pz) ∧ σ' = σ) := by
  refine CtL.of (by decide +kernel) (Nat.le_of_ble_eq_true rfl) (fun X o q => ?_)
  show WS X G 8 σ 0 [(0, .ref (gad G 11)), (1, .int pz)] []
  obtain ⟨hcq, hcnt, hpr, hprl, htr, htrl⟩ := id hdr
  have hpr20 : prq < 1048576 := pow_up hprl hcnt
  have hpz := popc_z hpr20
  have hpl := popc_le prq
  refine r_iload_n o dX10_lean_0 1 rfl ?_
  refine r_callSI o (As := [.int pz]) (st := []) (c_X10_isPart (xl X) G σ pz) om_X10_isPart mw_857 mw_856 (by decide) rfl rfl (Nat.le_of_ble_eq_true rfl) dX10_lean_1 (fun rr1 σσ1 hp1 => ?_)
  obtain ⟨hp1, hp1b⟩ := hp1; replace hp1 := Eq.symm hp1; replace hp1b := Eq.symm hp1b; subst hp1; subst hp1b
  refine r_if_ne o (tgt := 11) dX10_lean_4 (by decide) (fun hb4 => ?_) (fun hb4 => ?_)
  · skip
    rw [b01_ne0] at hb4
    refine r_aload_n o dX10_lean_11 0 rfl ?_
    refine gf_11_20 o (v := nI prq) hpr mw_718 dX10_lean_12 ?_
    refine r_callSI o (As := [.int (nI prq)]) (st := []) (c_X10_ones (xl X) G σ prq (by omega)) om_X10_ones mw_984 mw_983 (by decide) rfl rfl (Nat.le_of_ble_eq_true rfl) dX10_lean_15 (fun rr15 σσ15 hp15 => ?_)
    obtain ⟨hp15, hp15b⟩ := hp15; replace hp15 := Eq.symm hp15; replace hp15b := Eq.symm hp15b; subst hp15; subst hp15b
    refine r_istore_n o (lv' := [(2, .int (nI (popc prq))), (0, .ref (gad G 11)), (1, .int pz)]) dX10_lean_18 (by decide) rfl ?_
    refine r_iload_n o dX10_lean_19 0 rfl ?_
    refine r_if_ne o (tgt := 27) dX10_lean_20 (by decide) (fun hb20 => ?_) (fun hb20 => ?_)
    · skip
      rw [nI_eq0 (by omega)] at hb20
      refine r_lconst o (v := 0) dX10_lean_27 rfl ?_
      refine r_lstore_n o (lv' := [(3, .long 0), (2, .int (nI (popc prq))), (0, .ref (gad G 11)), (1, .int pz)]) dX10_lean_28 (by decide) rfl ?_
      refine r_lconst o (v := 0) dX10_lean_29 rfl ?_
      refine r_lstore o (lv' := [(5, .long 0), (3, .long 0), (2, .int (nI (popc prq))), (0, .ref (gad G 11)), (1, .int pz)]) dX10_lean_30 (by decide) rfl ?_
      refine r_iconst o (v := nI 0) dX10_lean_32 (by decide) ?_
      refine r_istore o (lv' := [(7, .int (nI 0)), (5, .long 0), (3, .long 0), (2, .int (nI (popc prq))), (0, .ref (gad G 11)), (1, .int pz)]) dX10_lean_33 (by decide) rfl ?_
      have L35 : ∀ (n : Nat) (kq : Nat) (hkq : kq ≤ cntq), cntq - kq < n → WS X G 8 σ 35 [(0, .ref (gad G 11)), (1, .int pz), (2, .int (nI (popc prq))), (3, .long (sumL pf2 kq)), (5, .long (psL pf2 prq kq)), (7, .int (nI kq))] [] := by
        intro n
        induction n with
        | zero => intro kq hkq hm; exact absurd hm (Nat.not_lt_zero _)
        | succ n ih35 =>
          intro kq hkq hm
          have hand : prq / 2 ^ kq &&& 1 ≤ 1 := Nat.and_le_right
          refine r_iload o dX10_lean_35 5 rfl ?_
          refine r_aload_n o dX10_lean_37 0 rfl ?_
          refine gf_11_21 o (v := nI cntq) hcq mw_719 dX10_lean_38 ?_
          refine r_icmp_ge o (tgt := 91) dX10_lean_41 (by decide) (fun hb41 => ?_) (fun hb41 => ?_)
          · skip
            rw [nI_leI (by omega) (by omega)] at hb41
            obtain rfl : cntq = kq := by omega
            refine r_lload o dX10_lean_91 4 rfl ?_
            refine r_aload_n o dX10_lean_93 0 rfl ?_
            refine gf_11_21 o (v := nI cntq) hcq mw_719 dX10_lean_94 ?_
            refine r_i2l o dX10_lean_97 rfl ?_
            refine r_lmul o dX10_lean_98 ?_
            refine r_lload_n o dX10_lean_99 3 rfl ?_
            refine r_iload_n o dX10_lean_100 2 rfl ?_
            refine r_i2l o dX10_lean_101 rfl ?_
            refine r_lmul o dX10_lean_102 ?_
            refine r_lsub o dX10_lean_103 ?_
            refine r_iload_n o dX10_lean_104 2 rfl ?_
            refine r_i2l o dX10_lean_105 rfl ?_
            refine r_aload_n o dX10_lean_106 0 rfl ?_
            refine gf_11_21 o (v := nI cntq) hcq mw_719 dX10_lean_107 ?_
            refine r_i2l o dX10_lean_110 rfl ?_
            refine r_lmul o dX10_lean_111 ?_
            refine r_iload_n o dX10_lean_112 1 rfl ?_
            refine r_callSL o (As := [.long (((psL pf2 prq cntq) * ((nI cntq).toInt64)) - ((sumL pf2 cntq) * ((nI (popc prq)).toInt64))), .long (((nI (popc prq)).toInt64) * ((nI cntq).toInt64)), .int pz]) (st := []) (c_X10_lowF (xl X) G σ (leanU pf2 prq cntq) (leanD prq cntq) ((lean_bd hcnt).1) ((lean_bd hcnt).2) (leanD_p hcnt hprl (fun zq => hb20 (hpz.mpr zq))) pz) om_X10_lowest mw_883 mw_882 (by decide) rfl rfl (Nat.le_of_ble_eq_true rfl) dX10_lean_113 (fun rr113 σσ113 hp113 => ?_)
            obtain ⟨hp113, hp113b⟩ := hp113; replace hp113 := Eq.symm hp113; replace hp113b := Eq.symm hp113b; subst hp113; subst hp113b
            exact r_lreturn o q dX10_lean_116 (⟨by rw [if_neg (by rw [hb4]; decide), if_neg (fun zq => hb20 (hpz.mpr zq))], rfl⟩)
          · skip
            rw [nI_leI (by omega) (by omega)] at hb41
            refine r_lload_n o dX10_lean_44 3 rfl ?_
            refine r_aload_n o dX10_lean_45 0 rfl ?_
            refine gf_11_19 o mw_717 dX10_lean_46 ?_
            refine r_iload o dX10_lean_49 5 rfl ?_
            refine r_ia o (by decide) ia_83 (f := pf2) hpf kq rfl (by omega) (by decide) dX10_lean_51 ?_
            refine r_i2l o dX10_lean_52 rfl ?_
            refine r_ladd o dX10_lean_53 ?_
            refine r_lstore_n o (lv' := [(3, .long ((sumL pf2 kq) + ((pf2 kq).toInt64))), (0, .ref (gad G 11)), (1, .int pz), (2, .int (nI (popc prq))), (5, .long (psL pf2 prq kq)), (7, .int (nI kq))]) dX10_lean_54 (by decide) rfl ?_
            refine r_lload o dX10_lean_55 4 rfl ?_
            refine r_aload_n o dX10_lean_57 1 rfl ?_
            refine gf_11_20 o (v := nI prq) hpr mw_718 dX10_lean_58 ?_
            refine r_iload o dX10_lean_61 5 rfl ?_
            refine r_ishr o dX10_lean_63 ?_
            refine r_topi (y := nI (prq / 2 ^ kq)) (nI_shr (by omega) (by omega)) ?_
            refine r_iconst o (v := nI 1) dX10_lean_64 (by decide) ?_
            refine r_iand o dX10_lean_65 ?_
            refine r_topi (y := nI ((prq / 2 ^ kq) &&& 1)) (nI_and _ _) ?_
            refine r_iconst o (v := nI 1) dX10_lean_66 (by decide) ?_
            refine r_icmp_ne o (tgt := 81) dX10_lean_67 (by decide) (fun hb67 => ?_) (fun hb67 => ?_)
            · skip
              rw [nI_eq (by omega) (by omega)] at hb67
              refine r_lconst o (v := 0) dX10_lean_81 rfl ?_
              refine r_ladd o dX10_lean_82 ?_
              refine r_lstore o (lv' := [(5, .long ((psL pf2 prq kq) + 0)), (3, .long ((sumL pf2 kq) + ((pf2 kq).toInt64))), (0, .ref (gad G 11)), (1, .int pz), (2, .int (nI (popc prq))), (7, .int (nI kq))]) dX10_lean_83 (by decide) rfl ?_
              refine r_lv (lv' := [(5, .long (psL pf2 prq (kq + 1))), (3, .long ((sumL pf2 kq) + ((pf2 kq).toInt64))), (0, .ref (gad G 11)), (1, .int pz), (2, .int (nI (popc prq))), (7, .int (nI kq))]) (congrArg (fun zz => ([(5, .long zz), (3, .long ((sumL pf2 kq) + ((pf2 kq).toInt64))), (0, .ref (gad G 11)), (1, .int pz), (2, .int (nI (popc prq))), (7, .int (nI kq))] : List (Nat × Value))) (show (psL pf2 prq kq) + 0 = psL pf2 prq (kq + 1) from psL_n (fun zq => hb67 (tstb.mpr zq)))) ?_
              refine r_iinc o (v := nI (kq + 1)) (lv' := [(7, .int (nI (kq + 1))), (5, .long (psL pf2 prq (kq + 1))), (3, .long ((sumL pf2 kq) + ((pf2 kq).toInt64))), (0, .ref (gad G 11)), (1, .int pz), (2, .int (nI (popc prq)))]) dX10_lean_85 5 rfl (nI_inc _) (by decide) rfl ?_
              refine r_goto o (tgt := 35) dX10_lean_88 (by decide) ?_
              exact r_to rfl [3, 4, 5, 2, 1, 0] rfl (ih35 (kq + 1) (by omega) (by omega))
            · skip
              rw [nI_eq (by omega) (by omega)] at hb67
              refine r_aload_n o dX10_lean_70 1 rfl ?_
              refine gf_11_19 o mw_717 dX10_lean_71 ?_
              refine r_iload o dX10_lean_74 5 rfl ?_
              refine r_ia o (by decide) ia_83 (f := pf2) hpf kq rfl (by omega) (by decide) dX10_lean_76 ?_
              refine r_i2l o dX10_lean_77 rfl ?_
              refine r_goto o (tgt := 82) dX10_lean_78 (by decide) ?_
              refine r_ladd o dX10_lean_82 ?_
              refine r_lstore o (lv' := [(5, .long ((psL pf2 prq kq) + ((pf2 kq).toInt64))), (3, .long ((sumL pf2 kq) + ((pf2 kq).toInt64))), (0, .ref (gad G 11)), (1, .int pz), (2, .int (nI (popc prq))), (7, .int (nI kq))]) dX10_lean_83 (by decide) rfl ?_
              refine r_lv (lv' := [(5, .long (psL pf2 prq (kq + 1))), (3, .long ((sumL pf2 kq) + ((pf2 kq).toInt64))), (0, .ref (gad G 11)), (1, .int pz), (2, .int (nI (popc prq))), (7, .int (nI kq))]) (congrArg (fun zz => ([(5, .long zz), (3, .long ((sumL pf2 kq) + ((pf2 kq).toInt64))), (0, .ref (gad G 11)), (1, .int pz), (2, .int (nI (popc prq))), (7, .int (nI kq))] : List (Nat × Value))) (show (psL pf2 prq kq) + ((pf2 kq).toInt64) = psL pf2 prq (kq + 1) from psL_y (tstb.mp hb67))) ?_
              refine r_iinc o (v := nI (kq + 1)) (lv' := [(7, .int (nI (kq + 1))), (5, .long (psL pf2 prq (kq + 1))), (3, .long ((sumL pf2 kq) + ((pf2 kq).toInt64))), (0, .ref (gad G 11)), (1, .int pz), (2, .int (nI (popc prq)))]) dX10_lean_85 5 rfl (nI_inc _) (by decide) rfl ?_
              refine r_goto o (tgt := 35) dX10_lean_88 (by decide) ?_
              exact r_to rfl [3, 4, 5, 2, 1, 0] rfl (ih35 (kq + 1) (by omega) (by omega))
      exact r_to rfl [4, 5, 3, 2, 1, 0] rfl (L35 _ 0 (by omega) (Nat.lt_succ_self _))
    · skip
      rw [nI_eq0 (by omega)] at hb20
      refine r_ldc2_w o mw_906 dX10_lean_23 ?_
      exact r_lreturn o q dX10_lean_26 (⟨by rw [if_neg (by rw [hb4]; decide), if_pos (hpz.mp hb20)], rfl⟩)
  · skip
    rw [b01_eq0] at hb4
    refine r_ldc2_w o mw_859 dX10_lean_7 ?_
    exact r_lreturn o q dX10_lean_10 (⟨by rw [if_pos hb4], rfl⟩)
