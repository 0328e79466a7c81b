set_option maxHeartbeats 4000000 in
set_option maxRecDepth 100000 in
theorem c_X10_found (l : Launch) (G : Gl) (σ : Sto) (sn : Nat → Nat) (cntq : Nat) (hp : PadM σ sn cntq) (hyb : ∀ rq, rq < 6 → BdF (yrF σ rq)) (rz : Int32) (yz : Int32) (wz : Int32) : CtI l G yX10_found cX10_found 4 (some .int) 6 147 [.ref (gad G 11), .int rz, .int yz, .int wz] σ (fun r σ' => r = (if refI (inB (nI 0) (nI 5) rz) (inB (nI 4) (nI 22) yz && inB (nI 0) (nI 2) wz) (fltF sn cntq 21 0) = 0 then (if wz = 0 then nI (fhL (dlM σ sn cntq rz.toNatClampNeg) yz.toNatClampNeg) else if wz = nI 1 then nI (fhK (dlM σ sn cntq rz.toNatClampNeg) yz.toNatClampNeg).1 else nI (fhK (dlM σ sn cntq rz.toNatClampNeg) yz.toNatClampNeg).2) else refI (inB (nI 0) (nI 5) rz) (inB (nI 4) (nI 22) yz && inB (nI 0) (nI 2) wz) (fltF sn cntq 21 0)) ∧ keepM σ σ') := by
  refine CtI.of (by decide +kernel) (Nat.le_of_ble_eq_true rfl) (fun X o q => ?_)
  show WS X G 4 σ 0 [(0, .ref (gad G 11)), (1, .int rz), (2, .int yz), (3, .int wz)] []
  obtain ⟨hcq, hcnt, hsg, hsn⟩ := id hp
  refine r_iload_n o dX10_found_0 1 rfl ?_
  refine r_callSI o (As := [.int rz]) (st := []) (c_X10_isRow (xl X) G σ rz) om_X10_isRow mw_779 mw_778 (by decide) rfl rfl (Nat.le_of_ble_eq_true rfl) dX10_found_1 (fun rr1 σσ1 hp1 => ?_)
  obtain ⟨hp1, hp1b⟩ := hp1; replace hp1 := Eq.symm hp1; replace hp1b := Eq.symm hp1b; subst hp1; subst hp1b
  refine r_if_ne o (tgt := 9) dX10_found_4 (by decide) (fun hb4 => ?_) (fun hb4 => ?_)
  · skip
    rw [b01_ne0] at hb4
    have hk1 := hb4
    obtain ⟨hr1, hr2⟩ := inB_nI (n := 5) (by decide) hk1
    refine r_iload_n o dX10_found_9 2 rfl ?_
    refine r_callSI o (As := [.int yz]) (st := []) (c_X10_isAhead (xl X) G σ yz) om_X10_isAhead mw_948 mw_947 (by decide) rfl rfl (Nat.le_of_ble_eq_true rfl) dX10_found_10 (fun rr10 σσ10 hp10 => ?_)
    obtain ⟨hp10, hp10b⟩ := hp10; replace hp10 := Eq.symm hp10; replace hp10b := Eq.symm hp10b; subst hp10; subst hp10b
    refine r_if_eq o (tgt := 28) dX10_found_13 (by decide) (fun hb13 => ?_) (fun hb13 => ?_)
    · skip
      rw [b01_eq0] at hb13
      refine r_bipush o (v := (-2)) dX10_found_28 (by decide) ?_
      exact r_ireturn o q dX10_found_30 (⟨by rw [rf_2 hb4 (by first | (rw [hb13]; rfl) | (rw [hb13, hb25]; rfl)), if_neg (by decide)], keepM_rfl⟩)
    · skip
      rw [b01_ne0] at hb13
      obtain ⟨hy1, hy2⟩ := inB_nI (n := 22) (by decide) (inB_wk hb13)
      have hy3 := inB_ge hb13
      refine r_iload_n o dX10_found_16 3 rfl ?_
      refine r_i2l o dX10_found_17 rfl ?_
      refine r_lconst o (v := 0) dX10_found_18 rfl ?_
      refine r_ldc2_w o mw_854 dX10_found_19 ?_
      refine r_callSI o (As := [.long ((wz).toInt64), .long 0, .long 2]) (st := []) (c_X10_in (xl X) G σ ((wz).toInt64) 0 2) om_X10_in mw_783 mw_782 (by decide) rfl rfl (Nat.le_of_ble_eq_true rfl) dX10_found_22 (fun rr22 σσ22 hp22 => ?_)
      obtain ⟨hp22, hp22b⟩ := hp22; replace hp22 := Eq.symm hp22; replace hp22b := Eq.symm hp22b; subst hp22; subst hp22b
      refine r_topi (y := b01 (inB (nI 0) (nI 2) wz)) (by rw [← inL_w]; rfl) ?_
      refine r_if_ne o (tgt := 31) dX10_found_25 (by decide) (fun hb25 => ?_) (fun hb25 => ?_)
      · skip
        rw [b01_ne0] at hb25
        refine r_aload_n o dX10_found_31 0 rfl ?_
        refine r_callVI o (As := []) (st := []) (c_X10_fault (xl X) G σ sn cntq hp) om_X10_fault mw_804 mw_805 mw_827 (by decide) rfl rfl rfl (by decide) rfl rfl (Nat.le_of_ble_eq_true rfl) dX10_found_32 (fun rr32 σσ32 hp32 => ?_)
        obtain ⟨hp32, hp32b⟩ := hp32; replace hp32 := Eq.symm hp32; replace hp32b := Eq.symm hp32b; subst hp32; subst hp32b
        refine r_if_lt o (tgt := 41) dX10_found_35 (by decide) (fun hb35 => ?_) (fun hb35 => ?_)
        · skip
          have hno := flt_n hcnt hb35
          refine r_lv (lv' := [(0, .ref (gad G 11)), (1, .int (nI rz.toNatClampNeg)), (2, .int yz), (3, .int wz)]) (congrArg (fun zz => ([(0, .ref (gad G 11)), (1, .int zz), (2, .int yz), (3, .int wz)] : List (Nat × Value))) (hr1)) ?_
          refine r_lv (lv' := [(0, .ref (gad G 11)), (1, .int (nI rz.toNatClampNeg)), (2, .int (nI yz.toNatClampNeg)), (3, .int wz)]) (congrArg (fun zz => ([(0, .ref (gad G 11)), (1, .int (nI rz.toNatClampNeg)), (2, .int zz), (3, .int wz)] : List (Nat × Value))) (hy1)) ?_
          refine r_aload_n o dX10_found_41 0 rfl ?_
          refine r_iload_n o dX10_found_42 1 rfl ?_
          refine r_iload_n o dX10_found_43 2 rfl ?_
          refine r_callVV o (As := [.int (nI rz.toNatClampNeg), .int (nI yz.toNatClampNeg)]) (st := []) (c_X10_fhN (xl X) G σ sn cntq hp hyb rz.toNatClampNeg (by omega) yz.toNatClampNeg (by omega) hno) om_X10_findHeld mw_954 mw_31 mw_952 (by decide) rfl rfl rfl (by decide) rfl rfl (Nat.le_of_ble_eq_true rfl) dX10_found_44 (fun σσ44 hp44 => ?_)
          obtain ⟨hg14, hg15, hg16, hkp⟩ := hp44
          refine r_iload_n o dX10_found_47 3 rfl ?_
          refine r_if_ne o (tgt := 58) dX10_found_48 (by decide) (fun hb48 => ?_) (fun hb48 => ?_)
          · skip
            refine r_iload_n o dX10_found_58 3 rfl ?_
            refine r_iconst o (v := nI 1) dX10_found_59 (by decide) ?_
            refine r_icmp_ne o (tgt := 70) dX10_found_60 (by decide) (fun hb60 => ?_) (fun hb60 => ?_)
            · skip
              refine r_aload_n o dX10_found_70 0 rfl ?_
              refine gf_11_16 o (v := nI ((fhK (dlM σ sn cntq rz.toNatClampNeg) yz.toNatClampNeg).2)) hg16 mw_714 dX10_found_71 ?_
              exact r_ireturn o q dX10_found_74 (⟨by rw [rf_0 hb4 (by first | (rw [hb13]; rfl) | (rw [hb13, hb25]; rfl)) hno, if_pos rfl]; first | (rw [if_pos hb48]; done) | (rw [if_neg hb48, if_pos hb60]; done) | (rw [if_neg hb48, if_neg hb60]; done), hkp⟩)
            · skip
              refine r_aload_n o dX10_found_63 0 rfl ?_
              refine gf_11_15 o (v := nI ((fhK (dlM σ sn cntq rz.toNatClampNeg) yz.toNatClampNeg).1)) hg15 mw_713 dX10_found_64 ?_
              refine r_goto o (tgt := 74) dX10_found_67 (by decide) ?_
              exact r_ireturn o q dX10_found_74 (⟨by rw [rf_0 hb4 (by first | (rw [hb13]; rfl) | (rw [hb13, hb25]; rfl)) hno, if_pos rfl]; first | (rw [if_pos hb48]; done) | (rw [if_neg hb48, if_pos hb60]; done) | (rw [if_neg hb48, if_neg hb60]; done), hkp⟩)
          · skip
            refine r_aload_n o dX10_found_51 0 rfl ?_
            refine gf_11_14 o (v := nI (fhL (dlM σ sn cntq rz.toNatClampNeg) yz.toNatClampNeg)) hg14 mw_712 dX10_found_52 ?_
            refine r_goto o (tgt := 74) dX10_found_55 (by decide) ?_
            exact r_ireturn o q dX10_found_74 (⟨by rw [rf_0 hb4 (by first | (rw [hb13]; rfl) | (rw [hb13, hb25]; rfl)) hno, if_pos rfl]; first | (rw [if_pos hb48]; done) | (rw [if_neg hb48, if_pos hb60]; done) | (rw [if_neg hb48, if_neg hb60]; done), hkp⟩)
        · skip
          have hfs := flt_s hb35
          refine r_bipush o (v := (-5)) dX10_found_38 (by decide) ?_
          exact r_ireturn o q dX10_found_40 (⟨by rw [rf_5 hb4 (by first | (rw [hb13]; rfl) | (rw [hb13, hb25]; rfl)) hfs, if_neg (by decide)], keepM_rfl⟩)
      · skip
        rw [b01_eq0] at hb25
        refine r_bipush o (v := (-2)) dX10_found_28 (by decide) ?_
        exact r_ireturn o q dX10_found_30 (⟨by rw [rf_2 hb4 (by first | (rw [hb13]; rfl) | (rw [hb13, hb25]; rfl)), if_neg (by decide)], keepM_rfl⟩)
  · skip
    rw [b01_eq0] at hb4
    refine r_iconst o (v := (-1)) dX10_found_7 (by decide) ?_
    exact r_ireturn o q dX10_found_8 (⟨by rw [rf_1 hb4, if_neg (by decide)], keepM_rfl⟩)
set_option maxHeartbeats 4000000 in
set_option maxRecDepth 100000 in
theorem c_X10_luck (l : Launch) (G : Gl) (σ : Sto) (sn : Nat → Nat) (cntq : Nat) (hp : PadM σ sn cntq) (hyb : ∀ rq, rq < 6 → BdF (yrF σ rq)) (rz : Int32) (yz : Int32) (pz : Int32) : CtL l G yX10_luck cX10_luck 7 (some .long) 6 147 [.ref (gad G 11), .int rz, .int yz, .int pz] σ (fun r σ' => r = (if refI (inB (nI 0) (nI 5) rz) (inB (nI 4) (nI 22) yz && inB (nI 0) (nI 1) pz) (fltF sn cntq 21 0) = 0 then fX (lkW (fhK (dlM σ sn cntq rz.toNatClampNeg) yz.toNatClampNeg).1 (fhK (dlM σ sn cntq rz.toNatClampNeg) yz.toNatClampNeg).2 ((fhK (dlM σ sn cntq rz.toNatClampNeg) yz.toNatClampNeg).2 + 1)).2 (1 <<< ((nI (fhK (dlM σ sn cntq rz.toNatClampNeg) yz.toNatClampNeg).2).toInt64 &&& 63)) pz else LOSTq + (refI (inB (nI 0) (nI 5) rz) (inB (nI 4) (nI 22) yz && inB (nI 0) (nI 1) pz) (fltF sn cntq 21 0)).toInt64) ∧ keepM σ σ') := by
  refine CtL.of (by decide +kernel) (Nat.le_of_ble_eq_true rfl) (fun X o q => ?_)
  show WS X G 7 σ 0 [(0, .ref (gad G 11)), (1, .int rz), (2, .int yz), (3, .int pz)] []
  obtain ⟨hcq, hcnt, hsg, hsn⟩ := id hp
  refine r_iload_n o dX10_luck_0 1 rfl ?_
  refine r_callSI o (As := [.int rz]) (st := []) (c_X10_isRow (xl X) G σ rz) om_X10_isRow mw_779 mw_778 (by decide) rfl rfl (Nat.le_of_ble_eq_true rfl) dX10_luck_1 (fun rr1 σσ1 hp1 => ?_)
  obtain ⟨hp1, hp1b⟩ := hp1; replace hp1 := Eq.symm hp1; replace hp1b := Eq.symm hp1b; subst hp1; subst hp1b
  refine r_if_ne o (tgt := 11) dX10_luck_4 (by decide) (fun hb4 => ?_) (fun hb4 => ?_)
  · skip
    rw [b01_ne0] at hb4
    have hk1 := hb4
    obtain ⟨hr1, hr2⟩ := inB_nI (n := 5) (by decide) hk1
    refine r_iload_n o dX10_luck_11 2 rfl ?_
    refine r_callSI o (As := [.int yz]) (st := []) (c_X10_isAhead (xl X) G σ yz) om_X10_isAhead mw_948 mw_947 (by decide) rfl rfl (Nat.le_of_ble_eq_true rfl) dX10_luck_12 (fun rr12 σσ12 hp12 => ?_)
    obtain ⟨hp12, hp12b⟩ := hp12; replace hp12 := Eq.symm hp12; replace hp12b := Eq.symm hp12b; subst hp12; subst hp12b
    refine r_if_eq o (tgt := 25) dX10_luck_15 (by decide) (fun hb15 => ?_) (fun hb15 => ?_)
    · skip
      rw [b01_eq0] at hb15
      refine r_ldc2_w o mw_859 dX10_luck_25 ?_
      exact r_lreturn o q dX10_luck_28 (⟨by rw [rf_2 hb4 (by first | (rw [hb15]; rfl) | (rw [hb15, hb22]; rfl)), if_neg (by decide)]; decide, keepM_rfl⟩)
    · skip
      rw [b01_ne0] at hb15
      obtain ⟨hy1, hy2⟩ := inB_nI (n := 22) (by decide) (inB_wk hb15)
      have hy3 := inB_ge hb15
      refine r_iload_n o dX10_luck_18 3 rfl ?_
      refine r_callSI o (As := [.int pz]) (st := []) (c_X10_isPart (xl X) G σ pz) om_X10_isPart mw_857 mw_856 (by decide) rfl rfl (Nat.le_of_ble_eq_true rfl) dX10_luck_19 (fun rr19 σσ19 hp19 => ?_)
      obtain ⟨hp19, hp19b⟩ := hp19; replace hp19 := Eq.symm hp19; replace hp19b := Eq.symm hp19b; subst hp19; subst hp19b
      refine r_if_ne o (tgt := 29) dX10_luck_22 (by decide) (fun hb22 => ?_) (fun hb22 => ?_)
      · skip
        rw [b01_ne0] at hb22
        refine r_aload_n o dX10_luck_29 0 rfl ?_
        refine r_callVI o (As := []) (st := []) (c_X10_fault (xl X) G σ sn cntq hp) om_X10_fault mw_804 mw_805 mw_827 (by decide) rfl rfl rfl (by decide) rfl rfl (Nat.le_of_ble_eq_true rfl) dX10_luck_30 (fun rr30 σσ30 hp30 => ?_)
        obtain ⟨hp30, hp30b⟩ := hp30; replace hp30 := Eq.symm hp30; replace hp30b := Eq.symm hp30b; subst hp30; subst hp30b
        refine r_if_lt o (tgt := 40) dX10_luck_33 (by decide) (fun hb33 => ?_) (fun hb33 => ?_)
        · skip
          have hno := flt_n hcnt hb33
          refine r_lv (lv' := [(0, .ref (gad G 11)), (1, .int (nI rz.toNatClampNeg)), (2, .int yz), (3, .int pz)]) (congrArg (fun zz => ([(0, .ref (gad G 11)), (1, .int zz), (2, .int yz), (3, .int pz)] : List (Nat × Value))) (hr1)) ?_
          refine r_lv (lv' := [(0, .ref (gad G 11)), (1, .int (nI rz.toNatClampNeg)), (2, .int (nI yz.toNatClampNeg)), (3, .int pz)]) (congrArg (fun zz => ([(0, .ref (gad G 11)), (1, .int (nI rz.toNatClampNeg)), (2, .int zz), (3, .int pz)] : List (Nat × Value))) (hy1)) ?_
          refine r_aload_n o dX10_luck_40 0 rfl ?_
          refine r_iload_n o dX10_luck_41 1 rfl ?_
          refine r_iload_n o dX10_luck_42 2 rfl ?_
          refine r_callVV o (As := [.int (nI rz.toNatClampNeg), .int (nI yz.toNatClampNeg)]) (st := []) (c_X10_fhN (xl X) G σ sn cntq hp hyb rz.toNatClampNeg (by omega) yz.toNatClampNeg (by omega) hno) om_X10_findHeld mw_954 mw_31 mw_952 (by decide) rfl rfl rfl (by decide) rfl rfl (Nat.le_of_ble_eq_true rfl) dX10_luck_43 (fun σσ43 hp43 => ?_)
          obtain ⟨hg14, hg15, hg16, hkp⟩ := hp43
          have hkl := fhK_le (dlM σ sn cntq rz.toNatClampNeg) yz.toNatClampNeg
          skip
          obtain ⟨hd5, hhd5⟩ : ∃ zq, zq = (fhK (dlM σ sn cntq rz.toNatClampNeg) yz.toNatClampNeg).1 := ⟨_, rfl⟩
          obtain ⟨cd5, hcd5⟩ : ∃ zq, zq = (fhK (dlM σ sn cntq rz.toNatClampNeg) yz.toNatClampNeg).2 := ⟨_, rfl⟩
          rw [← hhd5] at hg15 hkl
          rw [← hcd5] at hg16 hkl
          refine r_lconst o (v := 0) dX10_luck_46 rfl ?_
          refine r_lstore o (lv' := [(4, .long 0), (0, .ref (gad G 11)), (1, .int (nI rz.toNatClampNeg)), (2, .int (nI yz.toNatClampNeg)), (3, .int pz)]) dX10_luck_47 (by decide) rfl ?_
          refine r_aload_n o dX10_luck_49 1 rfl ?_
          refine gf_11_15 o (v := nI hd5) hg15 mw_713 dX10_luck_50 ?_
          refine r_istore o (lv' := [(6, .int (nI hd5)), (4, .long 0), (0, .ref (gad G 11)), (1, .int (nI rz.toNatClampNeg)), (2, .int (nI yz.toNatClampNeg)), (3, .int pz)]) dX10_luck_53 (by decide) rfl ?_
          have L55 : ∀ (n : Nat) (jq : Nat) (hjq : hd5 + jq ≤ cd5 + 1), cd5 + 1 - jq < n → WS X G 7 σσ43 55 [(0, .ref (gad G 11)), (1, .int (nI rz.toNatClampNeg)), (2, .int (nI yz.toNatClampNeg)), (3, .int pz), (4, .long (lkM hd5 cd5 jq)), (6, .int (nI (hd5 + jq)))] [] := by
            intro n
            induction n with
            | zero => intro jq hjq hm; exact absurd hm (Nat.not_lt_zero _)
            | succ n ih55 =>
              intro jq hjq hm
              refine r_iload o dX10_luck_55 5 rfl ?_
              refine r_aload_n o dX10_luck_57 0 rfl ?_
              refine gf_11_16 o (v := nI cd5) hg16 mw_714 dX10_luck_58 ?_
              refine r_icmp_gt o (tgt := 84) dX10_luck_61 (by decide) (fun hb61 => ?_) (fun hb61 => ?_)
              · skip
                rw [nI_ltI (by omega) (by omega)] at hb61
                have hje : jq = cd5 + 1 - hd5 := by omega
                refine r_lv (lv' := [(0, .ref (gad G 11)), (1, .int (nI rz.toNatClampNeg)), (2, .int (nI yz.toNatClampNeg)), (3, .int pz), (4, .long (lkM hd5 cd5 (cd5 + 1 - hd5))), (6, .int (nI (hd5 + jq)))]) (congrArg (fun zz => ([(0, .ref (gad G 11)), (1, .int (nI rz.toNatClampNeg)), (2, .int (nI yz.toNatClampNeg)), (3, .int pz), (4, .long zz), (6, .int (nI (hd5 + jq)))] : List (Nat × Value))) (show lkM hd5 cd5 jq = lkM hd5 cd5 (cd5 + 1 - hd5) by rw [hje])) ?_
                refine r_lload o dX10_luck_84 4 rfl ?_
                refine r_lconst o (v := 1) dX10_luck_86 rfl ?_
                refine r_aload_n o dX10_luck_87 0 rfl ?_
                refine gf_11_16 o (v := nI cd5) hg16 mw_714 dX10_luck_88 ?_
                refine r_lshl o dX10_luck_91 rfl ?_
                refine r_iload_n o dX10_luck_92 3 rfl ?_
                refine r_callSL o (As := [.long (lkM hd5 cd5 (cd5 + 1 - hd5)), .long (1 <<< ((nI cd5).toInt64 &&& 63)), .int pz]) (st := []) (c_X10_lowF (xl X) G σσ43 (lkM hd5 cd5 (cd5 + 1 - hd5)) (1 <<< ((nI cd5).toInt64 &&& 63)) (by have := lk_ti (hdq := hd5) (cdq := cd5) (by omega) (by omega); omega) (by have := lk_ti (hdq := hd5) (cdq := cd5) (by omega) (by omega); omega) (by rw [shl_e (by omega)]; exact pw_ti (by omega)) pz) om_X10_lowest mw_883 mw_882 (by decide) rfl rfl (Nat.le_of_ble_eq_true rfl) dX10_luck_93 (fun rr93 σσ93 hp93 => ?_)
                obtain ⟨hp93, hp93b⟩ := hp93; replace hp93 := Eq.symm hp93; replace hp93b := Eq.symm hp93b; subst hp93; subst hp93b
                exact r_lreturn o q dX10_luck_96 (⟨by rw [rf_0 hb4 (by first | (rw [hb15]; rfl) | (rw [hb15, hb22]; rfl)) hno, if_pos rfl, ← hhd5, ← hcd5, lk_e (by omega) (by omega)], hkp⟩)
              · skip
                rw [nI_ltI (by omega) (by omega)] at hb61
                refine r_lload o dX10_luck_64 4 rfl ?_
                refine r_aload_n o dX10_luck_66 0 rfl ?_
                refine gf_11_16 o (v := nI cd5) hg16 mw_714 dX10_luck_67 ?_
                refine r_iload o dX10_luck_70 5 rfl ?_
                refine r_callSL o (As := [.int (nI cd5), .int (nI (hd5 + jq))]) (st := [.long (lkM hd5 cd5 jq)]) (c_X10_choose (xl X) G σσ43 cd5 (by omega) (hd5 + jq) (by omega)) om_X10_choose mw_961 mw_960 (by decide) rfl rfl (Nat.le_of_ble_eq_true rfl) dX10_luck_72 (fun rr72 σσ72 hp72 => ?_)
                obtain ⟨hp72, hp72b⟩ := hp72; replace hp72 := Eq.symm hp72; replace hp72b := Eq.symm hp72b; subst hp72; subst hp72b
                refine r_ladd o dX10_luck_75 ?_
                refine r_topl (y := lkM hd5 cd5 (jq + 1)) rfl ?_
                refine r_lstore o (lv' := [(4, .long (lkM hd5 cd5 (jq + 1))), (0, .ref (gad G 11)), (1, .int (nI rz.toNatClampNeg)), (2, .int (nI yz.toNatClampNeg)), (3, .int pz), (6, .int (nI (hd5 + jq)))]) dX10_luck_76 (by decide) rfl ?_
                refine r_iinc o (v := nI (hd5 + jq + 1)) (lv' := [(6, .int (nI (hd5 + jq + 1))), (4, .long (lkM hd5 cd5 (jq + 1))), (0, .ref (gad G 11)), (1, .int (nI rz.toNatClampNeg)), (2, .int (nI yz.toNatClampNeg)), (3, .int pz)]) dX10_luck_78 5 rfl (nI_inc _) (by decide) rfl ?_
                refine r_goto o (tgt := 55) dX10_luck_81 (by decide) ?_
                exact r_to rfl [2, 3, 4, 5, 1, 0] rfl (ih55 (jq + 1) (by omega) (by omega))
          exact r_to rfl [2, 3, 4, 5, 1, 0] rfl (L55 _ 0 (by omega) (Nat.lt_succ_self _))
        · skip
          have hfs := flt_s hb33
          refine r_ldc2_w o mw_860 dX10_luck_36 ?_
          exact r_lreturn o q dX10_luck_39 (⟨by rw [rf_5 hb4 (by first | (rw [hb15]; rfl) | (rw [hb15, hb22]; rfl)) hfs, if_neg (by decide)]; decide, keepM_rfl⟩)
      · skip
        rw [b01_eq0] at hb22
        refine r_ldc2_w o mw_859 dX10_luck_25 ?_
        exact r_lreturn o q dX10_luck_28 (⟨by rw [rf_2 hb4 (by first | (rw [hb15]; rfl) | (rw [hb15, hb22]; rfl)), if_neg (by decide)]; decide, keepM_rfl⟩)
  · skip
    rw [b01_eq0] at hb4
    refine r_ldc2_w o mw_850 dX10_luck_7 ?_
    exact r_lreturn o q dX10_luck_10 (⟨by rw [rf_1 hb4, if_neg (by decide)]; decide, keepM_rfl⟩)
set_option maxHeartbeats 4000000 in
set_option maxRecDepth 100000 in
theorem c_X10_drawn (l : Launch) (G : Gl) (σ : Sto) (sn : Nat → Nat) (cntq : Nat) (hp : PadM σ sn cntq) (hyb : ∀ rq, rq < 6 → BdF (yrF σ rq)) (rz : Int32) (lz : Int32) (nz : Int32) (sdz : Int32) : CtI l G yX10_drawn cX10_drawn 13 (some .int) 5 115 [.ref (gad G 11), .int rz, .int lz, .int nz, .int sdz] σ (fun r σ' => r = (if refI (inB (nI 0) (nI 5) rz) ((inB (nI 2) (nI 12) lz && (inB (nI 1) (nI 100) nz && inB (nI 1) (nI 1000000) sdz))) (fltF sn cntq 21 0) = 0 then nI (dmR (yeF (dlM σ sn cntq rz.toNatClampNeg) 24) (gcnt (dlM σ sn cntq rz.toNatClampNeg) 24) lz.toNatClampNeg (upF (yeF (dlM σ sn cntq rz.toNatClampNeg) 24) (gcnt (dlM σ sn cntq rz.toNatClampNeg) 24) (nuF (dlM σ sn cntq rz.toNatClampNeg) 24) lz.toNatClampNeg) (decide (loF (gcnt (dlM σ sn cntq rz.toNatClampNeg) 24) (nuF (dlM σ sn cntq rz.toNatClampNeg) 24) = 0)) nz.toNatClampNeg (nuF (dlM σ sn cntq rz.toNatClampNeg) 24) sdz.toNatClampNeg) else refI (inB (nI 0) (nI 5) rz) ((inB (nI 2) (nI 12) lz && (inB (nI 1) (nI 100) nz && inB (nI 1) (nI 1000000) sdz))) (fltF sn cntq 21 0)) ∧ keepM σ σ') := by
  refine CtI.of (by decide +kernel) (Nat.le_of_ble_eq_true rfl) (fun X o q => ?_)
  show WS X G 13 σ 0 [(0, .ref (gad G 11)), (1, .int rz), (2, .int lz), (3, .int nz), (4, .int sdz)] []
  obtain ⟨hcq, hcnt, hsg, hsn⟩ := id hp
  refine r_iload_n o dX10_drawn_0 1 rfl ?_
  refine r_callSI o (As := [.int rz]) (st := []) (c_X10_isRow (xl X) G σ rz) om_X10_isRow mw_779 mw_778 (by decide) rfl rfl (Nat.le_of_ble_eq_true rfl) dX10_drawn_1 (fun rr1 σσ1 hp1 => ?_)
  obtain ⟨hp1, hp1b⟩ := hp1; replace hp1 := Eq.symm hp1; replace hp1b := Eq.symm hp1b; subst hp1; subst hp1b
  refine r_if_ne o (tgt := 9) dX10_drawn_4 (by decide) (fun hb4 => ?_) (fun hb4 => ?_)
  · skip
    rw [b01_ne0] at hb4
    have hk1 := hb4
    obtain ⟨hr1, hr2⟩ := inB_nI (n := 5) (by decide) hk1
    refine r_iload_n o dX10_drawn_9 2 rfl ?_
    refine r_callSI o (As := [.int lz]) (st := []) (c_X10_isLength (xl X) G σ lz) om_X10_isLength mw_852 mw_851 (by decide) rfl rfl (Nat.le_of_ble_eq_true rfl) dX10_drawn_10 (fun rr10 σσ10 hp10 => ?_)
    obtain ⟨hp10, hp10b⟩ := hp10; replace hp10 := Eq.symm hp10; replace hp10b := Eq.symm hp10b; subst hp10; subst hp10b
    refine r_if_eq o (tgt := 41) dX10_drawn_13 (by decide) (fun hb13 => ?_) (fun hb13 => ?_)
    · skip
      rw [b01_eq0] at hb13
      refine r_bipush o (v := (-2)) dX10_drawn_41 (by decide) ?_
      exact r_ireturn o q dX10_drawn_43 (⟨by rw [rf_2 hb4 (by first | (rw [hb13]; rfl) | (rw [hb13, hb25]; rfl) | (rw [hb13, hb25, hb38]; rfl)), if_neg (by decide)], keepM_rfl⟩)
    · skip
      rw [b01_ne0] at hb13
      obtain ⟨hl1, hl2⟩ := inB_nI (n := 12) (by decide) (inB_wk hb13)
      have hl3 := inB_ge hb13
      refine r_iload_n o dX10_drawn_16 3 rfl ?_
      refine r_i2l o dX10_drawn_17 rfl ?_
      refine r_lconst o (v := 1) dX10_drawn_18 rfl ?_
      refine r_ldc2_w o mw_912 dX10_drawn_19 ?_
      refine r_callSI o (As := [.long ((nz).toInt64), .long 1, .long 100]) (st := []) (c_X10_in (xl X) G σ ((nz).toInt64) 1 100) om_X10_in mw_783 mw_782 (by decide) rfl rfl (Nat.le_of_ble_eq_true rfl) dX10_drawn_22 (fun rr22 σσ22 hp22 => ?_)
      obtain ⟨hp22, hp22b⟩ := hp22; replace hp22 := Eq.symm hp22; replace hp22b := Eq.symm hp22b; subst hp22; subst hp22b
      refine r_topi (y := b01 (inB (nI 1) (nI 100) nz)) (by rw [← inL_w]; rfl) ?_
      refine r_if_eq o (tgt := 41) dX10_drawn_25 (by decide) (fun hb25 => ?_) (fun hb25 => ?_)
      · skip
        rw [b01_eq0] at hb25
        refine r_bipush o (v := (-2)) dX10_drawn_41 (by decide) ?_
        exact r_ireturn o q dX10_drawn_43 (⟨by rw [rf_2 hb4 (by first | (rw [hb13]; rfl) | (rw [hb13, hb25]; rfl) | (rw [hb13, hb25, hb38]; rfl)), if_neg (by decide)], keepM_rfl⟩)
      · skip
        rw [b01_ne0] at hb25
        obtain ⟨hm1, hm2⟩ := inB_nI (n := 100) (by decide) (inB_wk hb25)
        refine r_iload o dX10_drawn_28 4 rfl ?_
        refine r_i2l o dX10_drawn_30 rfl ?_
        refine r_lconst o (v := 1) dX10_drawn_31 rfl ?_
        refine r_ldc2_w o mw_913 dX10_drawn_32 ?_
        refine r_callSI o (As := [.long ((sdz).toInt64), .long 1, .long 1000000]) (st := []) (c_X10_in (xl X) G σ ((sdz).toInt64) 1 1000000) om_X10_in mw_783 mw_782 (by decide) rfl rfl (Nat.le_of_ble_eq_true rfl) dX10_drawn_35 (fun rr35 σσ35 hp35 => ?_)
        obtain ⟨hp35, hp35b⟩ := hp35; replace hp35 := Eq.symm hp35; replace hp35b := Eq.symm hp35b; subst hp35; subst hp35b
        refine r_topi (y := b01 (inB (nI 1) (nI 1000000) sdz)) (by rw [← inL_w]; rfl) ?_
        refine r_if_ne o (tgt := 44) dX10_drawn_38 (by decide) (fun hb38 => ?_) (fun hb38 => ?_)
        · skip
          rw [b01_ne0] at hb38
          obtain ⟨hs1, hs2⟩ := inB_nI (n := 1000000) (by decide) (inB_wk hb38)
          refine r_aload_n o dX10_drawn_44 0 rfl ?_
          refine r_callVI o (As := []) (st := []) (c_X10_fault (xl X) G σ sn cntq hp) om_X10_fault mw_804 mw_805 mw_827 (by decide) rfl rfl rfl (by decide) rfl rfl (Nat.le_of_ble_eq_true rfl) dX10_drawn_45 (fun rr45 σσ45 hp45 => ?_)
          obtain ⟨hp45, hp45b⟩ := hp45; replace hp45 := Eq.symm hp45; replace hp45b := Eq.symm hp45b; subst hp45; subst hp45b
          refine r_if_lt o (tgt := 54) dX10_drawn_48 (by decide) (fun hb48 => ?_) (fun hb48 => ?_)
          · skip
            have hno := flt_n hcnt hb48
            obtain ⟨dq5, hdq5⟩ : ∃ zq, zq = (dlM σ sn cntq rz.toNatClampNeg) := ⟨_, rfl⟩
            have hgl := gcnt_le dq5 24
            refine r_lv (lv' := [(0, .ref (gad G 11)), (1, .int (nI rz.toNatClampNeg)), (2, .int lz), (3, .int nz), (4, .int sdz)]) (congrArg (fun zz => ([(0, .ref (gad G 11)), (1, .int zz), (2, .int lz), (3, .int nz), (4, .int sdz)] : List (Nat × Value))) (hr1)) ?_
            refine r_lv (lv' := [(0, .ref (gad G 11)), (1, .int (nI rz.toNatClampNeg)), (2, .int (nI lz.toNatClampNeg)), (3, .int nz), (4, .int sdz)]) (congrArg (fun zz => ([(0, .ref (gad G 11)), (1, .int (nI rz.toNatClampNeg)), (2, .int zz), (3, .int nz), (4, .int sdz)] : List (Nat × Value))) (hl1)) ?_
            refine r_lv (lv' := [(0, .ref (gad G 11)), (1, .int (nI rz.toNatClampNeg)), (2, .int (nI lz.toNatClampNeg)), (3, .int (nI nz.toNatClampNeg)), (4, .int sdz)]) (congrArg (fun zz => ([(0, .ref (gad G 11)), (1, .int (nI rz.toNatClampNeg)), (2, .int (nI lz.toNatClampNeg)), (3, .int zz), (4, .int sdz)] : List (Nat × Value))) (hm1)) ?_
            refine r_lv (lv' := [(0, .ref (gad G 11)), (1, .int (nI rz.toNatClampNeg)), (2, .int (nI lz.toNatClampNeg)), (3, .int (nI nz.toNatClampNeg)), (4, .int (nI sdz.toNatClampNeg))]) (congrArg (fun zz => ([(0, .ref (gad G 11)), (1, .int (nI rz.toNatClampNeg)), (2, .int (nI lz.toNatClampNeg)), (3, .int (nI nz.toNatClampNeg)), (4, .int zz)] : List (Nat × Value))) (hs1)) ?_
            refine r_aload_n o dX10_drawn_54 0 rfl ?_
            refine r_iload_n o dX10_drawn_55 1 rfl ?_
            refine r_callVV o (As := [.int (nI rz.toNatClampNeg)]) (st := []) (c_X10_deal (xl X) G σ sn cntq hp rz.toNatClampNeg (by omega) hno (hyb _ (by omega))) om_X10_deal mw_831 mw_18 mw_829 (by decide) rfl rfl rfl (by decide) rfl rfl (Nat.le_of_ble_eq_true rfl) dX10_drawn_56 (fun σσ56 hp56 => ?_)
            obtain ⟨hdd, hkk⟩ := hp56
            rw [← hdq5] at hdd
            refine r_aload_n o dX10_drawn_59 0 rfl ?_
            refine r_bipush o (v := nI 24) dX10_drawn_60 (by decide) ?_
            refine r_callVV o (As := [.int (nI 24)]) (st := []) (c_X10_layN (xl X) G σσ56 σ dq5 24 (by omega) hdd hkk) om_X10_layNumbers mw_863 mw_21 mw_861 (by decide) rfl rfl rfl (by decide) rfl rfl (Nat.le_of_ble_eq_true rfl) dX10_drawn_62 (fun σσ62 hp62 => ?_)
            have hnm := hp62
            refine r_aload_n o dX10_drawn_65 0 rfl ?_
            refine r_iload_n o dX10_drawn_66 2 rfl ?_
            refine r_callVL o (As := [.int (nI lz.toNatClampNeg)]) (st := []) (c_X10_upN (xl X) G σσ62 σ dq5 24 (by omega) (nuF dq5 24) hnm lz.toNatClampNeg (by omega)) om_X10_upperOf mw_876 mw_24 mw_874 (by decide) rfl rfl rfl (by decide) rfl rfl (Nat.le_of_ble_eq_true rfl) dX10_drawn_67 (fun rr67 σσ67 hp67 => ?_)
            obtain ⟨hu67, hnm2⟩ := hp67
            subst hu67
            refine r_lstore o (lv' := [(5, .long (upF (yeF dq5 24) (gcnt dq5 24) (nuF dq5 24) lz.toNatClampNeg)), (0, .ref (gad G 11)), (1, .int (nI rz.toNatClampNeg)), (2, .int (nI lz.toNatClampNeg)), (3, .int (nI nz.toNatClampNeg)), (4, .int (nI sdz.toNatClampNeg))]) dX10_drawn_70 (by decide) rfl ?_
            refine r_aload_n o dX10_drawn_72 1 rfl ?_
            refine r_callVL o (As := []) (st := []) (c_X10_loN (xl X) G σσ67 σ dq5 24 (by omega) (nuF dq5 24) hnm2) om_X10_lowerOf mw_867 mw_22 mw_865 (by decide) rfl rfl rfl (by decide) rfl rfl (Nat.le_of_ble_eq_true rfl) dX10_drawn_73 (fun rr73 σσ73 hp73 => ?_)
            obtain ⟨hp73, hp73b⟩ := hp73; replace hp73 := Eq.symm hp73; replace hp73b := Eq.symm hp73b; subst hp73; subst hp73b
            refine r_lconst o (v := 0) dX10_drawn_76 rfl ?_
            refine r_lcmp o dX10_drawn_77 ?_
            refine r_if_ne o (tgt := 85) dX10_drawn_78 (by decide) (fun hb78 => ?_) (fun hb78 => ?_)
            · skip
              rw [lg_cmp_eq] at hb78
              refine r_iconst o (v := nI 0) dX10_drawn_85 (by decide) ?_
              refine r_topi (y := b01 (decide (loF (gcnt dq5 24) (nuF dq5 24) = 0))) (b01_f' (decide_eq_false hb78)) ?_
              refine r_istore o (lv' := [(7, .int (b01 (decide (loF (gcnt dq5 24) (nuF dq5 24) = 0)))), (5, .long (upF (yeF dq5 24) (gcnt dq5 24) (nuF dq5 24) lz.toNatClampNeg)), (0, .ref (gad G 11)), (1, .int (nI rz.toNatClampNeg)), (2, .int (nI lz.toNatClampNeg)), (3, .int (nI nz.toNatClampNeg)), (4, .int (nI sdz.toNatClampNeg))]) dX10_drawn_86 (by decide) rfl ?_
              refine r_iload o dX10_drawn_88 6 rfl ?_
              refine r_i2l o dX10_drawn_90 rfl ?_
              refine r_lstore o (lv' := [(8, .long ((nI sdz.toNatClampNeg).toInt64)), (7, .int (b01 (decide (loF (gcnt dq5 24) (nuF dq5 24) = 0)))), (5, .long (upF (yeF dq5 24) (gcnt dq5 24) (nuF dq5 24) lz.toNatClampNeg)), (0, .ref (gad G 11)), (1, .int (nI rz.toNatClampNeg)), (2, .int (nI lz.toNatClampNeg)), (3, .int (nI nz.toNatClampNeg)), (4, .int (nI sdz.toNatClampNeg))]) dX10_drawn_91 (by decide) rfl ?_
              refine r_iconst o (v := nI 0) dX10_drawn_93 (by decide) ?_
              refine r_istore o (lv' := [(10, .int (nI 0)), (8, .long ((nI sdz.toNatClampNeg).toInt64)), (7, .int (b01 (decide (loF (gcnt dq5 24) (nuF dq5 24) = 0)))), (5, .long (upF (yeF dq5 24) (gcnt dq5 24) (nuF dq5 24) lz.toNatClampNeg)), (0, .ref (gad G 11)), (1, .int (nI rz.toNatClampNeg)), (2, .int (nI lz.toNatClampNeg)), (3, .int (nI nz.toNatClampNeg)), (4, .int (nI sdz.toNatClampNeg))]) dX10_drawn_94 (by decide) rfl ?_
              refine r_iconst o (v := nI 0) dX10_drawn_96 (by decide) ?_
              refine r_istore o (lv' := [(11, .int (nI 0)), (10, .int (nI 0)), (8, .long ((nI sdz.toNatClampNeg).toInt64)), (7, .int (b01 (decide (loF (gcnt dq5 24) (nuF dq5 24) = 0)))), (5, .long (upF (yeF dq5 24) (gcnt dq5 24) (nuF dq5 24) lz.toNatClampNeg)), (0, .ref (gad G 11)), (1, .int (nI rz.toNatClampNeg)), (2, .int (nI lz.toNatClampNeg)), (3, .int (nI nz.toNatClampNeg)), (4, .int (nI sdz.toNatClampNeg))]) dX10_drawn_97 (by decide) rfl ?_
              have L99 : ∀ (n : Nat) (kq : Nat) (req : Nat) (gf : Nat → Int32) (seq1 : Nat) (τq : Sto) (hkq : kq ≤ nz.toNatClampNeg) (hreq : req ≤ kq) (hsel : seq1 < 2147483648) (hnt : NmX σ τq dq5 24 gf) (hdnq : dmR (yeF dq5 24) (gcnt dq5 24) lz.toNatClampNeg (upF (yeF dq5 24) (gcnt dq5 24) (nuF dq5 24) lz.toNatClampNeg) (decide (loF (gcnt dq5 24) (nuF dq5 24) = 0)) nz.toNatClampNeg (nuF dq5 24) sdz.toNatClampNeg = req + dmR (yeF dq5 24) (gcnt dq5 24) lz.toNatClampNeg (upF (yeF dq5 24) (gcnt dq5 24) (nuF dq5 24) lz.toNatClampNeg) (decide (loF (gcnt dq5 24) (nuF dq5 24) = 0)) (nz.toNatClampNeg - kq) gf seq1), nz.toNatClampNeg - kq < n → WS X G 13 τq 99 [(0, .ref (gad G 11)), (1, .int (nI rz.toNatClampNeg)), (2, .int (nI lz.toNatClampNeg)), (3, .int (nI nz.toNatClampNeg)), (4, .int (nI sdz.toNatClampNeg)), (5, .long (upF (yeF dq5 24) (gcnt dq5 24) (nuF dq5 24) lz.toNatClampNeg)), (7, .int (b01 (decide (loF (gcnt dq5 24) (nuF dq5 24) = 0)))), (8, .long (lN seq1)), (10, .int (nI req)), (11, .int (nI kq))] [] := by
                intro n
                induction n with
                | zero => intro kq req gf seq1 τq hkq hreq hsel hnt hdnq hm; exact absurd hm (Nat.not_lt_zero _)
                | succ n ih99 =>
                  intro kq req gf seq1 τq hkq hreq hsel hnt hdnq hm
                  refine r_iload o dX10_drawn_99 9 rfl ?_
                  refine r_iload_n o dX10_drawn_101 3 rfl ?_
                  refine r_icmp_ge o (tgt := 183) dX10_drawn_102 (by decide) (fun hb102 => ?_) (fun hb102 => ?_)
                  · skip
                    rw [nI_leI (by omega) (by omega)] at hb102
                    have hfin : dmR (yeF dq5 24) (gcnt dq5 24) lz.toNatClampNeg (upF (yeF dq5 24) (gcnt dq5 24) (nuF dq5 24) lz.toNatClampNeg) (decide (loF (gcnt dq5 24) (nuF dq5 24) = 0)) nz.toNatClampNeg (nuF dq5 24) sdz.toNatClampNeg = req := by rw [hdnq, show nz.toNatClampNeg - kq = 0 by omega]; rfl
                    refine r_iload o dX10_drawn_183 8 rfl ?_
                    exact r_ireturn o q dX10_drawn_185 (⟨by rw [rf_0 hb4 (by first | (rw [hb13]; rfl) | (rw [hb13, hb25]; rfl) | (rw [hb13, hb25, hb38]; rfl)) hno, if_pos rfl, ← hdq5, hfin], hnt.2.2.2.2⟩)
                  · skip
                    rw [nI_leI (by omega) (by omega)] at hb102
                    refine r_aload_n o dX10_drawn_105 0 rfl ?_
                    refine gf_11_7 o (v := nI (gcnt dq5 24)) hnt.1 mw_705 dX10_drawn_106 ?_
                    refine r_iconst o (v := nI 1) dX10_drawn_109 (by decide) ?_
                    refine r_isub o dX10_drawn_110 ?_
                    refine r_topi (y := nI (gcnt dq5 24) - 1) rfl ?_
                    refine r_istore o (lv' := [(12, .int (nI (gcnt dq5 24) - 1)), (0, .ref (gad G 11)), (1, .int (nI rz.toNatClampNeg)), (2, .int (nI lz.toNatClampNeg)), (3, .int (nI nz.toNatClampNeg)), (4, .int (nI sdz.toNatClampNeg)), (5, .long (upF (yeF dq5 24) (gcnt dq5 24) (nuF dq5 24) lz.toNatClampNeg)), (7, .int (b01 (decide (loF (gcnt dq5 24) (nuF dq5 24) = 0)))), (8, .long (lN seq1)), (10, .int (nI req)), (11, .int (nI kq))]) dX10_drawn_111 (by decide) rfl ?_
                    have L113 : ∀ (n : Nat) (pq9 : Nat) (gf2 : Nat → Int32) (seq2 : Nat) (ρq : Sto) (hpq9 : pq9 ≤ (gcnt dq5 24)) (hse2 : seq2 < 2147483648) (hnr : NmX σ ρq dq5 24 gf2) (hdq2 : drS ((gcnt dq5 24) - 1) gf seq1 = drS (pq9 - 1) gf2 seq2), pq9 < n → WS X G 13 ρq 113 [(0, .ref (gad G 11)), (1, .int (nI rz.toNatClampNeg)), (2, .int (nI lz.toNatClampNeg)), (3, .int (nI nz.toNatClampNeg)), (4, .int (nI sdz.toNatClampNeg)), (5, .long (upF (yeF dq5 24) (gcnt dq5 24) (nuF dq5 24) lz.toNatClampNeg)), (7, .int (b01 (decide (loF (gcnt dq5 24) (nuF dq5 24) = 0)))), (8, .long (lN seq2)), (10, .int (nI req)), (11, .int (nI kq)), (12, .int (nI pq9 - 1))] [] := by
                      intro n
                      induction n with
                      | zero => intro pq9 gf2 seq2 ρq hpq9 hse2 hnr hdq2 hm; exact absurd hm (Nat.not_lt_zero _)
                      | succ n ih113 =>
                        intro pq9 gf2 seq2 ρq hpq9 hse2 hnr hdq2 hm
                        refine r_iload o dX10_drawn_113 10 rfl ?_
                        refine r_if_le o (tgt := 151) dX10_drawn_115 (by decide) (fun hb115 => ?_) (fun hb115 => ?_)
                        · skip
                          rw [nI_le1 (by omega)] at hb115
                          have hd0 : drS ((gcnt dq5 24) - 1) gf seq1 = (gf2, seq2) := by rw [hdq2, show pq9 - 1 = 0 by omega]; rfl
                          refine r_iload o dX10_drawn_151 8 rfl ?_
                          refine r_iload o dX10_drawn_153 6 rfl ?_
                          refine r_if_ne o (tgt := 169) dX10_drawn_155 (by decide) (fun hb155 => ?_) (fun hb155 => ?_)
                          · skip
                            rw [b01_ne0] at hb155
                            refine r_iconst o (v := nI 1) dX10_drawn_169 (by decide) ?_
                            refine r_goto o (tgt := 174) dX10_drawn_170 (by decide) ?_
                            refine r_iadd o dX10_drawn_174 ?_
                            refine r_topi (y := nI (req + 1)) (nI_add' _ _) ?_
                            refine r_istore o (lv' := [(10, .int (nI (req + 1))), (0, .ref (gad G 11)), (1, .int (nI rz.toNatClampNeg)), (2, .int (nI lz.toNatClampNeg)), (3, .int (nI nz.toNatClampNeg)), (4, .int (nI sdz.toNatClampNeg)), (5, .long (upF (yeF dq5 24) (gcnt dq5 24) (nuF dq5 24) lz.toNatClampNeg)), (7, .int (b01 (decide (loF (gcnt dq5 24) (nuF dq5 24) = 0)))), (8, .long (lN seq2)), (11, .int (nI kq)), (12, .int (nI pq9 - 1))]) dX10_drawn_175 (by decide) rfl ?_
                            refine r_iinc o (v := nI (kq + 1)) (lv' := [(11, .int (nI (kq + 1))), (10, .int (nI (req + 1))), (0, .ref (gad G 11)), (1, .int (nI rz.toNatClampNeg)), (2, .int (nI lz.toNatClampNeg)), (3, .int (nI nz.toNatClampNeg)), (4, .int (nI sdz.toNatClampNeg)), (5, .long (upF (yeF dq5 24) (gcnt dq5 24) (nuF dq5 24) lz.toNatClampNeg)), (7, .int (b01 (decide (loF (gcnt dq5 24) (nuF dq5 24) = 0)))), (8, .long (lN seq2)), (12, .int (nI pq9 - 1))]) dX10_drawn_177 9 rfl (nI_inc _) (by decide) rfl ?_
                            refine r_goto o (tgt := 99) dX10_drawn_180 (by decide) ?_
                            exact r_to rfl [2, 3, 4, 5, 6, 7, 8, 9, 1, 0] rfl (ih99 (kq + 1) (req + 1) gf2 seq2 ρq (by omega) (by omega) hse2 hnr (by rw [hdnq, show nz.toNatClampNeg - kq = (nz.toNatClampNeg - (kq + 1)) + 1 by omega, dm_s, hd0]; show req + ((if decide (loF (gcnt dq5 24) (nuF dq5 24) = 0) = true ∨ upF (yeF dq5 24) (gcnt dq5 24) (nuF dq5 24) lz.toNatClampNeg ≤ upF (yeF dq5 24) (gcnt dq5 24) gf2 lz.toNatClampNeg then 1 else 0) + dmR (yeF dq5 24) (gcnt dq5 24) lz.toNatClampNeg (upF (yeF dq5 24) (gcnt dq5 24) (nuF dq5 24) lz.toNatClampNeg) (decide (loF (gcnt dq5 24) (nuF dq5 24) = 0)) (nz.toNatClampNeg - (kq + 1)) gf2 seq2) = _; rw [if_pos (by first | exact Or.inl hb155 | exact Or.inr (l_nlt.mp hb166))]; omega) (by omega))
                          · skip
                            rw [b01_eq0] at hb155
                            refine r_aload_n o dX10_drawn_158 0 rfl ?_
                            refine r_iload_n o dX10_drawn_159 2 rfl ?_
                            refine r_callVL o (As := [.int (nI lz.toNatClampNeg)]) (st := [.int (nI req)]) (c_X10_upN (xl X) G ρq σ dq5 24 (by omega) gf2 hnr lz.toNatClampNeg (by omega)) om_X10_upperOf mw_876 mw_24 mw_874 (by decide) rfl rfl rfl (by decide) rfl rfl (Nat.le_of_ble_eq_true rfl) dX10_drawn_160 (fun rr160 σσ160 hp160 => ?_)
                            obtain ⟨hu160, hnu⟩ := hp160
                            subst hu160
                            refine r_lload o dX10_drawn_163 5 rfl ?_
                            refine r_lcmp o dX10_drawn_165 ?_
                            refine r_if_lt o (tgt := 173) dX10_drawn_166 (by decide) (fun hb166 => ?_) (fun hb166 => ?_)
                            · skip
                              rw [lg_cmp_lt] at hb166
                              refine r_iconst o (v := nI 0) dX10_drawn_173 (by decide) ?_
                              refine r_iadd o dX10_drawn_174 ?_
                              refine r_topi (y := nI (req + 0)) (nI_add' _ _) ?_
                              refine r_istore o (lv' := [(10, .int (nI (req + 0))), (0, .ref (gad G 11)), (1, .int (nI rz.toNatClampNeg)), (2, .int (nI lz.toNatClampNeg)), (3, .int (nI nz.toNatClampNeg)), (4, .int (nI sdz.toNatClampNeg)), (5, .long (upF (yeF dq5 24) (gcnt dq5 24) (nuF dq5 24) lz.toNatClampNeg)), (7, .int (b01 (decide (loF (gcnt dq5 24) (nuF dq5 24) = 0)))), (8, .long (lN seq2)), (11, .int (nI kq)), (12, .int (nI pq9 - 1))]) dX10_drawn_175 (by decide) rfl ?_
                              refine r_iinc o (v := nI (kq + 1)) (lv' := [(11, .int (nI (kq + 1))), (10, .int (nI (req + 0))), (0, .ref (gad G 11)), (1, .int (nI rz.toNatClampNeg)), (2, .int (nI lz.toNatClampNeg)), (3, .int (nI nz.toNatClampNeg)), (4, .int (nI sdz.toNatClampNeg)), (5, .long (upF (yeF dq5 24) (gcnt dq5 24) (nuF dq5 24) lz.toNatClampNeg)), (7, .int (b01 (decide (loF (gcnt dq5 24) (nuF dq5 24) = 0)))), (8, .long (lN seq2)), (12, .int (nI pq9 - 1))]) dX10_drawn_177 9 rfl (nI_inc _) (by decide) rfl ?_
                              refine r_goto o (tgt := 99) dX10_drawn_180 (by decide) ?_
                              exact r_to rfl [2, 3, 4, 5, 6, 7, 8, 9, 1, 0] rfl (ih99 (kq + 1) (req + 0) gf2 seq2 σσ160 (by omega) (by omega) hse2 hnu (by rw [hdnq, show nz.toNatClampNeg - kq = (nz.toNatClampNeg - (kq + 1)) + 1 by omega, dm_s, hd0]; show req + ((if decide (loF (gcnt dq5 24) (nuF dq5 24) = 0) = true ∨ upF (yeF dq5 24) (gcnt dq5 24) (nuF dq5 24) lz.toNatClampNeg ≤ upF (yeF dq5 24) (gcnt dq5 24) gf2 lz.toNatClampNeg then 1 else 0) + dmR (yeF dq5 24) (gcnt dq5 24) lz.toNatClampNeg (upF (yeF dq5 24) (gcnt dq5 24) (nuF dq5 24) lz.toNatClampNeg) (decide (loF (gcnt dq5 24) (nuF dq5 24) = 0)) (nz.toNatClampNeg - (kq + 1)) gf2 seq2) = _; rw [if_neg (fun zq => zq.elim (fun z1 => by rw [hb155] at z1; cases z1) (fun z1 => l_nlt.mpr z1 hb166))]; omega) (by omega))
                            · skip
                              rw [lg_cmp_lt] at hb166
                              refine r_iconst o (v := nI 1) dX10_drawn_169 (by decide) ?_
                              refine r_goto o (tgt := 174) dX10_drawn_170 (by decide) ?_
                              refine r_iadd o dX10_drawn_174 ?_
                              refine r_topi (y := nI (req + 1)) (nI_add' _ _) ?_
                              refine r_istore o (lv' := [(10, .int (nI (req + 1))), (0, .ref (gad G 11)), (1, .int (nI rz.toNatClampNeg)), (2, .int (nI lz.toNatClampNeg)), (3, .int (nI nz.toNatClampNeg)), (4, .int (nI sdz.toNatClampNeg)), (5, .long (upF (yeF dq5 24) (gcnt dq5 24) (nuF dq5 24) lz.toNatClampNeg)), (7, .int (b01 (decide (loF (gcnt dq5 24) (nuF dq5 24) = 0)))), (8, .long (lN seq2)), (11, .int (nI kq)), (12, .int (nI pq9 - 1))]) dX10_drawn_175 (by decide) rfl ?_
                              refine r_iinc o (v := nI (kq + 1)) (lv' := [(11, .int (nI (kq + 1))), (10, .int (nI (req + 1))), (0, .ref (gad G 11)), (1, .int (nI rz.toNatClampNeg)), (2, .int (nI lz.toNatClampNeg)), (3, .int (nI nz.toNatClampNeg)), (4, .int (nI sdz.toNatClampNeg)), (5, .long (upF (yeF dq5 24) (gcnt dq5 24) (nuF dq5 24) lz.toNatClampNeg)), (7, .int (b01 (decide (loF (gcnt dq5 24) (nuF dq5 24) = 0)))), (8, .long (lN seq2)), (12, .int (nI pq9 - 1))]) dX10_drawn_177 9 rfl (nI_inc _) (by decide) rfl ?_
                              refine r_goto o (tgt := 99) dX10_drawn_180 (by decide) ?_
                              exact r_to rfl [2, 3, 4, 5, 6, 7, 8, 9, 1, 0] rfl (ih99 (kq + 1) (req + 1) gf2 seq2 σσ160 (by omega) (by omega) hse2 hnu (by rw [hdnq, show nz.toNatClampNeg - kq = (nz.toNatClampNeg - (kq + 1)) + 1 by omega, dm_s, hd0]; show req + ((if decide (loF (gcnt dq5 24) (nuF dq5 24) = 0) = true ∨ upF (yeF dq5 24) (gcnt dq5 24) (nuF dq5 24) lz.toNatClampNeg ≤ upF (yeF dq5 24) (gcnt dq5 24) gf2 lz.toNatClampNeg then 1 else 0) + dmR (yeF dq5 24) (gcnt dq5 24) lz.toNatClampNeg (upF (yeF dq5 24) (gcnt dq5 24) (nuF dq5 24) lz.toNatClampNeg) (decide (loF (gcnt dq5 24) (nuF dq5 24) = 0)) (nz.toNatClampNeg - (kq + 1)) gf2 seq2) = _; rw [if_pos (by first | exact Or.inl hb155 | exact Or.inr (l_nlt.mp hb166))]; omega) (by omega))
                        · skip
                          rw [nI_le1 (by omega)] at hb115
                          obtain ⟨jq, rfl⟩ : ∃ zq, pq9 = zq + 2 := ⟨pq9 - 2, by omega⟩
                          refine r_lv (lv' := [(0, .ref (gad G 11)), (1, .int (nI rz.toNatClampNeg)), (2, .int (nI lz.toNatClampNeg)), (3, .int (nI nz.toNatClampNeg)), (4, .int (nI sdz.toNatClampNeg)), (5, .long (upF (yeF dq5 24) (gcnt dq5 24) (nuF dq5 24) lz.toNatClampNeg)), (7, .int (b01 (decide (loF (gcnt dq5 24) (nuF dq5 24) = 0)))), (8, .long (lN seq2)), (10, .int (nI req)), (11, .int (nI kq)), (12, .int (nI (jq + 1)))]) (congrArg (fun zz => ([(0, .ref (gad G 11)), (1, .int (nI rz.toNatClampNeg)), (2, .int (nI lz.toNatClampNeg)), (3, .int (nI nz.toNatClampNeg)), (4, .int (nI sdz.toNatClampNeg)), (5, .long (upF (yeF dq5 24) (gcnt dq5 24) (nuF dq5 24) lz.toNatClampNeg)), (7, .int (b01 (decide (loF (gcnt dq5 24) (nuF dq5 24) = 0)))), (8, .long (lN seq2)), (10, .int (nI req)), (11, .int (nI kq)), (12, .int zz)] : List (Nat × Value))) (nI_pred _)) ?_
                          refine r_lload o dX10_drawn_118 7 rfl ?_
                          refine r_ldc2_w o mw_914 dX10_drawn_120 ?_
                          refine r_lmul o dX10_drawn_123 ?_
                          refine r_ldc2_w o mw_915 dX10_drawn_124 ?_
                          refine r_lrem o dX10_drawn_127 (by decide) ?_
                          refine r_topl (y := lrm ((lN seq2) * 16807) 2147483647) rfl ?_
                          refine r_topl (y := lN (seq2 * 16807 % 2147483647)) (seed1 hse2) ?_
                          refine r_lstore o (lv' := [(8, .long (lN (seq2 * 16807 % 2147483647))), (0, .ref (gad G 11)), (1, .int (nI rz.toNatClampNeg)), (2, .int (nI lz.toNatClampNeg)), (3, .int (nI nz.toNatClampNeg)), (4, .int (nI sdz.toNatClampNeg)), (5, .long (upF (yeF dq5 24) (gcnt dq5 24) (nuF dq5 24) lz.toNatClampNeg)), (7, .int (b01 (decide (loF (gcnt dq5 24) (nuF dq5 24) = 0)))), (10, .int (nI req)), (11, .int (nI kq)), (12, .int (nI (jq + 1)))]) dX10_drawn_128 (by decide) rfl ?_
                          refine r_aload_n o dX10_drawn_130 1 rfl ?_
                          refine r_iload o dX10_drawn_131 10 rfl ?_
                          refine r_lload o dX10_drawn_133 0 rfl ?_
                          refine r_iload o dX10_drawn_135 10 rfl ?_
                          refine r_iconst o (v := nI 1) dX10_drawn_137 (by decide) ?_
                          refine r_iadd o dX10_drawn_138 ?_
                          refine r_topi (y := nI (jq + 1 + 1)) (nI_add' _ _) ?_
                          refine r_i2l o dX10_drawn_139 rfl ?_
                          refine r_lrem o dX10_drawn_140 (i2l_ne (by omega) (by omega)) ?_
                          refine r_topl (y := lrm (lN (seq2 * 16807 % 2147483647)) ((nI (jq + 1 + 1)).toInt64)) rfl ?_
                          refine r_l2i o dX10_drawn_141 rfl ?_
                          refine r_topi (y := nI (seq2 * 16807 % 2147483647 % (jq + 1 + 1))) (seed2 (by omega) (by omega)) ?_
                          refine r_callVV o (As := [.int (nI (jq + 1)), .int (nI (seq2 * 16807 % 2147483647 % (jq + 1 + 1)))]) (st := []) (c_X10_exN (xl X) G ρq σ dq5 24 (by omega) gf2 hnr (jq + 1) (by omega) (seq2 * 16807 % 2147483647 % (jq + 1 + 1)) (by have hml := Nat.mod_lt (seq2 * 16807 % 2147483647) (show 0 < jq + 1 + 1 by omega); omega)) om_X10_exchange mw_904 mw_28 mw_902 (by decide) rfl rfl rfl (by decide) rfl rfl (Nat.le_of_ble_eq_true rfl) dX10_drawn_142 (fun σσ142 hp142 => ?_)
                          obtain ⟨hn3, h79⟩ := hp142
                          refine r_iinc o (v := nI (jq + 1) - 1) (lv' := [(12, .int (nI (jq + 1) - 1)), (8, .long (lN (seq2 * 16807 % 2147483647))), (0, .ref (gad G 11)), (1, .int (nI rz.toNatClampNeg)), (2, .int (nI lz.toNatClampNeg)), (3, .int (nI nz.toNatClampNeg)), (4, .int (nI sdz.toNatClampNeg)), (5, .long (upF (yeF dq5 24) (gcnt dq5 24) (nuF dq5 24) lz.toNatClampNeg)), (7, .int (b01 (decide (loF (gcnt dq5 24) (nuF dq5 24) = 0)))), (10, .int (nI req)), (11, .int (nI kq))]) dX10_drawn_145 10 rfl (nI_decm _) (by decide) rfl ?_
                          refine r_goto o (tgt := 113) dX10_drawn_148 (by decide) ?_
                          exact r_to rfl [2, 3, 4, 5, 6, 7, 8, 1, 9, 10, 0] rfl (ih113 (jq + 1) (swp gf2 (jq + 1) (seq2 * 16807 % 2147483647 % (jq + 1 + 1))) (seq2 * 16807 % 2147483647) σσ142 (by omega) (by omega) hn3 (by rw [hdq2]; rfl) (by omega))
                    exact r_to rfl [1, 2, 3, 4, 5, 6, 7, 8, 9, 10, 0] rfl (L113 _ (gcnt dq5 24) gf seq1 τq (Nat.le_refl _) hsel hnt rfl (Nat.lt_succ_self _))
              refine r_lv (lv' := [(11, .int (nI 0)), (10, .int (nI 0)), (8, .long (lN sdz.toNatClampNeg)), (7, .int (b01 (decide (loF (gcnt dq5 24) (nuF dq5 24) = 0)))), (5, .long (upF (yeF dq5 24) (gcnt dq5 24) (nuF dq5 24) lz.toNatClampNeg)), (0, .ref (gad G 11)), (1, .int (nI rz.toNatClampNeg)), (2, .int (nI lz.toNatClampNeg)), (3, .int (nI nz.toNatClampNeg)), (4, .int (nI sdz.toNatClampNeg))]) (congrArg (fun zz => ([(11, .int (nI 0)), (10, .int (nI 0)), (8, .long zz), (7, .int (b01 (decide (loF (gcnt dq5 24) (nuF dq5 24) = 0)))), (5, .long (upF (yeF dq5 24) (gcnt dq5 24) (nuF dq5 24) lz.toNatClampNeg)), (0, .ref (gad G 11)), (1, .int (nI rz.toNatClampNeg)), (2, .int (nI lz.toNatClampNeg)), (3, .int (nI nz.toNatClampNeg)), (4, .int (nI sdz.toNatClampNeg))] : List (Nat × Value))) (nI_l (by omega))) ?_
              exact r_to rfl [5, 6, 7, 8, 9, 4, 3, 2, 1, 0] rfl (L99 _ 0 0 (nuF dq5 24) sdz.toNatClampNeg σσ67 (by omega) (by omega) (by omega) hnm2 (by rw [Nat.zero_add]; rfl) (Nat.lt_succ_self _))
            · skip
              rw [lg_cmp_eq] at hb78
              refine r_iconst o (v := nI 1) dX10_drawn_81 (by decide) ?_
              refine r_goto o (tgt := 86) dX10_drawn_82 (by decide) ?_
              refine r_topi (y := b01 (decide (loF (gcnt dq5 24) (nuF dq5 24) = 0))) (b01_t' (decide_eq_true hb78)) ?_
              refine r_istore o (lv' := [(7, .int (b01 (decide (loF (gcnt dq5 24) (nuF dq5 24) = 0)))), (5, .long (upF (yeF dq5 24) (gcnt dq5 24) (nuF dq5 24) lz.toNatClampNeg)), (0, .ref (gad G 11)), (1, .int (nI rz.toNatClampNeg)), (2, .int (nI lz.toNatClampNeg)), (3, .int (nI nz.toNatClampNeg)), (4, .int (nI sdz.toNatClampNeg))]) dX10_drawn_86 (by decide) rfl ?_
              refine r_iload o dX10_drawn_88 6 rfl ?_
              refine r_i2l o dX10_drawn_90 rfl ?_
              refine r_lstore o (lv' := [(8, .long ((nI sdz.toNatClampNeg).toInt64)), (7, .int (b01 (decide (loF (gcnt dq5 24) (nuF dq5 24) = 0)))), (5, .long (upF (yeF dq5 24) (gcnt dq5 24) (nuF dq5 24) lz.toNatClampNeg)), (0, .ref (gad G 11)), (1, .int (nI rz.toNatClampNeg)), (2, .int (nI lz.toNatClampNeg)), (3, .int (nI nz.toNatClampNeg)), (4, .int (nI sdz.toNatClampNeg))]) dX10_drawn_91 (by decide) rfl ?_
              refine r_iconst o (v := nI 0) dX10_drawn_93 (by decide) ?_
              refine r_istore o (lv' := [(10, .int (nI 0)), (8, .long ((nI sdz.toNatClampNeg).toInt64)), (7, .int (b01 (decide (loF (gcnt dq5 24) (nuF dq5 24) = 0)))), (5, .long (upF (yeF dq5 24) (gcnt dq5 24) (nuF dq5 24) lz.toNatClampNeg)), (0, .ref (gad G 11)), (1, .int (nI rz.toNatClampNeg)), (2, .int (nI lz.toNatClampNeg)), (3, .int (nI nz.toNatClampNeg)), (4, .int (nI sdz.toNatClampNeg))]) dX10_drawn_94 (by decide) rfl ?_
              refine r_iconst o (v := nI 0) dX10_drawn_96 (by decide) ?_
              refine r_istore o (lv' := [(11, .int (nI 0)), (10, .int (nI 0)), (8, .long ((nI sdz.toNatClampNeg).toInt64)), (7, .int (b01 (decide (loF (gcnt dq5 24) (nuF dq5 24) = 0)))), (5, .long (upF (yeF dq5 24) (gcnt dq5 24) (nuF dq5 24) lz.toNatClampNeg)), (0, .ref (gad G 11)), (1, .int (nI rz.toNatClampNeg)), (2, .int (nI lz.toNatClampNeg)), (3, .int (nI nz.toNatClampNeg)), (4, .int (nI sdz.toNatClampNeg))]) dX10_drawn_97 (by decide) rfl ?_
              have L99 : ∀ (n : Nat) (kq : Nat) (req : Nat) (gf : Nat → Int32) (seq1 : Nat) (τq : Sto) (hkq : kq ≤ nz.toNatClampNeg) (hreq : req ≤ kq) (hsel : seq1 < 2147483648) (hnt : NmX σ τq dq5 24 gf) (hdnq : dmR (yeF dq5 24) (gcnt dq5 24) lz.toNatClampNeg (upF (yeF dq5 24) (gcnt dq5 24) (nuF dq5 24) lz.toNatClampNeg) (decide (loF (gcnt dq5 24) (nuF dq5 24) = 0)) nz.toNatClampNeg (nuF dq5 24) sdz.toNatClampNeg = req + dmR (yeF dq5 24) (gcnt dq5 24) lz.toNatClampNeg (upF (yeF dq5 24) (gcnt dq5 24) (nuF dq5 24) lz.toNatClampNeg) (decide (loF (gcnt dq5 24) (nuF dq5 24) = 0)) (nz.toNatClampNeg - kq) gf seq1), nz.toNatClampNeg - kq < n → WS X G 13 τq 99 [(0, .ref (gad G 11)), (1, .int (nI rz.toNatClampNeg)), (2, .int (nI lz.toNatClampNeg)), (3, .int (nI nz.toNatClampNeg)), (4, .int (nI sdz.toNatClampNeg)), (5, .long (upF (yeF dq5 24) (gcnt dq5 24) (nuF dq5 24) lz.toNatClampNeg)), (7, .int (b01 (decide (loF (gcnt dq5 24) (nuF dq5 24) = 0)))), (8, .long (lN seq1)), (10, .int (nI req)), (11, .int (nI kq))] [] := by
                intro n
                induction n with
                | zero => intro kq req gf seq1 τq hkq hreq hsel hnt hdnq hm; exact absurd hm (Nat.not_lt_zero _)
                | succ n ih99 =>
                  intro kq req gf seq1 τq hkq hreq hsel hnt hdnq hm
                  refine r_iload o dX10_drawn_99 9 rfl ?_
                  refine r_iload_n o dX10_drawn_101 3 rfl ?_
                  refine r_icmp_ge o (tgt := 183) dX10_drawn_102 (by decide) (fun hb102 => ?_) (fun hb102 => ?_)
                  · skip
                    rw [nI_leI (by omega) (by omega)] at hb102
                    have hfin : dmR (yeF dq5 24) (gcnt dq5 24) lz.toNatClampNeg (upF (yeF dq5 24) (gcnt dq5 24) (nuF dq5 24) lz.toNatClampNeg) (decide (loF (gcnt dq5 24) (nuF dq5 24) = 0)) nz.toNatClampNeg (nuF dq5 24) sdz.toNatClampNeg = req := by rw [hdnq, show nz.toNatClampNeg - kq = 0 by omega]; rfl
                    refine r_iload o dX10_drawn_183 8 rfl ?_
                    exact r_ireturn o q dX10_drawn_185 (⟨by rw [rf_0 hb4 (by first | (rw [hb13]; rfl) | (rw [hb13, hb25]; rfl) | (rw [hb13, hb25, hb38]; rfl)) hno, if_pos rfl, ← hdq5, hfin], hnt.2.2.2.2⟩)
                  · skip
                    rw [nI_leI (by omega) (by omega)] at hb102
                    refine r_aload_n o dX10_drawn_105 0 rfl ?_
                    refine gf_11_7 o (v := nI (gcnt dq5 24)) hnt.1 mw_705 dX10_drawn_106 ?_
                    refine r_iconst o (v := nI 1) dX10_drawn_109 (by decide) ?_
                    refine r_isub o dX10_drawn_110 ?_
                    refine r_topi (y := nI (gcnt dq5 24) - 1) rfl ?_
                    refine r_istore o (lv' := [(12, .int (nI (gcnt dq5 24) - 1)), (0, .ref (gad G 11)), (1, .int (nI rz.toNatClampNeg)), (2, .int (nI lz.toNatClampNeg)), (3, .int (nI nz.toNatClampNeg)), (4, .int (nI sdz.toNatClampNeg)), (5, .long (upF (yeF dq5 24) (gcnt dq5 24) (nuF dq5 24) lz.toNatClampNeg)), (7, .int (b01 (decide (loF (gcnt dq5 24) (nuF dq5 24) = 0)))), (8, .long (lN seq1)), (10, .int (nI req)), (11, .int (nI kq))]) dX10_drawn_111 (by decide) rfl ?_
                    have L113 : ∀ (n : Nat) (pq9 : Nat) (gf2 : Nat → Int32) (seq2 : Nat) (ρq : Sto) (hpq9 : pq9 ≤ (gcnt dq5 24)) (hse2 : seq2 < 2147483648) (hnr : NmX σ ρq dq5 24 gf2) (hdq2 : drS ((gcnt dq5 24) - 1) gf seq1 = drS (pq9 - 1) gf2 seq2), pq9 < n → WS X G 13 ρq 113 [(0, .ref (gad G 11)), (1, .int (nI rz.toNatClampNeg)), (2, .int (nI lz.toNatClampNeg)), (3, .int (nI nz.toNatClampNeg)), (4, .int (nI sdz.toNatClampNeg)), (5, .long (upF (yeF dq5 24) (gcnt dq5 24) (nuF dq5 24) lz.toNatClampNeg)), (7, .int (b01 (decide (loF (gcnt dq5 24) (nuF dq5 24) = 0)))), (8, .long (lN seq2)), (10, .int (nI req)), (11, .int (nI kq)), (12, .int (nI pq9 - 1))] [] := by
                      intro n
                      induction n with
                      | zero => intro pq9 gf2 seq2 ρq hpq9 hse2 hnr hdq2 hm; exact absurd hm (Nat.not_lt_zero _)
                      | succ n ih113 =>
                        intro pq9 gf2 seq2 ρq hpq9 hse2 hnr hdq2 hm
                        refine r_iload o dX10_drawn_113 10 rfl ?_
                        refine r_if_le o (tgt := 151) dX10_drawn_115 (by decide) (fun hb115 => ?_) (fun hb115 => ?_)
                        · skip
                          rw [nI_le1 (by omega)] at hb115
                          have hd0 : drS ((gcnt dq5 24) - 1) gf seq1 = (gf2, seq2) := by rw [hdq2, show pq9 - 1 = 0 by omega]; rfl
                          refine r_iload o dX10_drawn_151 8 rfl ?_
                          refine r_iload o dX10_drawn_153 6 rfl ?_
                          refine r_if_ne o (tgt := 169) dX10_drawn_155 (by decide) (fun hb155 => ?_) (fun hb155 => ?_)
                          · skip
                            rw [b01_ne0] at hb155
                            refine r_iconst o (v := nI 1) dX10_drawn_169 (by decide) ?_
                            refine r_goto o (tgt := 174) dX10_drawn_170 (by decide) ?_
                            refine r_iadd o dX10_drawn_174 ?_
                            refine r_topi (y := nI (req + 1)) (nI_add' _ _) ?_
                            refine r_istore o (lv' := [(10, .int (nI (req + 1))), (0, .ref (gad G 11)), (1, .int (nI rz.toNatClampNeg)), (2, .int (nI lz.toNatClampNeg)), (3, .int (nI nz.toNatClampNeg)), (4, .int (nI sdz.toNatClampNeg)), (5, .long (upF (yeF dq5 24) (gcnt dq5 24) (nuF dq5 24) lz.toNatClampNeg)), (7, .int (b01 (decide (loF (gcnt dq5 24) (nuF dq5 24) = 0)))), (8, .long (lN seq2)), (11, .int (nI kq)), (12, .int (nI pq9 - 1))]) dX10_drawn_175 (by decide) rfl ?_
                            refine r_iinc o (v := nI (kq + 1)) (lv' := [(11, .int (nI (kq + 1))), (10, .int (nI (req + 1))), (0, .ref (gad G 11)), (1, .int (nI rz.toNatClampNeg)), (2, .int (nI lz.toNatClampNeg)), (3, .int (nI nz.toNatClampNeg)), (4, .int (nI sdz.toNatClampNeg)), (5, .long (upF (yeF dq5 24) (gcnt dq5 24) (nuF dq5 24) lz.toNatClampNeg)), (7, .int (b01 (decide (loF (gcnt dq5 24) (nuF dq5 24) = 0)))), (8, .long (lN seq2)), (12, .int (nI pq9 - 1))]) dX10_drawn_177 9 rfl (nI_inc _) (by decide) rfl ?_
                            refine r_goto o (tgt := 99) dX10_drawn_180 (by decide) ?_
                            exact r_to rfl [2, 3, 4, 5, 6, 7, 8, 9, 1, 0] rfl (ih99 (kq + 1) (req + 1) gf2 seq2 ρq (by omega) (by omega) hse2 hnr (by rw [hdnq, show nz.toNatClampNeg - kq = (nz.toNatClampNeg - (kq + 1)) + 1 by omega, dm_s, hd0]; show req + ((if decide (loF (gcnt dq5 24) (nuF dq5 24) = 0) = true ∨ upF (yeF dq5 24) (gcnt dq5 24) (nuF dq5 24) lz.toNatClampNeg ≤ upF (yeF dq5 24) (gcnt dq5 24) gf2 lz.toNatClampNeg then 1 else 0) + dmR (yeF dq5 24) (gcnt dq5 24) lz.toNatClampNeg (upF (yeF dq5 24) (gcnt dq5 24) (nuF dq5 24) lz.toNatClampNeg) (decide (loF (gcnt dq5 24) (nuF dq5 24) = 0)) (nz.toNatClampNeg - (kq + 1)) gf2 seq2) = _; rw [if_pos (by first | exact Or.inl hb155 | exact Or.inr (l_nlt.mp hb166))]; omega) (by omega))
                          · skip
                            rw [b01_eq0] at hb155
                            refine r_aload_n o dX10_drawn_158 0 rfl ?_
                            refine r_iload_n o dX10_drawn_159 2 rfl ?_
                            refine r_callVL o (As := [.int (nI lz.toNatClampNeg)]) (st := [.int (nI req)]) (c_X10_upN (xl X) G ρq σ dq5 24 (by omega) gf2 hnr lz.toNatClampNeg (by omega)) om_X10_upperOf mw_876 mw_24 mw_874 (by decide) rfl rfl rfl (by decide) rfl rfl (Nat.le_of_ble_eq_true rfl) dX10_drawn_160 (fun rr160 σσ160 hp160 => ?_)
                            obtain ⟨hu160, hnu⟩ := hp160
                            subst hu160
                            refine r_lload o dX10_drawn_163 5 rfl ?_
                            refine r_lcmp o dX10_drawn_165 ?_
                            refine r_if_lt o (tgt := 173) dX10_drawn_166 (by decide) (fun hb166 => ?_) (fun hb166 => ?_)
                            · skip
                              rw [lg_cmp_lt] at hb166
                              refine r_iconst o (v := nI 0) dX10_drawn_173 (by decide) ?_
                              refine r_iadd o dX10_drawn_174 ?_
                              refine r_topi (y := nI (req + 0)) (nI_add' _ _) ?_
                              refine r_istore o (lv' := [(10, .int (nI (req + 0))), (0, .ref (gad G 11)), (1, .int (nI rz.toNatClampNeg)), (2, .int (nI lz.toNatClampNeg)), (3, .int (nI nz.toNatClampNeg)), (4, .int (nI sdz.toNatClampNeg)), (5, .long (upF (yeF dq5 24) (gcnt dq5 24) (nuF dq5 24) lz.toNatClampNeg)), (7, .int (b01 (decide (loF (gcnt dq5 24) (nuF dq5 24) = 0)))), (8, .long (lN seq2)), (11, .int (nI kq)), (12, .int (nI pq9 - 1))]) dX10_drawn_175 (by decide) rfl ?_
                              refine r_iinc o (v := nI (kq + 1)) (lv' := [(11, .int (nI (kq + 1))), (10, .int (nI (req + 0))), (0, .ref (gad G 11)), (1, .int (nI rz.toNatClampNeg)), (2, .int (nI lz.toNatClampNeg)), (3, .int (nI nz.toNatClampNeg)), (4, .int (nI sdz.toNatClampNeg)), (5, .long (upF (yeF dq5 24) (gcnt dq5 24) (nuF dq5 24) lz.toNatClampNeg)), (7, .int (b01 (decide (loF (gcnt dq5 24) (nuF dq5 24) = 0)))), (8, .long (lN seq2)), (12, .int (nI pq9 - 1))]) dX10_drawn_177 9 rfl (nI_inc _) (by decide) rfl ?_
                              refine r_goto o (tgt := 99) dX10_drawn_180 (by decide) ?_
                              exact r_to rfl [2, 3, 4, 5, 6, 7, 8, 9, 1, 0] rfl (ih99 (kq + 1) (req + 0) gf2 seq2 σσ160 (by omega) (by omega) hse2 hnu (by rw [hdnq, show nz.toNatClampNeg - kq = (nz.toNatClampNeg - (kq + 1)) + 1 by omega, dm_s, hd0]; show req + ((if decide (loF (gcnt dq5 24) (nuF dq5 24) = 0) = true ∨ upF (yeF dq5 24) (gcnt dq5 24) (nuF dq5 24) lz.toNatClampNeg ≤ upF (yeF dq5 24) (gcnt dq5 24) gf2 lz.toNatClampNeg then 1 else 0) + dmR (yeF dq5 24) (gcnt dq5 24) lz.toNatClampNeg (upF (yeF dq5 24) (gcnt dq5 24) (nuF dq5 24) lz.toNatClampNeg) (decide (loF (gcnt dq5 24) (nuF dq5 24) = 0)) (nz.toNatClampNeg - (kq + 1)) gf2 seq2) = _; rw [if_neg (fun zq => zq.elim (fun z1 => by rw [hb155] at z1; cases z1) (fun z1 => l_nlt.mpr z1 hb166))]; omega) (by omega))
                            · skip
                              rw [lg_cmp_lt] at hb166
                              refine r_iconst o (v := nI 1) dX10_drawn_169 (by decide) ?_
                              refine r_goto o (tgt := 174) dX10_drawn_170 (by decide) ?_
                              refine r_iadd o dX10_drawn_174 ?_
                              refine r_topi (y := nI (req + 1)) (nI_add' _ _) ?_
                              refine r_istore o (lv' := [(10, .int (nI (req + 1))), (0, .ref (gad G 11)), (1, .int (nI rz.toNatClampNeg)), (2, .int (nI lz.toNatClampNeg)), (3, .int (nI nz.toNatClampNeg)), (4, .int (nI sdz.toNatClampNeg)), (5, .long (upF (yeF dq5 24) (gcnt dq5 24) (nuF dq5 24) lz.toNatClampNeg)), (7, .int (b01 (decide (loF (gcnt dq5 24) (nuF dq5 24) = 0)))), (8, .long (lN seq2)), (11, .int (nI kq)), (12, .int (nI pq9 - 1))]) dX10_drawn_175 (by decide) rfl ?_
                              refine r_iinc o (v := nI (kq + 1)) (lv' := [(11, .int (nI (kq + 1))), (10, .int (nI (req + 1))), (0, .ref (gad G 11)), (1, .int (nI rz.toNatClampNeg)), (2, .int (nI lz.toNatClampNeg)), (3, .int (nI nz.toNatClampNeg)), (4, .int (nI sdz.toNatClampNeg)), (5, .long (upF (yeF dq5 24) (gcnt dq5 24) (nuF dq5 24) lz.toNatClampNeg)), (7, .int (b01 (decide (loF (gcnt dq5 24) (nuF dq5 24) = 0)))), (8, .long (lN seq2)), (12, .int (nI pq9 - 1))]) dX10_drawn_177 9 rfl (nI_inc _) (by decide) rfl ?_
                              refine r_goto o (tgt := 99) dX10_drawn_180 (by decide) ?_
                              exact r_to rfl [2, 3, 4, 5, 6, 7, 8, 9, 1, 0] rfl (ih99 (kq + 1) (req + 1) gf2 seq2 σσ160 (by omega) (by omega) hse2 hnu (by rw [hdnq, show nz.toNatClampNeg - kq = (nz.toNatClampNeg - (kq + 1)) + 1 by omega, dm_s, hd0]; show req + ((if decide (loF (gcnt dq5 24) (nuF dq5 24) = 0) = true ∨ upF (yeF dq5 24) (gcnt dq5 24) (nuF dq5 24) lz.toNatClampNeg ≤ upF (yeF dq5 24) (gcnt dq5 24) gf2 lz.toNatClampNeg then 1 else 0) + dmR (yeF dq5 24) (gcnt dq5 24) lz.toNatClampNeg (upF (yeF dq5 24) (gcnt dq5 24) (nuF dq5 24) lz.toNatClampNeg) (decide (loF (gcnt dq5 24) (nuF dq5 24) = 0)) (nz.toNatClampNeg - (kq + 1)) gf2 seq2) = _; rw [if_pos (by first | exact Or.inl hb155 | exact Or.inr (l_nlt.mp hb166))]; omega) (by omega))
                        · skip
                          rw [nI_le1 (by omega)] at hb115
                          obtain ⟨jq, rfl⟩ : ∃ zq, pq9 = zq + 2 := ⟨pq9 - 2, by omega⟩
                          refine r_lv (lv' := [(0, .ref (gad G 11)), (1, .int (nI rz.toNatClampNeg)), (2, .int (nI lz.toNatClampNeg)), (3, .int (nI nz.toNatClampNeg)), (4, .int (nI sdz.toNatClampNeg)), (5, .long (upF (yeF dq5 24) (gcnt dq5 24) (nuF dq5 24) lz.toNatClampNeg)), (7, .int (b01 (decide (loF (gcnt dq5 24) (nuF dq5 24) = 0)))), (8, .long (lN seq2)), (10, .int (nI req)), (11, .int (nI kq)), (12, .int (nI (jq + 1)))]) (congrArg (fun zz => ([(0, .ref (gad G 11)), (1, .int (nI rz.toNatClampNeg)), (2, .int (nI lz.toNatClampNeg)), (3, .int (nI nz.toNatClampNeg)), (4, .int (nI sdz.toNatClampNeg)), (5, .long (upF (yeF dq5 24) (gcnt dq5 24) (nuF dq5 24) lz.toNatClampNeg)), (7, .int (b01 (decide (loF (gcnt dq5 24) (nuF dq5 24) = 0)))), (8, .long (lN seq2)), (10, .int (nI req)), (11, .int (nI kq)), (12, .int zz)] : List (Nat × Value))) (nI_pred _)) ?_
                          refine r_lload o dX10_drawn_118 7 rfl ?_
                          refine r_ldc2_w o mw_914 dX10_drawn_120 ?_
                          refine r_lmul o dX10_drawn_123 ?_
                          refine r_ldc2_w o mw_915 dX10_drawn_124 ?_
                          refine r_lrem o dX10_drawn_127 (by decide) ?_
                          refine r_topl (y := lrm ((lN seq2) * 16807) 2147483647) rfl ?_
                          refine r_topl (y := lN (seq2 * 16807 % 2147483647)) (seed1 hse2) ?_
                          refine r_lstore o (lv' := [(8, .long (lN (seq2 * 16807 % 2147483647))), (0, .ref (gad G 11)), (1, .int (nI rz.toNatClampNeg)), (2, .int (nI lz.toNatClampNeg)), (3, .int (nI nz.toNatClampNeg)), (4, .int (nI sdz.toNatClampNeg)), (5, .long (upF (yeF dq5 24) (gcnt dq5 24) (nuF dq5 24) lz.toNatClampNeg)), (7, .int (b01 (decide (loF (gcnt dq5 24) (nuF dq5 24) = 0)))), (10, .int (nI req)), (11, .int (nI kq)), (12, .int (nI (jq + 1)))]) dX10_drawn_128 (by decide) rfl ?_
                          refine r_aload_n o dX10_drawn_130 1 rfl ?_
                          refine r_iload o dX10_drawn_131 10 rfl ?_
                          refine r_lload o dX10_drawn_133 0 rfl ?_
                          refine r_iload o dX10_drawn_135 10 rfl ?_
                          refine r_iconst o (v := nI 1) dX10_drawn_137 (by decide) ?_
                          refine r_iadd o dX10_drawn_138 ?_
                          refine r_topi (y := nI (jq + 1 + 1)) (nI_add' _ _) ?_
                          refine r_i2l o dX10_drawn_139 rfl ?_
                          refine r_lrem o dX10_drawn_140 (i2l_ne (by omega) (by omega)) ?_
                          refine r_topl (y := lrm (lN (seq2 * 16807 % 2147483647)) ((nI (jq + 1 + 1)).toInt64)) rfl ?_
                          refine r_l2i o dX10_drawn_141 rfl ?_
                          refine r_topi (y := nI (seq2 * 16807 % 2147483647 % (jq + 1 + 1))) (seed2 (by omega) (by omega)) ?_
                          refine r_callVV o (As := [.int (nI (jq + 1)), .int (nI (seq2 * 16807 % 2147483647 % (jq + 1 + 1)))]) (st := []) (c_X10_exN (xl X) G ρq σ dq5 24 (by omega) gf2 hnr (jq + 1) (by omega) (seq2 * 16807 % 2147483647 % (jq + 1 + 1)) (by have hml := Nat.mod_lt (seq2 * 16807 % 2147483647) (show 0 < jq + 1 + 1 by omega); omega)) om_X10_exchange mw_904 mw_28 mw_902 (by decide) rfl rfl rfl (by decide) rfl rfl (Nat.le_of_ble_eq_true rfl) dX10_drawn_142 (fun σσ142 hp142 => ?_)
                          obtain ⟨hn3, h79⟩ := hp142
                          refine r_iinc o (v := nI (jq + 1) - 1) (lv' := [(12, .int (nI (jq + 1) - 1)), (8, .long (lN (seq2 * 16807 % 2147483647))), (0, .ref (gad G 11)), (1, .int (nI rz.toNatClampNeg)), (2, .int (nI lz.toNatClampNeg)), (3, .int (nI nz.toNatClampNeg)), (4, .int (nI sdz.toNatClampNeg)), (5, .long (upF (yeF dq5 24) (gcnt dq5 24) (nuF dq5 24) lz.toNatClampNeg)), (7, .int (b01 (decide (loF (gcnt dq5 24) (nuF dq5 24) = 0)))), (10, .int (nI req)), (11, .int (nI kq))]) dX10_drawn_145 10 rfl (nI_decm _) (by decide) rfl ?_
                          refine r_goto o (tgt := 113) dX10_drawn_148 (by decide) ?_
                          exact r_to rfl [2, 3, 4, 5, 6, 7, 8, 1, 9, 10, 0] rfl (ih113 (jq + 1) (swp gf2 (jq + 1) (seq2 * 16807 % 2147483647 % (jq + 1 + 1))) (seq2 * 16807 % 2147483647) σσ142 (by omega) (by omega) hn3 (by rw [hdq2]; rfl) (by omega))
                    exact r_to rfl [1, 2, 3, 4, 5, 6, 7, 8, 9, 10, 0] rfl (L113 _ (gcnt dq5 24) gf seq1 τq (Nat.le_refl _) hsel hnt rfl (Nat.lt_succ_self _))
              refine r_lv (lv' := [(11, .int (nI 0)), (10, .int (nI 0)), (8, .long (lN sdz.toNatClampNeg)), (7, .int (b01 (decide (loF (gcnt dq5 24) (nuF dq5 24) = 0)))), (5, .long (upF (yeF dq5 24) (gcnt dq5 24) (nuF dq5 24) lz.toNatClampNeg)), (0, .ref (gad G 11)), (1, .int (nI rz.toNatClampNeg)), (2, .int (nI lz.toNatClampNeg)), (3, .int (nI nz.toNatClampNeg)), (4, .int (nI sdz.toNatClampNeg))]) (congrArg (fun zz => ([(11, .int (nI 0)), (10, .int (nI 0)), (8, .long zz), (7, .int (b01 (decide (loF (gcnt dq5 24) (nuF dq5 24) = 0)))), (5, .long (upF (yeF dq5 24) (gcnt dq5 24) (nuF dq5 24) lz.toNatClampNeg)), (0, .ref (gad G 11)), (1, .int (nI rz.toNatClampNeg)), (2, .int (nI lz.toNatClampNeg)), (3, .int (nI nz.toNatClampNeg)), (4, .int (nI sdz.toNatClampNeg))] : List (Nat × Value))) (nI_l (by omega))) ?_
              exact r_to rfl [5, 6, 7, 8, 9, 4, 3, 2, 1, 0] rfl (L99 _ 0 0 (nuF dq5 24) sdz.toNatClampNeg σσ67 (by omega) (by omega) (by omega) hnm2 (by rw [Nat.zero_add]; rfl) (Nat.lt_succ_self _))
          · skip
            have hfs := flt_s hb48
            refine r_bipush o (v := (-5)) dX10_drawn_51 (by decide) ?_
            exact r_ireturn o q dX10_drawn_53 (⟨by rw [rf_5 hb4 (by first | (rw [hb13]; rfl) | (rw [hb13, hb25]; rfl) | (rw [hb13, hb25, hb38]; rfl)) hfs, if_neg (by decide)], keepM_rfl⟩)
        · skip
          rw [b01_eq0] at hb38
          refine r_bipush o (v := (-2)) dX10_drawn_41 (by decide) ?_
          exact r_ireturn o q dX10_drawn_43 (⟨by rw [rf_2 hb4 (by first | (rw [hb13]; rfl) | (rw [hb13, hb25]; rfl) | (rw [hb13, hb25, hb38]; rfl)), if_neg (by decide)], keepM_rfl⟩)
  · skip
    rw [b01_eq0] at hb4
    refine r_iconst o (v := (-1)) dX10_drawn_7 (by decide) ?_
    exact r_ireturn o q dX10_drawn_8 (⟨by rw [rf_1 hb4, if_neg (by decide)], keepM_rfl⟩)
set_option maxHeartbeats 4000000 in
set_option maxRecDepth 100000 in
theorem c_X10_least (l : Launch) (G : Gl) (σ : Sto) (rdq : Nat → Nat) (barq : Nat) (hrd : RdM σ rdq barq) (cntq : Nat) (prq : Nat) (trq : Nat) (hdr : DrM σ cntq prq trq) (pf2 : Nat → Int32) (hpf : (σ 83).1 = pf2) (mz : Int32) (wz : Int32) : CtI l G yX10_least cX10_least 9 (some .int) 2 45 [.ref (gad G 11), .int mz, .int wz] σ (fun r σ' => r = (if (inB (nI 0) (nI 255) mz && inB (nI 0) (nI 1) wz) = false then -2 else lstR (fwS rdq prq (kpt pf2 (nI barq) cntq) mz.toNatClampNeg (fup prq cntq).1 (2 ^ popc (fup prq cntq).1)).1 wz) ∧ σ' = σ) := by
  refine CtI.of (by decide +kernel) (Nat.le_of_ble_eq_true rfl) (fun X o q => ?_)
  show WS X G 9 σ 0 [(0, .ref (gad G 11)), (1, .int mz), (2, .int wz)] []
  obtain ⟨hbr, hbrl, hrdv, hrdl⟩ := id hrd
  obtain ⟨hcq, hcnt, hpr, hprl, htr, htrl⟩ := id hdr
  have hpr20 : prq < 1048576 := pow_up hprl hcnt
  obtain ⟨hq9, hhq9⟩ : ∃ zq, zq = kpt pf2 (nI barq) cntq := ⟨_, rfl⟩
  obtain ⟨oq, hoq⟩ : ∃ zq, zq = (fup prq cntq).1 := ⟨_, rfl⟩
  have hol : oq < 1048576 := by rw [hoq]; exact pow_up (fup_lt prq cntq) hcnt
  have hpo := popc_le oq
  have hw := nI_wpow hpo
  refine r_iload_n o dX10_least_0 1 rfl ?_
  refine r_i2l o dX10_least_1 rfl ?_
  refine r_lconst o (v := 0) dX10_least_2 rfl ?_
  refine r_ldc2_w o mw_1010 dX10_least_3 ?_
  refine r_callSI o (As := [.long ((mz).toInt64), .long 0, .long 255]) (st := []) (c_X10_in (xl X) G σ ((mz).toInt64) 0 255) om_X10_in mw_783 mw_782 (by decide) rfl rfl (Nat.le_of_ble_eq_true rfl) dX10_least_6 (fun rr6 σσ6 hp6 => ?_)
  obtain ⟨hp6, hp6b⟩ := hp6; replace hp6 := Eq.symm hp6; replace hp6b := Eq.symm hp6b; subst hp6; subst hp6b
  refine r_topi (y := b01 (inB (nI 0) (nI 255) mz)) (by rw [← inL_w]; rfl) ?_
  refine r_if_eq o (tgt := 19) dX10_least_9 (by decide) (fun hb9 => ?_) (fun hb9 => ?_)
  · skip
    rw [b01_eq0] at hb9
    refine r_bipush o (v := (-2)) dX10_least_19 (by decide) ?_
    exact r_ireturn o q dX10_least_21 (⟨by rw [if_pos (by first | (rw [hb9]; rfl) | (rw [hb9, hb16]; rfl))], rfl⟩)
  · skip
    rw [b01_ne0] at hb9
    refine r_iload_n o dX10_least_12 2 rfl ?_
    refine r_callSI o (As := [.int wz]) (st := []) (c_X10_isPart (xl X) G σ wz) om_X10_isPart mw_857 mw_856 (by decide) rfl rfl (Nat.le_of_ble_eq_true rfl) dX10_least_13 (fun rr13 σσ13 hp13 => ?_)
    obtain ⟨hp13, hp13b⟩ := hp13; replace hp13 := Eq.symm hp13; replace hp13b := Eq.symm hp13b; subst hp13; subst hp13b
    refine r_if_ne o (tgt := 22) dX10_least_16 (by decide) (fun hb16 => ?_) (fun hb16 => ?_)
    · skip
      rw [b01_ne0] at hb16
      obtain ⟨hm1, hm2⟩ := inB_nI (n := 255) (by decide) hb9
      obtain ⟨menq, hmq9⟩ : ∃ zq, zq = mz.toNatClampNeg := ⟨_, rfl⟩
      rw [← hmq9] at hm1 hm2
      refine r_lv (lv' := [(0, .ref (gad G 11)), (1, .int (nI menq)), (2, .int wz)]) (congrArg (fun zz => ([(0, .ref (gad G 11)), (1, .int zz), (2, .int wz)] : List (Nat × Value))) (hm1)) ?_
      refine r_iconst o (v := nI 0) dX10_least_22 (by decide) ?_
      refine r_istore_n o (lv' := [(3, .int (nI 0)), (0, .ref (gad G 11)), (1, .int (nI menq)), (2, .int wz)]) dX10_least_23 (by decide) rfl ?_
      refine r_iconst o (v := nI 0) dX10_least_24 (by decide) ?_
      refine r_istore o (lv' := [(4, .int (nI 0)), (3, .int (nI 0)), (0, .ref (gad G 11)), (1, .int (nI menq)), (2, .int wz)]) dX10_least_25 (by decide) rfl ?_
      refine r_iconst o (v := nI 0) dX10_least_27 (by decide) ?_
      refine r_istore o (lv' := [(5, .int (nI 0)), (4, .int (nI 0)), (3, .int (nI 0)), (0, .ref (gad G 11)), (1, .int (nI menq)), (2, .int wz)]) dX10_least_28 (by decide) rfl ?_
      have L30 : ∀ (n : Nat) (kq : Nat) (hkq : kq ≤ cntq), cntq - kq < n → WS X G 9 σ 30 [(0, .ref (gad G 11)), (1, .int (nI menq)), (2, .int wz), (3, .int (nI ((fup prq kq).1))), (4, .int (nI ((fup prq kq).2))), (5, .int (nI kq))] [] := by
        intro n
        induction n with
        | zero => intro kq hkq hm; exact absurd hm (Nat.not_lt_zero _)
        | succ n ih30 =>
          intro kq hkq hm
          have hfl := fup_le prq kq
          have hand : prq / 2 ^ kq &&& 1 ≤ 1 := Nat.and_le_right
          refine r_iload o dX10_least_30 5 rfl ?_
          refine r_aload_n o dX10_least_32 0 rfl ?_
          refine gf_11_21 o (v := nI cntq) hcq mw_719 dX10_least_33 ?_
          refine r_icmp_ge o (tgt := 102) dX10_least_36 (by decide) (fun hb36 => ?_) (fun hb36 => ?_)
          · skip
            rw [nI_leI (by omega) (by omega)] at hb36
            obtain rfl : cntq = kq := by omega
            refine r_lv (lv' := [(0, .ref (gad G 11)), (1, .int (nI menq)), (2, .int wz), (3, .int (nI oq)), (4, .int (nI ((fup prq cntq).2))), (5, .int (nI cntq))]) (congrArg (fun zz => ([(0, .ref (gad G 11)), (1, .int (nI menq)), (2, .int wz), (3, .int zz), (4, .int (nI ((fup prq cntq).2))), (5, .int (nI cntq))] : List (Nat × Value))) (congrArg nI hoq.symm)) ?_
            refine r_bipush o (v := (-6)) dX10_least_102 (by decide) ?_
            refine r_istore o (lv' := [(5, .int (-6)), (0, .ref (gad G 11)), (1, .int (nI menq)), (2, .int wz), (3, .int (nI oq)), (4, .int (nI ((fup prq cntq).2)))]) dX10_least_104 (by decide) rfl ?_
            refine r_iconst o (v := nI 0) dX10_least_106 (by decide) ?_
            refine r_istore o (lv' := [(6, .int (nI 0)), (5, .int (-6)), (0, .ref (gad G 11)), (1, .int (nI menq)), (2, .int wz), (3, .int (nI oq)), (4, .int (nI ((fup prq cntq).2)))]) dX10_least_107 (by decide) rfl ?_
            refine r_iconst o (v := nI 1) dX10_least_109 (by decide) ?_
            refine r_istore o (lv' := [(7, .int (nI 1)), (6, .int (nI 0)), (5, .int (-6)), (0, .ref (gad G 11)), (1, .int (nI menq)), (2, .int wz), (3, .int (nI oq)), (4, .int (nI ((fup prq cntq).2)))]) dX10_least_110 (by decide) rfl ?_
            have L112 : ∀ (n : Nat) (kq : Nat) (moq : Bool) (hkq : kq ≤ 2 ^ popc oq) (hmo : moq = decide (kq < 2 ^ popc oq)), 2 ^ popc oq - kq < n → WS X G 9 σ 112 [(0, .ref (gad G 11)), (1, .int (nI menq)), (2, .int wz), (3, .int (nI oq)), (5, .int (opI (fwS rdq prq hq9 menq oq kq).1)), (6, .int (nI ((fwS rdq prq hq9 menq oq kq).2))), (7, .int (b01 moq))] [] := by
              intro n
              induction n with
              | zero => intro kq moq hkq hmo hm; exact absurd hm (Nat.not_lt_zero _)
              | succ n ih112 =>
                intro kq moq hkq hmo hm
                have hsl := fwS_s (rdq := rdq) (prq := prq) (hiq := hq9) (menq := menq) hol kq
                have hps := popc_le (fwS rdq prq hq9 menq oq kq).2
                refine r_iload o dX10_least_112 6 rfl ?_
                refine r_if_eq o (tgt := 190) dX10_least_114 (by decide) (fun hb114 => ?_) (fun hb114 => ?_)
                · skip
                  rw [b01_eq0] at hb114
                  have hge : ¬ kq < 2 ^ popc oq := of_decide_eq_false (hmo.symm.trans hb114)
                  obtain rfl : kq = 2 ^ popc oq := by omega
                  rcases hfw : (fwS rdq prq hq9 menq oq (2 ^ popc oq)).1 with _ | xq
                  · skip
                    refine r_lv (lv' := [(0, .ref (gad G 11)), (1, .int (nI menq)), (2, .int wz), (3, .int (nI oq)), (5, .int (-6)), (6, .int (nI ((fwS rdq prq hq9 menq oq (2 ^ popc oq)).2))), (7, .int (b01 moq))]) (congrArg (fun zz => ([(0, .ref (gad G 11)), (1, .int (nI menq)), (2, .int wz), (3, .int (nI oq)), (5, .int zz), (6, .int (nI ((fwS rdq prq hq9 menq oq (2 ^ popc oq)).2))), (7, .int (b01 moq))] : List (Nat × Value))) (show opI none = -6 from rfl)) ?_
                    refine r_iload o dX10_least_190 4 rfl ?_
                    refine r_if_ge o (tgt := 200) dX10_least_192 (by decide) (fun hb192 => ?_) (fun hb192 => ?_)
                    · skip
                      exact absurd hb192 (by decide)
                    · skip
                      refine r_bipush o (v := (-5)) dX10_least_195 (by decide) ?_
                      refine r_goto o (tgt := 214) dX10_least_197 (by decide) ?_
                      exact r_ireturn o q dX10_least_214 (⟨by rw [if_neg (by rw [hb9, hb16]; decide), ← hhq9, ← hoq, ← hmq9, hfw]; exact rfl, rfl⟩)
                  · skip
                    have hxl := fwS_f hol (2 ^ popc oq) xq hfw
                    have hpx := popc_le xq
                    refine r_lv (lv' := [(0, .ref (gad G 11)), (1, .int (nI menq)), (2, .int wz), (3, .int (nI oq)), (5, .int (nI xq)), (6, .int (nI ((fwS rdq prq hq9 menq oq (2 ^ popc oq)).2))), (7, .int (b01 moq))]) (congrArg (fun zz => ([(0, .ref (gad G 11)), (1, .int (nI menq)), (2, .int wz), (3, .int (nI oq)), (5, .int zz), (6, .int (nI ((fwS rdq prq hq9 menq oq (2 ^ popc oq)).2))), (7, .int (b01 moq))] : List (Nat × Value))) (show opI (some xq) = nI xq from rfl)) ?_
                    refine r_iload o dX10_least_190 4 rfl ?_
                    refine r_if_ge o (tgt := 200) dX10_least_192 (by decide) (fun hb192 => ?_) (fun hb192 => ?_)
                    · skip
                      rw [nI_ge0 (by omega)] at hb192
                      refine r_iload_n o dX10_least_200 2 rfl ?_
                      refine r_if_ne o (tgt := 209) dX10_least_201 (by decide) (fun hb201 => ?_) (fun hb201 => ?_)
                      · skip
                        refine r_iload o dX10_least_209 4 rfl ?_
                        refine r_callSI o (As := [.int (nI xq)]) (st := []) (c_X10_ones (xl X) G σ xq (by omega)) om_X10_ones mw_984 mw_983 (by decide) rfl rfl (Nat.le_of_ble_eq_true rfl) dX10_least_211 (fun rr211 σσ211 hp211 => ?_)
                        obtain ⟨hp211, hp211b⟩ := hp211; replace hp211 := Eq.symm hp211; replace hp211b := Eq.symm hp211b; subst hp211; subst hp211b
                        exact r_ireturn o q dX10_least_214 (⟨by rw [if_neg (by rw [hb9, hb16]; decide), ← hhq9, ← hoq, ← hmq9, hfw]; exact (show lstR (some xq) wz = nI (popc xq) from if_neg hb201).symm, rfl⟩)
                      · skip
                        refine r_iload o dX10_least_204 4 rfl ?_
                        refine r_goto o (tgt := 214) dX10_least_206 (by decide) ?_
                        exact r_ireturn o q dX10_least_214 (⟨by rw [if_neg (by rw [hb9, hb16]; decide), ← hhq9, ← hoq, ← hmq9, hfw]; exact (show lstR (some xq) wz = nI xq from if_pos hb201).symm, rfl⟩)
                    · skip
                      rw [nI_ge0 (by omega)] at hb192
                      exact absurd (Nat.zero_le _) hb192
                · skip
                  rw [b01_ne0] at hb114
                  have hkl : kq < 2 ^ popc oq := of_decide_eq_true (hmo.symm.trans hb114)
                  have hzz := fw_z (rdq := rdq) (prq := prq) (hiq := hq9) (menq := menq) hol hkl
                  rcases hfw : (fwS rdq prq hq9 menq oq kq).1 with _ | xq
                  · skip
                    refine r_lv (lv' := [(0, .ref (gad G 11)), (1, .int (nI menq)), (2, .int wz), (3, .int (nI oq)), (5, .int (-6)), (6, .int (nI ((fwS rdq prq hq9 menq oq kq).2))), (7, .int (b01 moq))]) (congrArg (fun zz => ([(0, .ref (gad G 11)), (1, .int (nI menq)), (2, .int wz), (3, .int (nI oq)), (5, .int zz), (6, .int (nI ((fwS rdq prq hq9 menq oq kq).2))), (7, .int (b01 moq))] : List (Nat × Value))) (show opI none = -6 from rfl)) ?_
                    refine r_iload o dX10_least_117 4 rfl ?_
                    refine r_if_lt o (tgt := 135) dX10_least_119 (by decide) (fun hb119 => ?_) (fun hb119 => ?_)
                    · skip
                      refine r_iconst o (v := nI 1) dX10_least_135 (by decide) ?_
                      refine r_goto o (tgt := 140) dX10_least_136 (by decide) ?_
                      refine r_istore o (lv' := [(8, .int (nI 1)), (0, .ref (gad G 11)), (1, .int (nI menq)), (2, .int wz), (3, .int (nI oq)), (5, .int (-6)), (6, .int (nI ((fwS rdq prq hq9 menq oq kq).2))), (7, .int (b01 moq))]) dX10_least_140 (by decide) rfl ?_
                      refine r_iload o dX10_least_142 0 rfl ?_
                      refine r_if_eq o (tgt := 167) dX10_least_144 (by decide) (fun hb144 => ?_) (fun hb144 => ?_)
                      · exact absurd hb144 (by decide)
                      · skip
                        refine r_aload_n o dX10_least_147 1 rfl ?_
                        refine r_aload_n o dX10_least_148 1 rfl ?_
                        refine gf_11_20 o (v := nI prq) hpr mw_718 dX10_least_149 ?_
                        refine r_iload o dX10_least_152 6 rfl ?_
                        refine r_ior o dX10_least_154 ?_
                        refine r_topi (y := nI (prq ||| ((fwS rdq prq hq9 menq oq kq).2))) (nI_or _ _) ?_
                        refine r_callVI o (As := [.int (nI (prq ||| ((fwS rdq prq hq9 menq oq kq).2)))]) (st := []) (c_X10_clubBy (xl X) G σ rdq barq hrd cntq prq trq hdr pf2 hpf (prq ||| (fwS rdq prq hq9 menq oq kq).2) (fup_or hcnt hprl (by rw [← hoq, fw_sb hol]; exact sb_le 32 oq kq))) om_X10_clubBy mw_1004 mw_33 mw_1002 (by decide) rfl rfl rfl (by decide) rfl rfl (Nat.le_of_ble_eq_true rfl) dX10_least_155 (fun rr155 σσ155 hp155 => ?_)
                        obtain ⟨hp155, hp155b⟩ := hp155; replace hp155 := Eq.symm hp155; replace hp155b := Eq.symm hp155b; subst hp155; subst hp155b
                        refine r_topi (y := nI (blv rdq (prq ||| (fwS rdq prq hq9 menq oq kq).2) hq9 8)) (by rw [hhq9]) ?_
                        refine r_iload_n o dX10_least_158 2 rfl ?_
                        refine r_iand o dX10_least_159 ?_
                        refine r_topi (y := nI ((blv rdq (prq ||| (fwS rdq prq hq9 menq oq kq).2) hq9 8) &&& menq)) (nI_and _ _) ?_
                        have hbl : blv rdq (prq ||| (fwS rdq prq hq9 menq oq kq).2) hq9 8 &&& menq < 256 := Nat.lt_of_le_of_lt Nat.and_le_left (blv_lt _ _ _ 8)
                        refine r_if_ne o (tgt := 167) dX10_least_160 (by decide) (fun hb160 => ?_) (fun hb160 => ?_)
                        · skip
                          rw [nI_eq0 (by omega)] at hb160
                          refine r_lv (lv' := [(8, .int (nI 1)), (0, .ref (gad G 11)), (1, .int (nI menq)), (2, .int wz), (3, .int (nI oq)), (5, .int (opI (fwS rdq prq hq9 menq oq (kq + 1)).1)), (6, .int (nI ((fwS rdq prq hq9 menq oq kq).2))), (7, .int (b01 moq))]) (congrArg (fun zz => ([(8, .int (nI 1)), (0, .ref (gad G 11)), (1, .int (nI menq)), (2, .int wz), (3, .int (nI oq)), (5, .int zz), (6, .int (nI ((fwS rdq prq hq9 menq oq kq).2))), (7, .int (b01 moq))] : List (Nat × Value))) (fw_B6 hfw hb160)) ?_
                          refine r_iload o dX10_least_167 6 rfl ?_
                          refine r_iload_n o dX10_least_169 4 rfl ?_
                          refine r_isub o dX10_least_170 ?_
                          refine r_iload_n o dX10_least_171 4 rfl ?_
                          refine r_iand o dX10_least_172 ?_
                          refine r_topi (y := nI (nxs oq (fwS rdq prq hq9 menq oq kq).2)) (nI_nxs hol hsl) ?_
                          refine r_istore o (lv' := [(6, .int (nI (nxs oq (fwS rdq prq hq9 menq oq kq).2))), (8, .int (nI 1)), (0, .ref (gad G 11)), (1, .int (nI menq)), (2, .int wz), (3, .int (nI oq)), (5, .int (opI (fwS rdq prq hq9 menq oq (kq + 1)).1)), (7, .int (b01 moq))]) dX10_least_173 (by decide) rfl ?_
                          refine r_iload o dX10_least_175 0 rfl ?_
                          have hnl : nxs oq (fwS rdq prq hq9 menq oq kq).2 < 2 ^ 20 := Nat.lt_of_le_of_lt (nxs_le oq _) hol
                          refine r_if_eq o (tgt := 184) dX10_least_177 (by decide) (fun hb177 => ?_) (fun hb177 => ?_)
                          · skip
                            rw [nI_eq0 (by omega)] at hb177
                            refine r_iconst o (v := nI 0) dX10_least_184 (by decide) ?_
                            refine r_istore o (lv' := [(7, .int (nI 0)), (6, .int (nI (nxs oq (fwS rdq prq hq9 menq oq kq).2))), (8, .int (nI 1)), (0, .ref (gad G 11)), (1, .int (nI menq)), (2, .int wz), (3, .int (nI oq)), (5, .int (opI (fwS rdq prq hq9 menq oq (kq + 1)).1))]) dX10_least_185 (by decide) rfl ?_
                            refine r_lv (lv' := [(7, .int (b01 (decide (kq + 1 < 2 ^ popc oq)))), (6, .int (nI (nxs oq (fwS rdq prq hq9 menq oq kq).2))), (8, .int (nI 1)), (0, .ref (gad G 11)), (1, .int (nI menq)), (2, .int wz), (3, .int (nI oq)), (5, .int (opI (fwS rdq prq hq9 menq oq (kq + 1)).1))]) (congrArg (fun zz => ([(7, .int zz), (6, .int (nI (nxs oq (fwS rdq prq hq9 menq oq kq).2))), (8, .int (nI 1)), (0, .ref (gad G 11)), (1, .int (nI menq)), (2, .int wz), (3, .int (nI oq)), (5, .int (opI (fwS rdq prq hq9 menq oq (kq + 1)).1))] : List (Nat × Value))) (b01_f' (decide_eq_false (hzz.mp hb177)))) ?_
                            refine r_goto o (tgt := 112) dX10_least_187 (by decide) ?_
                            exact r_to rfl [3, 4, 5, 6, 7, 1, 0] rfl (ih112 (kq + 1) (decide (kq + 1 < 2 ^ popc oq)) (by omega) rfl (by omega))
                          · skip
                            rw [nI_eq0 (by omega)] at hb177
                            refine r_iconst o (v := nI 1) dX10_least_180 (by decide) ?_
                            refine r_goto o (tgt := 185) dX10_least_181 (by decide) ?_
                            refine r_istore o (lv' := [(7, .int (nI 1)), (6, .int (nI (nxs oq (fwS rdq prq hq9 menq oq kq).2))), (8, .int (nI 1)), (0, .ref (gad G 11)), (1, .int (nI menq)), (2, .int wz), (3, .int (nI oq)), (5, .int (opI (fwS rdq prq hq9 menq oq (kq + 1)).1))]) dX10_least_185 (by decide) rfl ?_
                            refine r_lv (lv' := [(7, .int (b01 (decide (kq + 1 < 2 ^ popc oq)))), (6, .int (nI (nxs oq (fwS rdq prq hq9 menq oq kq).2))), (8, .int (nI 1)), (0, .ref (gad G 11)), (1, .int (nI menq)), (2, .int wz), (3, .int (nI oq)), (5, .int (opI (fwS rdq prq hq9 menq oq (kq + 1)).1))]) (congrArg (fun zz => ([(7, .int zz), (6, .int (nI (nxs oq (fwS rdq prq hq9 menq oq kq).2))), (8, .int (nI 1)), (0, .ref (gad G 11)), (1, .int (nI menq)), (2, .int wz), (3, .int (nI oq)), (5, .int (opI (fwS rdq prq hq9 menq oq (kq + 1)).1))] : List (Nat × Value))) (b01_t' (decide_eq_true (Classical.byContradiction (fun zq => hb177 (hzz.mpr zq)))))) ?_
                            refine r_goto o (tgt := 112) dX10_least_187 (by decide) ?_
                            exact r_to rfl [3, 4, 5, 6, 7, 1, 0] rfl (ih112 (kq + 1) (decide (kq + 1 < 2 ^ popc oq)) (by omega) rfl (by omega))
                        · skip
                          rw [nI_eq0 (by omega)] at hb160
                          refine r_iload o dX10_least_163 6 rfl ?_
                          refine r_istore o (lv' := [(5, .int (nI ((fwS rdq prq hq9 menq oq kq).2))), (8, .int (nI 1)), (0, .ref (gad G 11)), (1, .int (nI menq)), (2, .int wz), (3, .int (nI oq)), (6, .int (nI ((fwS rdq prq hq9 menq oq kq).2))), (7, .int (b01 moq))]) dX10_least_165 (by decide) rfl ?_
                          refine r_lv (lv' := [(5, .int (opI (fwS rdq prq hq9 menq oq (kq + 1)).1)), (8, .int (nI 1)), (0, .ref (gad G 11)), (1, .int (nI menq)), (2, .int wz), (3, .int (nI oq)), (6, .int (nI ((fwS rdq prq hq9 menq oq kq).2))), (7, .int (b01 moq))]) (congrArg (fun zz => ([(5, .int zz), (8, .int (nI 1)), (0, .ref (gad G 11)), (1, .int (nI menq)), (2, .int wz), (3, .int (nI oq)), (6, .int (nI ((fwS rdq prq hq9 menq oq kq).2))), (7, .int (b01 moq))] : List (Nat × Value))) (fw_C6 hfw hb160)) ?_
                          refine r_iload o dX10_least_167 6 rfl ?_
                          refine r_iload_n o dX10_least_169 5 rfl ?_
                          refine r_isub o dX10_least_170 ?_
                          refine r_iload_n o dX10_least_171 5 rfl ?_
                          refine r_iand o dX10_least_172 ?_
                          refine r_topi (y := nI (nxs oq (fwS rdq prq hq9 menq oq kq).2)) (nI_nxs hol hsl) ?_
                          refine r_istore o (lv' := [(6, .int (nI (nxs oq (fwS rdq prq hq9 menq oq kq).2))), (5, .int (opI (fwS rdq prq hq9 menq oq (kq + 1)).1)), (8, .int (nI 1)), (0, .ref (gad G 11)), (1, .int (nI menq)), (2, .int wz), (3, .int (nI oq)), (7, .int (b01 moq))]) dX10_least_173 (by decide) rfl ?_
                          refine r_iload o dX10_least_175 0 rfl ?_
                          have hnl : nxs oq (fwS rdq prq hq9 menq oq kq).2 < 2 ^ 20 := Nat.lt_of_le_of_lt (nxs_le oq _) hol
                          refine r_if_eq o (tgt := 184) dX10_least_177 (by decide) (fun hb177 => ?_) (fun hb177 => ?_)
                          · skip
                            rw [nI_eq0 (by omega)] at hb177
                            refine r_iconst o (v := nI 0) dX10_least_184 (by decide) ?_
                            refine r_istore o (lv' := [(7, .int (nI 0)), (6, .int (nI (nxs oq (fwS rdq prq hq9 menq oq kq).2))), (5, .int (opI (fwS rdq prq hq9 menq oq (kq + 1)).1)), (8, .int (nI 1)), (0, .ref (gad G 11)), (1, .int (nI menq)), (2, .int wz), (3, .int (nI oq))]) dX10_least_185 (by decide) rfl ?_
                            refine r_lv (lv' := [(7, .int (b01 (decide (kq + 1 < 2 ^ popc oq)))), (6, .int (nI (nxs oq (fwS rdq prq hq9 menq oq kq).2))), (5, .int (opI (fwS rdq prq hq9 menq oq (kq + 1)).1)), (8, .int (nI 1)), (0, .ref (gad G 11)), (1, .int (nI menq)), (2, .int wz), (3, .int (nI oq))]) (congrArg (fun zz => ([(7, .int zz), (6, .int (nI (nxs oq (fwS rdq prq hq9 menq oq kq).2))), (5, .int (opI (fwS rdq prq hq9 menq oq (kq + 1)).1)), (8, .int (nI 1)), (0, .ref (gad G 11)), (1, .int (nI menq)), (2, .int wz), (3, .int (nI oq))] : List (Nat × Value))) (b01_f' (decide_eq_false (hzz.mp hb177)))) ?_
                            refine r_goto o (tgt := 112) dX10_least_187 (by decide) ?_
                            exact r_to rfl [4, 5, 6, 7, 2, 1, 0] rfl (ih112 (kq + 1) (decide (kq + 1 < 2 ^ popc oq)) (by omega) rfl (by omega))
                          · skip
                            rw [nI_eq0 (by omega)] at hb177
                            refine r_iconst o (v := nI 1) dX10_least_180 (by decide) ?_
                            refine r_goto o (tgt := 185) dX10_least_181 (by decide) ?_
                            refine r_istore o (lv' := [(7, .int (nI 1)), (6, .int (nI (nxs oq (fwS rdq prq hq9 menq oq kq).2))), (5, .int (opI (fwS rdq prq hq9 menq oq (kq + 1)).1)), (8, .int (nI 1)), (0, .ref (gad G 11)), (1, .int (nI menq)), (2, .int wz), (3, .int (nI oq))]) dX10_least_185 (by decide) rfl ?_
                            refine r_lv (lv' := [(7, .int (b01 (decide (kq + 1 < 2 ^ popc oq)))), (6, .int (nI (nxs oq (fwS rdq prq hq9 menq oq kq).2))), (5, .int (opI (fwS rdq prq hq9 menq oq (kq + 1)).1)), (8, .int (nI 1)), (0, .ref (gad G 11)), (1, .int (nI menq)), (2, .int wz), (3, .int (nI oq))]) (congrArg (fun zz => ([(7, .int zz), (6, .int (nI (nxs oq (fwS rdq prq hq9 menq oq kq).2))), (5, .int (opI (fwS rdq prq hq9 menq oq (kq + 1)).1)), (8, .int (nI 1)), (0, .ref (gad G 11)), (1, .int (nI menq)), (2, .int wz), (3, .int (nI oq))] : List (Nat × Value))) (b01_t' (decide_eq_true (Classical.byContradiction (fun zq => hb177 (hzz.mpr zq)))))) ?_
                            refine r_goto o (tgt := 112) dX10_least_187 (by decide) ?_
                            exact r_to rfl [4, 5, 6, 7, 2, 1, 0] rfl (ih112 (kq + 1) (decide (kq + 1 < 2 ^ popc oq)) (by omega) rfl (by omega))
                    · skip
                      exact absurd (by decide) hb119
                  · skip
                    have hxl := fwS_f hol kq xq hfw
                    have hpx := popc_le xq
                    refine r_lv (lv' := [(0, .ref (gad G 11)), (1, .int (nI menq)), (2, .int wz), (3, .int (nI oq)), (5, .int (nI xq)), (6, .int (nI ((fwS rdq prq hq9 menq oq kq).2))), (7, .int (b01 moq))]) (congrArg (fun zz => ([(0, .ref (gad G 11)), (1, .int (nI menq)), (2, .int wz), (3, .int (nI oq)), (5, .int zz), (6, .int (nI ((fwS rdq prq hq9 menq oq kq).2))), (7, .int (b01 moq))] : List (Nat × Value))) (show opI (some xq) = nI xq from rfl)) ?_
                    refine r_iload o dX10_least_117 4 rfl ?_
                    refine r_if_lt o (tgt := 135) dX10_least_119 (by decide) (fun hb119 => ?_) (fun hb119 => ?_)
                    · skip
                      rw [nI_lt0 (by omega)] at hb119
                      exact absurd hb119 (Nat.not_lt_zero _)
                    · skip
                      rw [nI_lt0 (by omega)] at hb119
                      refine r_iload o dX10_least_122 5 rfl ?_
                      refine r_callSI o (As := [.int (nI ((fwS rdq prq hq9 menq oq kq).2))]) (st := []) (c_X10_ones (xl X) G σ ((fwS rdq prq hq9 menq oq kq).2) (by omega)) om_X10_ones mw_984 mw_983 (by decide) rfl rfl (Nat.le_of_ble_eq_true rfl) dX10_least_124 (fun rr124 σσ124 hp124 => ?_)
                      obtain ⟨hp124, hp124b⟩ := hp124; replace hp124 := Eq.symm hp124; replace hp124b := Eq.symm hp124b; subst hp124; subst hp124b
                      refine r_iload o dX10_least_127 4 rfl ?_
                      refine r_callSI o (As := [.int (nI xq)]) (st := [.int (nI (popc ((fwS rdq prq hq9 menq oq kq).2)))]) (c_X10_ones (xl X) G σ xq (by omega)) om_X10_ones mw_984 mw_983 (by decide) rfl rfl (Nat.le_of_ble_eq_true rfl) dX10_least_129 (fun rr129 σσ129 hp129 => ?_)
                      obtain ⟨hp129, hp129b⟩ := hp129; replace hp129 := Eq.symm hp129; replace hp129b := Eq.symm hp129b; subst hp129; subst hp129b
                      refine r_icmp_ge o (tgt := 139) dX10_least_132 (by decide) (fun hb132 => ?_) (fun hb132 => ?_)
                      · skip
                        rw [nI_leI (by omega) (by omega)] at hb132
                        refine r_iconst o (v := nI 0) dX10_least_139 (by decide) ?_
                        refine r_istore o (lv' := [(8, .int (nI 0)), (0, .ref (gad G 11)), (1, .int (nI menq)), (2, .int wz), (3, .int (nI oq)), (5, .int (nI xq)), (6, .int (nI ((fwS rdq prq hq9 menq oq kq).2))), (7, .int (b01 moq))]) dX10_least_140 (by decide) rfl ?_
                        refine r_iload o dX10_least_142 0 rfl ?_
                        refine r_if_eq o (tgt := 167) dX10_least_144 (by decide) (fun hb144 => ?_) (fun hb144 => ?_)
                        · skip
                          refine r_lv (lv' := [(8, .int (nI 0)), (0, .ref (gad G 11)), (1, .int (nI menq)), (2, .int wz), (3, .int (nI oq)), (5, .int (opI (fwS rdq prq hq9 menq oq (kq + 1)).1)), (6, .int (nI ((fwS rdq prq hq9 menq oq kq).2))), (7, .int (b01 moq))]) (congrArg (fun zz => ([(8, .int (nI 0)), (0, .ref (gad G 11)), (1, .int (nI menq)), (2, .int wz), (3, .int (nI oq)), (5, .int zz), (6, .int (nI ((fwS rdq prq hq9 menq oq kq).2))), (7, .int (b01 moq))] : List (Nat × Value))) (fw_A hfw hb132)) ?_
                          refine r_iload o dX10_least_167 6 rfl ?_
                          refine r_iload_n o dX10_least_169 4 rfl ?_
                          refine r_isub o dX10_least_170 ?_
                          refine r_iload_n o dX10_least_171 4 rfl ?_
                          refine r_iand o dX10_least_172 ?_
                          refine r_topi (y := nI (nxs oq (fwS rdq prq hq9 menq oq kq).2)) (nI_nxs hol hsl) ?_
                          refine r_istore o (lv' := [(6, .int (nI (nxs oq (fwS rdq prq hq9 menq oq kq).2))), (8, .int (nI 0)), (0, .ref (gad G 11)), (1, .int (nI menq)), (2, .int wz), (3, .int (nI oq)), (5, .int (opI (fwS rdq prq hq9 menq oq (kq + 1)).1)), (7, .int (b01 moq))]) dX10_least_173 (by decide) rfl ?_
                          refine r_iload o dX10_least_175 0 rfl ?_
                          have hnl : nxs oq (fwS rdq prq hq9 menq oq kq).2 < 2 ^ 20 := Nat.lt_of_le_of_lt (nxs_le oq _) hol
                          refine r_if_eq o (tgt := 184) dX10_least_177 (by decide) (fun hb177 => ?_) (fun hb177 => ?_)
                          · skip
                            rw [nI_eq0 (by omega)] at hb177
                            refine r_iconst o (v := nI 0) dX10_least_184 (by decide) ?_
                            refine r_istore o (lv' := [(7, .int (nI 0)), (6, .int (nI (nxs oq (fwS rdq prq hq9 menq oq kq).2))), (8, .int (nI 0)), (0, .ref (gad G 11)), (1, .int (nI menq)), (2, .int wz), (3, .int (nI oq)), (5, .int (opI (fwS rdq prq hq9 menq oq (kq + 1)).1))]) dX10_least_185 (by decide) rfl ?_
                            refine r_lv (lv' := [(7, .int (b01 (decide (kq + 1 < 2 ^ popc oq)))), (6, .int (nI (nxs oq (fwS rdq prq hq9 menq oq kq).2))), (8, .int (nI 0)), (0, .ref (gad G 11)), (1, .int (nI menq)), (2, .int wz), (3, .int (nI oq)), (5, .int (opI (fwS rdq prq hq9 menq oq (kq + 1)).1))]) (congrArg (fun zz => ([(7, .int zz), (6, .int (nI (nxs oq (fwS rdq prq hq9 menq oq kq).2))), (8, .int (nI 0)), (0, .ref (gad G 11)), (1, .int (nI menq)), (2, .int wz), (3, .int (nI oq)), (5, .int (opI (fwS rdq prq hq9 menq oq (kq + 1)).1))] : List (Nat × Value))) (b01_f' (decide_eq_false (hzz.mp hb177)))) ?_
                            refine r_goto o (tgt := 112) dX10_least_187 (by decide) ?_
                            exact r_to rfl [3, 4, 5, 6, 7, 1, 0] rfl (ih112 (kq + 1) (decide (kq + 1 < 2 ^ popc oq)) (by omega) rfl (by omega))
                          · skip
                            rw [nI_eq0 (by omega)] at hb177
                            refine r_iconst o (v := nI 1) dX10_least_180 (by decide) ?_
                            refine r_goto o (tgt := 185) dX10_least_181 (by decide) ?_
                            refine r_istore o (lv' := [(7, .int (nI 1)), (6, .int (nI (nxs oq (fwS rdq prq hq9 menq oq kq).2))), (8, .int (nI 0)), (0, .ref (gad G 11)), (1, .int (nI menq)), (2, .int wz), (3, .int (nI oq)), (5, .int (opI (fwS rdq prq hq9 menq oq (kq + 1)).1))]) dX10_least_185 (by decide) rfl ?_
                            refine r_lv (lv' := [(7, .int (b01 (decide (kq + 1 < 2 ^ popc oq)))), (6, .int (nI (nxs oq (fwS rdq prq hq9 menq oq kq).2))), (8, .int (nI 0)), (0, .ref (gad G 11)), (1, .int (nI menq)), (2, .int wz), (3, .int (nI oq)), (5, .int (opI (fwS rdq prq hq9 menq oq (kq + 1)).1))]) (congrArg (fun zz => ([(7, .int zz), (6, .int (nI (nxs oq (fwS rdq prq hq9 menq oq kq).2))), (8, .int (nI 0)), (0, .ref (gad G 11)), (1, .int (nI menq)), (2, .int wz), (3, .int (nI oq)), (5, .int (opI (fwS rdq prq hq9 menq oq (kq + 1)).1))] : List (Nat × Value))) (b01_t' (decide_eq_true (Classical.byContradiction (fun zq => hb177 (hzz.mpr zq)))))) ?_
                            refine r_goto o (tgt := 112) dX10_least_187 (by decide) ?_
                            exact r_to rfl [3, 4, 5, 6, 7, 1, 0] rfl (ih112 (kq + 1) (decide (kq + 1 < 2 ^ popc oq)) (by omega) rfl (by omega))
                        · exact absurd hb144 (by decide)
                      · skip
                        rw [nI_leI (by omega) (by omega)] at hb132
                        refine r_iconst o (v := nI 1) dX10_least_135 (by decide) ?_
                        refine r_goto o (tgt := 140) dX10_least_136 (by decide) ?_
                        refine r_istore o (lv' := [(8, .int (nI 1)), (0, .ref (gad G 11)), (1, .int (nI menq)), (2, .int wz), (3, .int (nI oq)), (5, .int (nI xq)), (6, .int (nI ((fwS rdq prq hq9 menq oq kq).2))), (7, .int (b01 moq))]) dX10_least_140 (by decide) rfl ?_
                        refine r_iload o dX10_least_142 0 rfl ?_
                        refine r_if_eq o (tgt := 167) dX10_least_144 (by decide) (fun hb144 => ?_) (fun hb144 => ?_)
                        · exact absurd hb144 (by decide)
                        · skip
                          refine r_aload_n o dX10_least_147 1 rfl ?_
                          refine r_aload_n o dX10_least_148 1 rfl ?_
                          refine gf_11_20 o (v := nI prq) hpr mw_718 dX10_least_149 ?_
                          refine r_iload o dX10_least_152 6 rfl ?_
                          refine r_ior o dX10_least_154 ?_
                          refine r_topi (y := nI (prq ||| ((fwS rdq prq hq9 menq oq kq).2))) (nI_or _ _) ?_
                          refine r_callVI o (As := [.int (nI (prq ||| ((fwS rdq prq hq9 menq oq kq).2)))]) (st := []) (c_X10_clubBy (xl X) G σ rdq barq hrd cntq prq trq hdr pf2 hpf (prq ||| (fwS rdq prq hq9 menq oq kq).2) (fup_or hcnt hprl (by rw [← hoq, fw_sb hol]; exact sb_le 32 oq kq))) om_X10_clubBy mw_1004 mw_33 mw_1002 (by decide) rfl rfl rfl (by decide) rfl rfl (Nat.le_of_ble_eq_true rfl) dX10_least_155 (fun rr155 σσ155 hp155 => ?_)
                          obtain ⟨hp155, hp155b⟩ := hp155; replace hp155 := Eq.symm hp155; replace hp155b := Eq.symm hp155b; subst hp155; subst hp155b
                          refine r_topi (y := nI (blv rdq (prq ||| (fwS rdq prq hq9 menq oq kq).2) hq9 8)) (by rw [hhq9]) ?_
                          refine r_iload_n o dX10_least_158 2 rfl ?_
                          refine r_iand o dX10_least_159 ?_
                          refine r_topi (y := nI ((blv rdq (prq ||| (fwS rdq prq hq9 menq oq kq).2) hq9 8) &&& menq)) (nI_and _ _) ?_
                          have hbl : blv rdq (prq ||| (fwS rdq prq hq9 menq oq kq).2) hq9 8 &&& menq < 256 := Nat.lt_of_le_of_lt Nat.and_le_left (blv_lt _ _ _ 8)
                          refine r_if_ne o (tgt := 167) dX10_least_160 (by decide) (fun hb160 => ?_) (fun hb160 => ?_)
                          · skip
                            rw [nI_eq0 (by omega)] at hb160
                            refine r_lv (lv' := [(8, .int (nI 1)), (0, .ref (gad G 11)), (1, .int (nI menq)), (2, .int wz), (3, .int (nI oq)), (5, .int (opI (fwS rdq prq hq9 menq oq (kq + 1)).1)), (6, .int (nI ((fwS rdq prq hq9 menq oq kq).2))), (7, .int (b01 moq))]) (congrArg (fun zz => ([(8, .int (nI 1)), (0, .ref (gad G 11)), (1, .int (nI menq)), (2, .int wz), (3, .int (nI oq)), (5, .int zz), (6, .int (nI ((fwS rdq prq hq9 menq oq kq).2))), (7, .int (b01 moq))] : List (Nat × Value))) (fw_BN hfw hb160)) ?_
                            refine r_iload o dX10_least_167 6 rfl ?_
                            refine r_iload_n o dX10_least_169 4 rfl ?_
                            refine r_isub o dX10_least_170 ?_
                            refine r_iload_n o dX10_least_171 4 rfl ?_
                            refine r_iand o dX10_least_172 ?_
                            refine r_topi (y := nI (nxs oq (fwS rdq prq hq9 menq oq kq).2)) (nI_nxs hol hsl) ?_
                            refine r_istore o (lv' := [(6, .int (nI (nxs oq (fwS rdq prq hq9 menq oq kq).2))), (8, .int (nI 1)), (0, .ref (gad G 11)), (1, .int (nI menq)), (2, .int wz), (3, .int (nI oq)), (5, .int (opI (fwS rdq prq hq9 menq oq (kq + 1)).1)), (7, .int (b01 moq))]) dX10_least_173 (by decide) rfl ?_
                            refine r_iload o dX10_least_175 0 rfl ?_
                            have hnl : nxs oq (fwS rdq prq hq9 menq oq kq).2 < 2 ^ 20 := Nat.lt_of_le_of_lt (nxs_le oq _) hol
                            refine r_if_eq o (tgt := 184) dX10_least_177 (by decide) (fun hb177 => ?_) (fun hb177 => ?_)
                            · skip
                              rw [nI_eq0 (by omega)] at hb177
                              refine r_iconst o (v := nI 0) dX10_least_184 (by decide) ?_
                              refine r_istore o (lv' := [(7, .int (nI 0)), (6, .int (nI (nxs oq (fwS rdq prq hq9 menq oq kq).2))), (8, .int (nI 1)), (0, .ref (gad G 11)), (1, .int (nI menq)), (2, .int wz), (3, .int (nI oq)), (5, .int (opI (fwS rdq prq hq9 menq oq (kq + 1)).1))]) dX10_least_185 (by decide) rfl ?_
                              refine r_lv (lv' := [(7, .int (b01 (decide (kq + 1 < 2 ^ popc oq)))), (6, .int (nI (nxs oq (fwS rdq prq hq9 menq oq kq).2))), (8, .int (nI 1)), (0, .ref (gad G 11)), (1, .int (nI menq)), (2, .int wz), (3, .int (nI oq)), (5, .int (opI (fwS rdq prq hq9 menq oq (kq + 1)).1))]) (congrArg (fun zz => ([(7, .int zz), (6, .int (nI (nxs oq (fwS rdq prq hq9 menq oq kq).2))), (8, .int (nI 1)), (0, .ref (gad G 11)), (1, .int (nI menq)), (2, .int wz), (3, .int (nI oq)), (5, .int (opI (fwS rdq prq hq9 menq oq (kq + 1)).1))] : List (Nat × Value))) (b01_f' (decide_eq_false (hzz.mp hb177)))) ?_
                              refine r_goto o (tgt := 112) dX10_least_187 (by decide) ?_
                              exact r_to rfl [3, 4, 5, 6, 7, 1, 0] rfl (ih112 (kq + 1) (decide (kq + 1 < 2 ^ popc oq)) (by omega) rfl (by omega))
                            · skip
                              rw [nI_eq0 (by omega)] at hb177
                              refine r_iconst o (v := nI 1) dX10_least_180 (by decide) ?_
                              refine r_goto o (tgt := 185) dX10_least_181 (by decide) ?_
                              refine r_istore o (lv' := [(7, .int (nI 1)), (6, .int (nI (nxs oq (fwS rdq prq hq9 menq oq kq).2))), (8, .int (nI 1)), (0, .ref (gad G 11)), (1, .int (nI menq)), (2, .int wz), (3, .int (nI oq)), (5, .int (opI (fwS rdq prq hq9 menq oq (kq + 1)).1))]) dX10_least_185 (by decide) rfl ?_
                              refine r_lv (lv' := [(7, .int (b01 (decide (kq + 1 < 2 ^ popc oq)))), (6, .int (nI (nxs oq (fwS rdq prq hq9 menq oq kq).2))), (8, .int (nI 1)), (0, .ref (gad G 11)), (1, .int (nI menq)), (2, .int wz), (3, .int (nI oq)), (5, .int (opI (fwS rdq prq hq9 menq oq (kq + 1)).1))]) (congrArg (fun zz => ([(7, .int zz), (6, .int (nI (nxs oq (fwS rdq prq hq9 menq oq kq).2))), (8, .int (nI 1)), (0, .ref (gad G 11)), (1, .int (nI menq)), (2, .int wz), (3, .int (nI oq)), (5, .int (opI (fwS rdq prq hq9 menq oq (kq + 1)).1))] : List (Nat × Value))) (b01_t' (decide_eq_true (Classical.byContradiction (fun zq => hb177 (hzz.mpr zq)))))) ?_
                              refine r_goto o (tgt := 112) dX10_least_187 (by decide) ?_
                              exact r_to rfl [3, 4, 5, 6, 7, 1, 0] rfl (ih112 (kq + 1) (decide (kq + 1 < 2 ^ popc oq)) (by omega) rfl (by omega))
                          · skip
                            rw [nI_eq0 (by omega)] at hb160
                            refine r_iload o dX10_least_163 6 rfl ?_
                            refine r_istore o (lv' := [(5, .int (nI ((fwS rdq prq hq9 menq oq kq).2))), (8, .int (nI 1)), (0, .ref (gad G 11)), (1, .int (nI menq)), (2, .int wz), (3, .int (nI oq)), (6, .int (nI ((fwS rdq prq hq9 menq oq kq).2))), (7, .int (b01 moq))]) dX10_least_165 (by decide) rfl ?_
                            refine r_lv (lv' := [(5, .int (opI (fwS rdq prq hq9 menq oq (kq + 1)).1)), (8, .int (nI 1)), (0, .ref (gad G 11)), (1, .int (nI menq)), (2, .int wz), (3, .int (nI oq)), (6, .int (nI ((fwS rdq prq hq9 menq oq kq).2))), (7, .int (b01 moq))]) (congrArg (fun zz => ([(5, .int zz), (8, .int (nI 1)), (0, .ref (gad G 11)), (1, .int (nI menq)), (2, .int wz), (3, .int (nI oq)), (6, .int (nI ((fwS rdq prq hq9 menq oq kq).2))), (7, .int (b01 moq))] : List (Nat × Value))) (fw_CN hfw hb132 hb160)) ?_
                            refine r_iload o dX10_least_167 6 rfl ?_
                            refine r_iload_n o dX10_least_169 5 rfl ?_
                            refine r_isub o dX10_least_170 ?_
                            refine r_iload_n o dX10_least_171 5 rfl ?_
                            refine r_iand o dX10_least_172 ?_
                            refine r_topi (y := nI (nxs oq (fwS rdq prq hq9 menq oq kq).2)) (nI_nxs hol hsl) ?_
                            refine r_istore o (lv' := [(6, .int (nI (nxs oq (fwS rdq prq hq9 menq oq kq).2))), (5, .int (opI (fwS rdq prq hq9 menq oq (kq + 1)).1)), (8, .int (nI 1)), (0, .ref (gad G 11)), (1, .int (nI menq)), (2, .int wz), (3, .int (nI oq)), (7, .int (b01 moq))]) dX10_least_173 (by decide) rfl ?_
                            refine r_iload o dX10_least_175 0 rfl ?_
                            have hnl : nxs oq (fwS rdq prq hq9 menq oq kq).2 < 2 ^ 20 := Nat.lt_of_le_of_lt (nxs_le oq _) hol
                            refine r_if_eq o (tgt := 184) dX10_least_177 (by decide) (fun hb177 => ?_) (fun hb177 => ?_)
                            · skip
                              rw [nI_eq0 (by omega)] at hb177
                              refine r_iconst o (v := nI 0) dX10_least_184 (by decide) ?_
                              refine r_istore o (lv' := [(7, .int (nI 0)), (6, .int (nI (nxs oq (fwS rdq prq hq9 menq oq kq).2))), (5, .int (opI (fwS rdq prq hq9 menq oq (kq + 1)).1)), (8, .int (nI 1)), (0, .ref (gad G 11)), (1, .int (nI menq)), (2, .int wz), (3, .int (nI oq))]) dX10_least_185 (by decide) rfl ?_
                              refine r_lv (lv' := [(7, .int (b01 (decide (kq + 1 < 2 ^ popc oq)))), (6, .int (nI (nxs oq (fwS rdq prq hq9 menq oq kq).2))), (5, .int (opI (fwS rdq prq hq9 menq oq (kq + 1)).1)), (8, .int (nI 1)), (0, .ref (gad G 11)), (1, .int (nI menq)), (2, .int wz), (3, .int (nI oq))]) (congrArg (fun zz => ([(7, .int zz), (6, .int (nI (nxs oq (fwS rdq prq hq9 menq oq kq).2))), (5, .int (opI (fwS rdq prq hq9 menq oq (kq + 1)).1)), (8, .int (nI 1)), (0, .ref (gad G 11)), (1, .int (nI menq)), (2, .int wz), (3, .int (nI oq))] : List (Nat × Value))) (b01_f' (decide_eq_false (hzz.mp hb177)))) ?_
                              refine r_goto o (tgt := 112) dX10_least_187 (by decide) ?_
                              exact r_to rfl [4, 5, 6, 7, 2, 1, 0] rfl (ih112 (kq + 1) (decide (kq + 1 < 2 ^ popc oq)) (by omega) rfl (by omega))
                            · skip
                              rw [nI_eq0 (by omega)] at hb177
                              refine r_iconst o (v := nI 1) dX10_least_180 (by decide) ?_
                              refine r_goto o (tgt := 185) dX10_least_181 (by decide) ?_
                              refine r_istore o (lv' := [(7, .int (nI 1)), (6, .int (nI (nxs oq (fwS rdq prq hq9 menq oq kq).2))), (5, .int (opI (fwS rdq prq hq9 menq oq (kq + 1)).1)), (8, .int (nI 1)), (0, .ref (gad G 11)), (1, .int (nI menq)), (2, .int wz), (3, .int (nI oq))]) dX10_least_185 (by decide) rfl ?_
                              refine r_lv (lv' := [(7, .int (b01 (decide (kq + 1 < 2 ^ popc oq)))), (6, .int (nI (nxs oq (fwS rdq prq hq9 menq oq kq).2))), (5, .int (opI (fwS rdq prq hq9 menq oq (kq + 1)).1)), (8, .int (nI 1)), (0, .ref (gad G 11)), (1, .int (nI menq)), (2, .int wz), (3, .int (nI oq))]) (congrArg (fun zz => ([(7, .int zz), (6, .int (nI (nxs oq (fwS rdq prq hq9 menq oq kq).2))), (5, .int (opI (fwS rdq prq hq9 menq oq (kq + 1)).1)), (8, .int (nI 1)), (0, .ref (gad G 11)), (1, .int (nI menq)), (2, .int wz), (3, .int (nI oq))] : List (Nat × Value))) (b01_t' (decide_eq_true (Classical.byContradiction (fun zq => hb177 (hzz.mpr zq)))))) ?_
                              refine r_goto o (tgt := 112) dX10_least_187 (by decide) ?_
                              exact r_to rfl [4, 5, 6, 7, 2, 1, 0] rfl (ih112 (kq + 1) (decide (kq + 1 < 2 ^ popc oq)) (by omega) rfl (by omega))
            refine r_lv (lv' := [(7, .int (b01 true)), (6, .int (nI 0)), (5, .int (-6)), (0, .ref (gad G 11)), (1, .int (nI menq)), (2, .int wz), (3, .int (nI oq)), (4, .int (nI ((fup prq cntq).2)))]) (congrArg (fun zz => ([(7, .int zz), (6, .int (nI 0)), (5, .int (-6)), (0, .ref (gad G 11)), (1, .int (nI menq)), (2, .int wz), (3, .int (nI oq)), (4, .int (nI ((fup prq cntq).2)))] : List (Nat × Value))) (show nI 1 = b01 true from rfl)) ?_
            exact r_to rfl [3, 4, 5, 6, 2, 1, 0] rfl (L112 _ 0 true (Nat.zero_le _) ((decide_eq_true (Nat.two_pow_pos _)).symm) (Nat.lt_succ_self _))
          · skip
            rw [nI_leI (by omega) (by omega)] at hb36
            refine r_iload o dX10_least_39 4 rfl ?_
            refine r_bipush o (v := nI 12) dX10_least_41 (by decide) ?_
            refine r_icmp_ge o (tgt := 102) dX10_least_43 (by decide) (fun hb43 => ?_) (fun hb43 => ?_)
            · skip
              rw [nI_leI (by omega) (by omega)] at hb43
              refine r_lv (lv' := [(0, .ref (gad G 11)), (1, .int (nI menq)), (2, .int wz), (3, .int (nI oq)), (4, .int (nI ((fup prq kq).2))), (5, .int (nI kq))]) (congrArg (fun zz => ([(0, .ref (gad G 11)), (1, .int (nI menq)), (2, .int wz), (3, .int zz), (4, .int (nI ((fup prq kq).2))), (5, .int (nI kq))] : List (Nat × Value))) (show nI (fup prq kq).1 = nI oq by rw [fup_stop hb43 hkq, hoq])) ?_
              refine r_bipush o (v := (-6)) dX10_least_102 (by decide) ?_
              refine r_istore o (lv' := [(5, .int (-6)), (0, .ref (gad G 11)), (1, .int (nI menq)), (2, .int wz), (3, .int (nI oq)), (4, .int (nI ((fup prq kq).2)))]) dX10_least_104 (by decide) rfl ?_
              refine r_iconst o (v := nI 0) dX10_least_106 (by decide) ?_
              refine r_istore o (lv' := [(6, .int (nI 0)), (5, .int (-6)), (0, .ref (gad G 11)), (1, .int (nI menq)), (2, .int wz), (3, .int (nI oq)), (4, .int (nI ((fup prq kq).2)))]) dX10_least_107 (by decide) rfl ?_
              refine r_iconst o (v := nI 1) dX10_least_109 (by decide) ?_
              refine r_istore o (lv' := [(7, .int (nI 1)), (6, .int (nI 0)), (5, .int (-6)), (0, .ref (gad G 11)), (1, .int (nI menq)), (2, .int wz), (3, .int (nI oq)), (4, .int (nI ((fup prq kq).2)))]) dX10_least_110 (by decide) rfl ?_
              have L112 : ∀ (n : Nat) (kq : Nat) (moq : Bool) (hkq : kq ≤ 2 ^ popc oq) (hmo : moq = decide (kq < 2 ^ popc oq)), 2 ^ popc oq - kq < n → WS X G 9 σ 112 [(0, .ref (gad G 11)), (1, .int (nI menq)), (2, .int wz), (3, .int (nI oq)), (5, .int (opI (fwS rdq prq hq9 menq oq kq).1)), (6, .int (nI ((fwS rdq prq hq9 menq oq kq).2))), (7, .int (b01 moq))] [] := by
                intro n
                induction n with
                | zero => intro kq moq hkq hmo hm; exact absurd hm (Nat.not_lt_zero _)
                | succ n ih112 =>
                  intro kq moq hkq hmo hm
                  have hsl := fwS_s (rdq := rdq) (prq := prq) (hiq := hq9) (menq := menq) hol kq
                  have hps := popc_le (fwS rdq prq hq9 menq oq kq).2
                  refine r_iload o dX10_least_112 6 rfl ?_
                  refine r_if_eq o (tgt := 190) dX10_least_114 (by decide) (fun hb114 => ?_) (fun hb114 => ?_)
                  · skip
                    rw [b01_eq0] at hb114
                    have hge : ¬ kq < 2 ^ popc oq := of_decide_eq_false (hmo.symm.trans hb114)
                    obtain rfl : kq = 2 ^ popc oq := by omega
                    rcases hfw : (fwS rdq prq hq9 menq oq (2 ^ popc oq)).1 with _ | xq
                    · skip
                      refine r_lv (lv' := [(0, .ref (gad G 11)), (1, .int (nI menq)), (2, .int wz), (3, .int (nI oq)), (5, .int (-6)), (6, .int (nI ((fwS rdq prq hq9 menq oq (2 ^ popc oq)).2))), (7, .int (b01 moq))]) (congrArg (fun zz => ([(0, .ref (gad G 11)), (1, .int (nI menq)), (2, .int wz), (3, .int (nI oq)), (5, .int zz), (6, .int (nI ((fwS rdq prq hq9 menq oq (2 ^ popc oq)).2))), (7, .int (b01 moq))] : List (Nat × Value))) (show opI none = -6 from rfl)) ?_
                      refine r_iload o dX10_least_190 4 rfl ?_
                      refine r_if_ge o (tgt := 200) dX10_least_192 (by decide) (fun hb192 => ?_) (fun hb192 => ?_)
                      · skip
                        exact absurd hb192 (by decide)
                      · skip
                        refine r_bipush o (v := (-5)) dX10_least_195 (by decide) ?_
                        refine r_goto o (tgt := 214) dX10_least_197 (by decide) ?_
                        exact r_ireturn o q dX10_least_214 (⟨by rw [if_neg (by rw [hb9, hb16]; decide), ← hhq9, ← hoq, ← hmq9, hfw]; exact rfl, rfl⟩)
                    · skip
                      have hxl := fwS_f hol (2 ^ popc oq) xq hfw
                      have hpx := popc_le xq
                      refine r_lv (lv' := [(0, .ref (gad G 11)), (1, .int (nI menq)), (2, .int wz), (3, .int (nI oq)), (5, .int (nI xq)), (6, .int (nI ((fwS rdq prq hq9 menq oq (2 ^ popc oq)).2))), (7, .int (b01 moq))]) (congrArg (fun zz => ([(0, .ref (gad G 11)), (1, .int (nI menq)), (2, .int wz), (3, .int (nI oq)), (5, .int zz), (6, .int (nI ((fwS rdq prq hq9 menq oq (2 ^ popc oq)).2))), (7, .int (b01 moq))] : List (Nat × Value))) (show opI (some xq) = nI xq from rfl)) ?_
                      refine r_iload o dX10_least_190 4 rfl ?_
                      refine r_if_ge o (tgt := 200) dX10_least_192 (by decide) (fun hb192 => ?_) (fun hb192 => ?_)
                      · skip
                        rw [nI_ge0 (by omega)] at hb192
                        refine r_iload_n o dX10_least_200 2 rfl ?_
                        refine r_if_ne o (tgt := 209) dX10_least_201 (by decide) (fun hb201 => ?_) (fun hb201 => ?_)
                        · skip
                          refine r_iload o dX10_least_209 4 rfl ?_
                          refine r_callSI o (As := [.int (nI xq)]) (st := []) (c_X10_ones (xl X) G σ xq (by omega)) om_X10_ones mw_984 mw_983 (by decide) rfl rfl (Nat.le_of_ble_eq_true rfl) dX10_least_211 (fun rr211 σσ211 hp211 => ?_)
                          obtain ⟨hp211, hp211b⟩ := hp211; replace hp211 := Eq.symm hp211; replace hp211b := Eq.symm hp211b; subst hp211; subst hp211b
                          exact r_ireturn o q dX10_least_214 (⟨by rw [if_neg (by rw [hb9, hb16]; decide), ← hhq9, ← hoq, ← hmq9, hfw]; exact (show lstR (some xq) wz = nI (popc xq) from if_neg hb201).symm, rfl⟩)
                        · skip
                          refine r_iload o dX10_least_204 4 rfl ?_
                          refine r_goto o (tgt := 214) dX10_least_206 (by decide) ?_
                          exact r_ireturn o q dX10_least_214 (⟨by rw [if_neg (by rw [hb9, hb16]; decide), ← hhq9, ← hoq, ← hmq9, hfw]; exact (show lstR (some xq) wz = nI xq from if_pos hb201).symm, rfl⟩)
                      · skip
                        rw [nI_ge0 (by omega)] at hb192
                        exact absurd (Nat.zero_le _) hb192
                  · skip
                    rw [b01_ne0] at hb114
                    have hkl : kq < 2 ^ popc oq := of_decide_eq_true (hmo.symm.trans hb114)
                    have hzz := fw_z (rdq := rdq) (prq := prq) (hiq := hq9) (menq := menq) hol hkl
                    rcases hfw : (fwS rdq prq hq9 menq oq kq).1 with _ | xq
                    · skip
                      refine r_lv (lv' := [(0, .ref (gad G 11)), (1, .int (nI menq)), (2, .int wz), (3, .int (nI oq)), (5, .int (-6)), (6, .int (nI ((fwS rdq prq hq9 menq oq kq).2))), (7, .int (b01 moq))]) (congrArg (fun zz => ([(0, .ref (gad G 11)), (1, .int (nI menq)), (2, .int wz), (3, .int (nI oq)), (5, .int zz), (6, .int (nI ((fwS rdq prq hq9 menq oq kq).2))), (7, .int (b01 moq))] : List (Nat × Value))) (show opI none = -6 from rfl)) ?_
                      refine r_iload o dX10_least_117 4 rfl ?_
                      refine r_if_lt o (tgt := 135) dX10_least_119 (by decide) (fun hb119 => ?_) (fun hb119 => ?_)
                      · skip
                        refine r_iconst o (v := nI 1) dX10_least_135 (by decide) ?_
                        refine r_goto o (tgt := 140) dX10_least_136 (by decide) ?_
                        refine r_istore o (lv' := [(8, .int (nI 1)), (0, .ref (gad G 11)), (1, .int (nI menq)), (2, .int wz), (3, .int (nI oq)), (5, .int (-6)), (6, .int (nI ((fwS rdq prq hq9 menq oq kq).2))), (7, .int (b01 moq))]) dX10_least_140 (by decide) rfl ?_
                        refine r_iload o dX10_least_142 0 rfl ?_
                        refine r_if_eq o (tgt := 167) dX10_least_144 (by decide) (fun hb144 => ?_) (fun hb144 => ?_)
                        · exact absurd hb144 (by decide)
                        · skip
                          refine r_aload_n o dX10_least_147 1 rfl ?_
                          refine r_aload_n o dX10_least_148 1 rfl ?_
                          refine gf_11_20 o (v := nI prq) hpr mw_718 dX10_least_149 ?_
                          refine r_iload o dX10_least_152 6 rfl ?_
                          refine r_ior o dX10_least_154 ?_
                          refine r_topi (y := nI (prq ||| ((fwS rdq prq hq9 menq oq kq).2))) (nI_or _ _) ?_
                          refine r_callVI o (As := [.int (nI (prq ||| ((fwS rdq prq hq9 menq oq kq).2)))]) (st := []) (c_X10_clubBy (xl X) G σ rdq barq hrd cntq prq trq hdr pf2 hpf (prq ||| (fwS rdq prq hq9 menq oq kq).2) (fup_or hcnt hprl (by rw [← hoq, fw_sb hol]; exact sb_le 32 oq kq))) om_X10_clubBy mw_1004 mw_33 mw_1002 (by decide) rfl rfl rfl (by decide) rfl rfl (Nat.le_of_ble_eq_true rfl) dX10_least_155 (fun rr155 σσ155 hp155 => ?_)
                          obtain ⟨hp155, hp155b⟩ := hp155; replace hp155 := Eq.symm hp155; replace hp155b := Eq.symm hp155b; subst hp155; subst hp155b
                          refine r_topi (y := nI (blv rdq (prq ||| (fwS rdq prq hq9 menq oq kq).2) hq9 8)) (by rw [hhq9]) ?_
                          refine r_iload_n o dX10_least_158 2 rfl ?_
                          refine r_iand o dX10_least_159 ?_
                          refine r_topi (y := nI ((blv rdq (prq ||| (fwS rdq prq hq9 menq oq kq).2) hq9 8) &&& menq)) (nI_and _ _) ?_
                          have hbl : blv rdq (prq ||| (fwS rdq prq hq9 menq oq kq).2) hq9 8 &&& menq < 256 := Nat.lt_of_le_of_lt Nat.and_le_left (blv_lt _ _ _ 8)
                          refine r_if_ne o (tgt := 167) dX10_least_160 (by decide) (fun hb160 => ?_) (fun hb160 => ?_)
                          · skip
                            rw [nI_eq0 (by omega)] at hb160
                            refine r_lv (lv' := [(8, .int (nI 1)), (0, .ref (gad G 11)), (1, .int (nI menq)), (2, .int wz), (3, .int (nI oq)), (5, .int (opI (fwS rdq prq hq9 menq oq (kq + 1)).1)), (6, .int (nI ((fwS rdq prq hq9 menq oq kq).2))), (7, .int (b01 moq))]) (congrArg (fun zz => ([(8, .int (nI 1)), (0, .ref (gad G 11)), (1, .int (nI menq)), (2, .int wz), (3, .int (nI oq)), (5, .int zz), (6, .int (nI ((fwS rdq prq hq9 menq oq kq).2))), (7, .int (b01 moq))] : List (Nat × Value))) (fw_B6 hfw hb160)) ?_
                            refine r_iload o dX10_least_167 6 rfl ?_
                            refine r_iload_n o dX10_least_169 4 rfl ?_
                            refine r_isub o dX10_least_170 ?_
                            refine r_iload_n o dX10_least_171 4 rfl ?_
                            refine r_iand o dX10_least_172 ?_
                            refine r_topi (y := nI (nxs oq (fwS rdq prq hq9 menq oq kq).2)) (nI_nxs hol hsl) ?_
                            refine r_istore o (lv' := [(6, .int (nI (nxs oq (fwS rdq prq hq9 menq oq kq).2))), (8, .int (nI 1)), (0, .ref (gad G 11)), (1, .int (nI menq)), (2, .int wz), (3, .int (nI oq)), (5, .int (opI (fwS rdq prq hq9 menq oq (kq + 1)).1)), (7, .int (b01 moq))]) dX10_least_173 (by decide) rfl ?_
                            refine r_iload o dX10_least_175 0 rfl ?_
                            have hnl : nxs oq (fwS rdq prq hq9 menq oq kq).2 < 2 ^ 20 := Nat.lt_of_le_of_lt (nxs_le oq _) hol
                            refine r_if_eq o (tgt := 184) dX10_least_177 (by decide) (fun hb177 => ?_) (fun hb177 => ?_)
                            · skip
                              rw [nI_eq0 (by omega)] at hb177
                              refine r_iconst o (v := nI 0) dX10_least_184 (by decide) ?_
                              refine r_istore o (lv' := [(7, .int (nI 0)), (6, .int (nI (nxs oq (fwS rdq prq hq9 menq oq kq).2))), (8, .int (nI 1)), (0, .ref (gad G 11)), (1, .int (nI menq)), (2, .int wz), (3, .int (nI oq)), (5, .int (opI (fwS rdq prq hq9 menq oq (kq + 1)).1))]) dX10_least_185 (by decide) rfl ?_
                              refine r_lv (lv' := [(7, .int (b01 (decide (kq + 1 < 2 ^ popc oq)))), (6, .int (nI (nxs oq (fwS rdq prq hq9 menq oq kq).2))), (8, .int (nI 1)), (0, .ref (gad G 11)), (1, .int (nI menq)), (2, .int wz), (3, .int (nI oq)), (5, .int (opI (fwS rdq prq hq9 menq oq (kq + 1)).1))]) (congrArg (fun zz => ([(7, .int zz), (6, .int (nI (nxs oq (fwS rdq prq hq9 menq oq kq).2))), (8, .int (nI 1)), (0, .ref (gad G 11)), (1, .int (nI menq)), (2, .int wz), (3, .int (nI oq)), (5, .int (opI (fwS rdq prq hq9 menq oq (kq + 1)).1))] : List (Nat × Value))) (b01_f' (decide_eq_false (hzz.mp hb177)))) ?_
                              refine r_goto o (tgt := 112) dX10_least_187 (by decide) ?_
                              exact r_to rfl [3, 4, 5, 6, 7, 1, 0] rfl (ih112 (kq + 1) (decide (kq + 1 < 2 ^ popc oq)) (by omega) rfl (by omega))
                            · skip
                              rw [nI_eq0 (by omega)] at hb177
                              refine r_iconst o (v := nI 1) dX10_least_180 (by decide) ?_
                              refine r_goto o (tgt := 185) dX10_least_181 (by decide) ?_
                              refine r_istore o (lv' := [(7, .int (nI 1)), (6, .int (nI (nxs oq (fwS rdq prq hq9 menq oq kq).2))), (8, .int (nI 1)), (0, .ref (gad G 11)), (1, .int (nI menq)), (2, .int wz), (3, .int (nI oq)), (5, .int (opI (fwS rdq prq hq9 menq oq (kq + 1)).1))]) dX10_least_185 (by decide) rfl ?_
                              refine r_lv (lv' := [(7, .int (b01 (decide (kq + 1 < 2 ^ popc oq)))), (6, .int (nI (nxs oq (fwS rdq prq hq9 menq oq kq).2))), (8, .int (nI 1)), (0, .ref (gad G 11)), (1, .int (nI menq)), (2, .int wz), (3, .int (nI oq)), (5, .int (opI (fwS rdq prq hq9 menq oq (kq + 1)).1))]) (congrArg (fun zz => ([(7, .int zz), (6, .int (nI (nxs oq (fwS rdq prq hq9 menq oq kq).2))), (8, .int (nI 1)), (0, .ref (gad G 11)), (1, .int (nI menq)), (2, .int wz), (3, .int (nI oq)), (5, .int (opI (fwS rdq prq hq9 menq oq (kq + 1)).1))] : List (Nat × Value))) (b01_t' (decide_eq_true (Classical.byContradiction (fun zq => hb177 (hzz.mpr zq)))))) ?_
                              refine r_goto o (tgt := 112) dX10_least_187 (by decide) ?_
                              exact r_to rfl [3, 4, 5, 6, 7, 1, 0] rfl (ih112 (kq + 1) (decide (kq + 1 < 2 ^ popc oq)) (by omega) rfl (by omega))
                          · skip
                            rw [nI_eq0 (by omega)] at hb160
                            refine r_iload o dX10_least_163 6 rfl ?_
                            refine r_istore o (lv' := [(5, .int (nI ((fwS rdq prq hq9 menq oq kq).2))), (8, .int (nI 1)), (0, .ref (gad G 11)), (1, .int (nI menq)), (2, .int wz), (3, .int (nI oq)), (6, .int (nI ((fwS rdq prq hq9 menq oq kq).2))), (7, .int (b01 moq))]) dX10_least_165 (by decide) rfl ?_
                            refine r_lv (lv' := [(5, .int (opI (fwS rdq prq hq9 menq oq (kq + 1)).1)), (8, .int (nI 1)), (0, .ref (gad G 11)), (1, .int (nI menq)), (2, .int wz), (3, .int (nI oq)), (6, .int (nI ((fwS rdq prq hq9 menq oq kq).2))), (7, .int (b01 moq))]) (congrArg (fun zz => ([(5, .int zz), (8, .int (nI 1)), (0, .ref (gad G 11)), (1, .int (nI menq)), (2, .int wz), (3, .int (nI oq)), (6, .int (nI ((fwS rdq prq hq9 menq oq kq).2))), (7, .int (b01 moq))] : List (Nat × Value))) (fw_C6 hfw hb160)) ?_
                            refine r_iload o dX10_least_167 6 rfl ?_
                            refine r_iload_n o dX10_least_169 5 rfl ?_
                            refine r_isub o dX10_least_170 ?_
                            refine r_iload_n o dX10_least_171 5 rfl ?_
                            refine r_iand o dX10_least_172 ?_
                            refine r_topi (y := nI (nxs oq (fwS rdq prq hq9 menq oq kq).2)) (nI_nxs hol hsl) ?_
                            refine r_istore o (lv' := [(6, .int (nI (nxs oq (fwS rdq prq hq9 menq oq kq).2))), (5, .int (opI (fwS rdq prq hq9 menq oq (kq + 1)).1)), (8, .int (nI 1)), (0, .ref (gad G 11)), (1, .int (nI menq)), (2, .int wz), (3, .int (nI oq)), (7, .int (b01 moq))]) dX10_least_173 (by decide) rfl ?_
                            refine r_iload o dX10_least_175 0 rfl ?_
                            have hnl : nxs oq (fwS rdq prq hq9 menq oq kq).2 < 2 ^ 20 := Nat.lt_of_le_of_lt (nxs_le oq _) hol
                            refine r_if_eq o (tgt := 184) dX10_least_177 (by decide) (fun hb177 => ?_) (fun hb177 => ?_)
                            · skip
                              rw [nI_eq0 (by omega)] at hb177
                              refine r_iconst o (v := nI 0) dX10_least_184 (by decide) ?_
                              refine r_istore o (lv' := [(7, .int (nI 0)), (6, .int (nI (nxs oq (fwS rdq prq hq9 menq oq kq).2))), (5, .int (opI (fwS rdq prq hq9 menq oq (kq + 1)).1)), (8, .int (nI 1)), (0, .ref (gad G 11)), (1, .int (nI menq)), (2, .int wz), (3, .int (nI oq))]) dX10_least_185 (by decide) rfl ?_
                              refine r_lv (lv' := [(7, .int (b01 (decide (kq + 1 < 2 ^ popc oq)))), (6, .int (nI (nxs oq (fwS rdq prq hq9 menq oq kq).2))), (5, .int (opI (fwS rdq prq hq9 menq oq (kq + 1)).1)), (8, .int (nI 1)), (0, .ref (gad G 11)), (1, .int (nI menq)), (2, .int wz), (3, .int (nI oq))]) (congrArg (fun zz => ([(7, .int zz), (6, .int (nI (nxs oq (fwS rdq prq hq9 menq oq kq).2))), (5, .int (opI (fwS rdq prq hq9 menq oq (kq + 1)).1)), (8, .int (nI 1)), (0, .ref (gad G 11)), (1, .int (nI menq)), (2, .int wz), (3, .int (nI oq))] : List (Nat × Value))) (b01_f' (decide_eq_false (hzz.mp hb177)))) ?_
                              refine r_goto o (tgt := 112) dX10_least_187 (by decide) ?_
                              exact r_to rfl [4, 5, 6, 7, 2, 1, 0] rfl (ih112 (kq + 1) (decide (kq + 1 < 2 ^ popc oq)) (by omega) rfl (by omega))
                            · skip
                              rw [nI_eq0 (by omega)] at hb177
                              refine r_iconst o (v := nI 1) dX10_least_180 (by decide) ?_
                              refine r_goto o (tgt := 185) dX10_least_181 (by decide) ?_
                              refine r_istore o (lv' := [(7, .int (nI 1)), (6, .int (nI (nxs oq (fwS rdq prq hq9 menq oq kq).2))), (5, .int (opI (fwS rdq prq hq9 menq oq (kq + 1)).1)), (8, .int (nI 1)), (0, .ref (gad G 11)), (1, .int (nI menq)), (2, .int wz), (3, .int (nI oq))]) dX10_least_185 (by decide) rfl ?_
                              refine r_lv (lv' := [(7, .int (b01 (decide (kq + 1 < 2 ^ popc oq)))), (6, .int (nI (nxs oq (fwS rdq prq hq9 menq oq kq).2))), (5, .int (opI (fwS rdq prq hq9 menq oq (kq + 1)).1)), (8, .int (nI 1)), (0, .ref (gad G 11)), (1, .int (nI menq)), (2, .int wz), (3, .int (nI oq))]) (congrArg (fun zz => ([(7, .int zz), (6, .int (nI (nxs oq (fwS rdq prq hq9 menq oq kq).2))), (5, .int (opI (fwS rdq prq hq9 menq oq (kq + 1)).1)), (8, .int (nI 1)), (0, .ref (gad G 11)), (1, .int (nI menq)), (2, .int wz), (3, .int (nI oq))] : List (Nat × Value))) (b01_t' (decide_eq_true (Classical.byContradiction (fun zq => hb177 (hzz.mpr zq)))))) ?_
                              refine r_goto o (tgt := 112) dX10_least_187 (by decide) ?_
                              exact r_to rfl [4, 5, 6, 7, 2, 1, 0] rfl (ih112 (kq + 1) (decide (kq + 1 < 2 ^ popc oq)) (by omega) rfl (by omega))
                      · skip
                        exact absurd (by decide) hb119
                    · skip
                      have hxl := fwS_f hol kq xq hfw
                      have hpx := popc_le xq
                      refine r_lv (lv' := [(0, .ref (gad G 11)), (1, .int (nI menq)), (2, .int wz), (3, .int (nI oq)), (5, .int (nI xq)), (6, .int (nI ((fwS rdq prq hq9 menq oq kq).2))), (7, .int (b01 moq))]) (congrArg (fun zz => ([(0, .ref (gad G 11)), (1, .int (nI menq)), (2, .int wz), (3, .int (nI oq)), (5, .int zz), (6, .int (nI ((fwS rdq prq hq9 menq oq kq).2))), (7, .int (b01 moq))] : List (Nat × Value))) (show opI (some xq) = nI xq from rfl)) ?_
                      refine r_iload o dX10_least_117 4 rfl ?_
                      refine r_if_lt o (tgt := 135) dX10_least_119 (by decide) (fun hb119 => ?_) (fun hb119 => ?_)
                      · skip
                        rw [nI_lt0 (by omega)] at hb119
                        exact absurd hb119 (Nat.not_lt_zero _)
                      · skip
                        rw [nI_lt0 (by omega)] at hb119
                        refine r_iload o dX10_least_122 5 rfl ?_
                        refine r_callSI o (As := [.int (nI ((fwS rdq prq hq9 menq oq kq).2))]) (st := []) (c_X10_ones (xl X) G σ ((fwS rdq prq hq9 menq oq kq).2) (by omega)) om_X10_ones mw_984 mw_983 (by decide) rfl rfl (Nat.le_of_ble_eq_true rfl) dX10_least_124 (fun rr124 σσ124 hp124 => ?_)
                        obtain ⟨hp124, hp124b⟩ := hp124; replace hp124 := Eq.symm hp124; replace hp124b := Eq.symm hp124b; subst hp124; subst hp124b
                        refine r_iload o dX10_least_127 4 rfl ?_
                        refine r_callSI o (As := [.int (nI xq)]) (st := [.int (nI (popc ((fwS rdq prq hq9 menq oq kq).2)))]) (c_X10_ones (xl X) G σ xq (by omega)) om_X10_ones mw_984 mw_983 (by decide) rfl rfl (Nat.le_of_ble_eq_true rfl) dX10_least_129 (fun rr129 σσ129 hp129 => ?_)
                        obtain ⟨hp129, hp129b⟩ := hp129; replace hp129 := Eq.symm hp129; replace hp129b := Eq.symm hp129b; subst hp129; subst hp129b
                        refine r_icmp_ge o (tgt := 139) dX10_least_132 (by decide) (fun hb132 => ?_) (fun hb132 => ?_)
                        · skip
                          rw [nI_leI (by omega) (by omega)] at hb132
                          refine r_iconst o (v := nI 0) dX10_least_139 (by decide) ?_
                          refine r_istore o (lv' := [(8, .int (nI 0)), (0, .ref (gad G 11)), (1, .int (nI menq)), (2, .int wz), (3, .int (nI oq)), (5, .int (nI xq)), (6, .int (nI ((fwS rdq prq hq9 menq oq kq).2))), (7, .int (b01 moq))]) dX10_least_140 (by decide) rfl ?_
                          refine r_iload o dX10_least_142 0 rfl ?_
                          refine r_if_eq o (tgt := 167) dX10_least_144 (by decide) (fun hb144 => ?_) (fun hb144 => ?_)
                          · skip
                            refine r_lv (lv' := [(8, .int (nI 0)), (0, .ref (gad G 11)), (1, .int (nI menq)), (2, .int wz), (3, .int (nI oq)), (5, .int (opI (fwS rdq prq hq9 menq oq (kq + 1)).1)), (6, .int (nI ((fwS rdq prq hq9 menq oq kq).2))), (7, .int (b01 moq))]) (congrArg (fun zz => ([(8, .int (nI 0)), (0, .ref (gad G 11)), (1, .int (nI menq)), (2, .int wz), (3, .int (nI oq)), (5, .int zz), (6, .int (nI ((fwS rdq prq hq9 menq oq kq).2))), (7, .int (b01 moq))] : List (Nat × Value))) (fw_A hfw hb132)) ?_
                            refine r_iload o dX10_least_167 6 rfl ?_
                            refine r_iload_n o dX10_least_169 4 rfl ?_
                            refine r_isub o dX10_least_170 ?_
                            refine r_iload_n o dX10_least_171 4 rfl ?_
                            refine r_iand o dX10_least_172 ?_
                            refine r_topi (y := nI (nxs oq (fwS rdq prq hq9 menq oq kq).2)) (nI_nxs hol hsl) ?_
                            refine r_istore o (lv' := [(6, .int (nI (nxs oq (fwS rdq prq hq9 menq oq kq).2))), (8, .int (nI 0)), (0, .ref (gad G 11)), (1, .int (nI menq)), (2, .int wz), (3, .int (nI oq)), (5, .int (opI (fwS rdq prq hq9 menq oq (kq + 1)).1)), (7, .int (b01 moq))]) dX10_least_173 (by decide) rfl ?_
                            refine r_iload o dX10_least_175 0 rfl ?_
                            have hnl : nxs oq (fwS rdq prq hq9 menq oq kq).2 < 2 ^ 20 := Nat.lt_of_le_of_lt (nxs_le oq _) hol
                            refine r_if_eq o (tgt := 184) dX10_least_177 (by decide) (fun hb177 => ?_) (fun hb177 => ?_)
                            · skip
                              rw [nI_eq0 (by omega)] at hb177
                              refine r_iconst o (v := nI 0) dX10_least_184 (by decide) ?_
                              refine r_istore o (lv' := [(7, .int (nI 0)), (6, .int (nI (nxs oq (fwS rdq prq hq9 menq oq kq).2))), (8, .int (nI 0)), (0, .ref (gad G 11)), (1, .int (nI menq)), (2, .int wz), (3, .int (nI oq)), (5, .int (opI (fwS rdq prq hq9 menq oq (kq + 1)).1))]) dX10_least_185 (by decide) rfl ?_
                              refine r_lv (lv' := [(7, .int (b01 (decide (kq + 1 < 2 ^ popc oq)))), (6, .int (nI (nxs oq (fwS rdq prq hq9 menq oq kq).2))), (8, .int (nI 0)), (0, .ref (gad G 11)), (1, .int (nI menq)), (2, .int wz), (3, .int (nI oq)), (5, .int (opI (fwS rdq prq hq9 menq oq (kq + 1)).1))]) (congrArg (fun zz => ([(7, .int zz), (6, .int (nI (nxs oq (fwS rdq prq hq9 menq oq kq).2))), (8, .int (nI 0)), (0, .ref (gad G 11)), (1, .int (nI menq)), (2, .int wz), (3, .int (nI oq)), (5, .int (opI (fwS rdq prq hq9 menq oq (kq + 1)).1))] : List (Nat × Value))) (b01_f' (decide_eq_false (hzz.mp hb177)))) ?_
                              refine r_goto o (tgt := 112) dX10_least_187 (by decide) ?_
                              exact r_to rfl [3, 4, 5, 6, 7, 1, 0] rfl (ih112 (kq + 1) (decide (kq + 1 < 2 ^ popc oq)) (by omega) rfl (by omega))
                            · skip
                              rw [nI_eq0 (by omega)] at hb177
                              refine r_iconst o (v := nI 1) dX10_least_180 (by decide) ?_
                              refine r_goto o (tgt := 185) dX10_least_181 (by decide) ?_
                              refine r_istore o (lv' := [(7, .int (nI 1)), (6, .int (nI (nxs oq (fwS rdq prq hq9 menq oq kq).2))), (8, .int (nI 0)), (0, .ref (gad G 11)), (1, .int (nI menq)), (2, .int wz), (3, .int (nI oq)), (5, .int (opI (fwS rdq prq hq9 menq oq (kq + 1)).1))]) dX10_least_185 (by decide) rfl ?_
                              refine r_lv (lv' := [(7, .int (b01 (decide (kq + 1 < 2 ^ popc oq)))), (6, .int (nI (nxs oq (fwS rdq prq hq9 menq oq kq).2))), (8, .int (nI 0)), (0, .ref (gad G 11)), (1, .int (nI menq)), (2, .int wz), (3, .int (nI oq)), (5, .int (opI (fwS rdq prq hq9 menq oq (kq + 1)).1))]) (congrArg (fun zz => ([(7, .int zz), (6, .int (nI (nxs oq (fwS rdq prq hq9 menq oq kq).2))), (8, .int (nI 0)), (0, .ref (gad G 11)), (1, .int (nI menq)), (2, .int wz), (3, .int (nI oq)), (5, .int (opI (fwS rdq prq hq9 menq oq (kq + 1)).1))] : List (Nat × Value))) (b01_t' (decide_eq_true (Classical.byContradiction (fun zq => hb177 (hzz.mpr zq)))))) ?_
                              refine r_goto o (tgt := 112) dX10_least_187 (by decide) ?_
                              exact r_to rfl [3, 4, 5, 6, 7, 1, 0] rfl (ih112 (kq + 1) (decide (kq + 1 < 2 ^ popc oq)) (by omega) rfl (by omega))
                          · exact absurd hb144 (by decide)
                        · skip
                          rw [nI_leI (by omega) (by omega)] at hb132
                          refine r_iconst o (v := nI 1) dX10_least_135 (by decide) ?_
                          refine r_goto o (tgt := 140) dX10_least_136 (by decide) ?_
                          refine r_istore o (lv' := [(8, .int (nI 1)), (0, .ref (gad G 11)), (1, .int (nI menq)), (2, .int wz), (3, .int (nI oq)), (5, .int (nI xq)), (6, .int (nI ((fwS rdq prq hq9 menq oq kq).2))), (7, .int (b01 moq))]) dX10_least_140 (by decide) rfl ?_
                          refine r_iload o dX10_least_142 0 rfl ?_
                          refine r_if_eq o (tgt := 167) dX10_least_144 (by decide) (fun hb144 => ?_) (fun hb144 => ?_)
                          · exact absurd hb144 (by decide)
                          · skip
                            refine r_aload_n o dX10_least_147 1 rfl ?_
                            refine r_aload_n o dX10_least_148 1 rfl ?_
                            refine gf_11_20 o (v := nI prq) hpr mw_718 dX10_least_149 ?_
                            refine r_iload o dX10_least_152 6 rfl ?_
                            refine r_ior o dX10_least_154 ?_
                            refine r_topi (y := nI (prq ||| ((fwS rdq prq hq9 menq oq kq).2))) (nI_or _ _) ?_
                            refine r_callVI o (As := [.int (nI (prq ||| ((fwS rdq prq hq9 menq oq kq).2)))]) (st := []) (c_X10_clubBy (xl X) G σ rdq barq hrd cntq prq trq hdr pf2 hpf (prq ||| (fwS rdq prq hq9 menq oq kq).2) (fup_or hcnt hprl (by rw [← hoq, fw_sb hol]; exact sb_le 32 oq kq))) om_X10_clubBy mw_1004 mw_33 mw_1002 (by decide) rfl rfl rfl (by decide) rfl rfl (Nat.le_of_ble_eq_true rfl) dX10_least_155 (fun rr155 σσ155 hp155 => ?_)
                            obtain ⟨hp155, hp155b⟩ := hp155; replace hp155 := Eq.symm hp155; replace hp155b := Eq.symm hp155b; subst hp155; subst hp155b
                            refine r_topi (y := nI (blv rdq (prq ||| (fwS rdq prq hq9 menq oq kq).2) hq9 8)) (by rw [hhq9]) ?_
                            refine r_iload_n o dX10_least_158 2 rfl ?_
                            refine r_iand o dX10_least_159 ?_
                            refine r_topi (y := nI ((blv rdq (prq ||| (fwS rdq prq hq9 menq oq kq).2) hq9 8) &&& menq)) (nI_and _ _) ?_
                            have hbl : blv rdq (prq ||| (fwS rdq prq hq9 menq oq kq).2) hq9 8 &&& menq < 256 := Nat.lt_of_le_of_lt Nat.and_le_left (blv_lt _ _ _ 8)
                            refine r_if_ne o (tgt := 167) dX10_least_160 (by decide) (fun hb160 => ?_) (fun hb160 => ?_)
                            · skip
                              rw [nI_eq0 (by omega)] at hb160
                              refine r_lv (lv' := [(8, .int (nI 1)), (0, .ref (gad G 11)), (1, .int (nI menq)), (2, .int wz), (3, .int (nI oq)), (5, .int (opI (fwS rdq prq hq9 menq oq (kq + 1)).1)), (6, .int (nI ((fwS rdq prq hq9 menq oq kq).2))), (7, .int (b01 moq))]) (congrArg (fun zz => ([(8, .int (nI 1)), (0, .ref (gad G 11)), (1, .int (nI menq)), (2, .int wz), (3, .int (nI oq)), (5, .int zz), (6, .int (nI ((fwS rdq prq hq9 menq oq kq).2))), (7, .int (b01 moq))] : List (Nat × Value))) (fw_BN hfw hb160)) ?_
                              refine r_iload o dX10_least_167 6 rfl ?_
                              refine r_iload_n o dX10_least_169 4 rfl ?_
                              refine r_isub o dX10_least_170 ?_
                              refine r_iload_n o dX10_least_171 4 rfl ?_
                              refine r_iand o dX10_least_172 ?_
                              refine r_topi (y := nI (nxs oq (fwS rdq prq hq9 menq oq kq).2)) (nI_nxs hol hsl) ?_
                              refine r_istore o (lv' := [(6, .int (nI (nxs oq (fwS rdq prq hq9 menq oq kq).2))), (8, .int (nI 1)), (0, .ref (gad G 11)), (1, .int (nI menq)), (2, .int wz), (3, .int (nI oq)), (5, .int (opI (fwS rdq prq hq9 menq oq (kq + 1)).1)), (7, .int (b01 moq))]) dX10_least_173 (by decide) rfl ?_
                              refine r_iload o dX10_least_175 0 rfl ?_
                              have hnl : nxs oq (fwS rdq prq hq9 menq oq kq).2 < 2 ^ 20 := Nat.lt_of_le_of_lt (nxs_le oq _) hol
                              refine r_if_eq o (tgt := 184) dX10_least_177 (by decide) (fun hb177 => ?_) (fun hb177 => ?_)
                              · skip
                                rw [nI_eq0 (by omega)] at hb177
                                refine r_iconst o (v := nI 0) dX10_least_184 (by decide) ?_
                                refine r_istore o (lv' := [(7, .int (nI 0)), (6, .int (nI (nxs oq (fwS rdq prq hq9 menq oq kq).2))), (8, .int (nI 1)), (0, .ref (gad G 11)), (1, .int (nI menq)), (2, .int wz), (3, .int (nI oq)), (5, .int (opI (fwS rdq prq hq9 menq oq (kq + 1)).1))]) dX10_least_185 (by decide) rfl ?_
                                refine r_lv (lv' := [(7, .int (b01 (decide (kq + 1 < 2 ^ popc oq)))), (6, .int (nI (nxs oq (fwS rdq prq hq9 menq oq kq).2))), (8, .int (nI 1)), (0, .ref (gad G 11)), (1, .int (nI menq)), (2, .int wz), (3, .int (nI oq)), (5, .int (opI (fwS rdq prq hq9 menq oq (kq + 1)).1))]) (congrArg (fun zz => ([(7, .int zz), (6, .int (nI (nxs oq (fwS rdq prq hq9 menq oq kq).2))), (8, .int (nI 1)), (0, .ref (gad G 11)), (1, .int (nI menq)), (2, .int wz), (3, .int (nI oq)), (5, .int (opI (fwS rdq prq hq9 menq oq (kq + 1)).1))] : List (Nat × Value))) (b01_f' (decide_eq_false (hzz.mp hb177)))) ?_
                                refine r_goto o (tgt := 112) dX10_least_187 (by decide) ?_
                                exact r_to rfl [3, 4, 5, 6, 7, 1, 0] rfl (ih112 (kq + 1) (decide (kq + 1 < 2 ^ popc oq)) (by omega) rfl (by omega))
                              · skip
                                rw [nI_eq0 (by omega)] at hb177
                                refine r_iconst o (v := nI 1) dX10_least_180 (by decide) ?_
                                refine r_goto o (tgt := 185) dX10_least_181 (by decide) ?_
                                refine r_istore o (lv' := [(7, .int (nI 1)), (6, .int (nI (nxs oq (fwS rdq prq hq9 menq oq kq).2))), (8, .int (nI 1)), (0, .ref (gad G 11)), (1, .int (nI menq)), (2, .int wz), (3, .int (nI oq)), (5, .int (opI (fwS rdq prq hq9 menq oq (kq + 1)).1))]) dX10_least_185 (by decide) rfl ?_
                                refine r_lv (lv' := [(7, .int (b01 (decide (kq + 1 < 2 ^ popc oq)))), (6, .int (nI (nxs oq (fwS rdq prq hq9 menq oq kq).2))), (8, .int (nI 1)), (0, .ref (gad G 11)), (1, .int (nI menq)), (2, .int wz), (3, .int (nI oq)), (5, .int (opI (fwS rdq prq hq9 menq oq (kq + 1)).1))]) (congrArg (fun zz => ([(7, .int zz), (6, .int (nI (nxs oq (fwS rdq prq hq9 menq oq kq).2))), (8, .int (nI 1)), (0, .ref (gad G 11)), (1, .int (nI menq)), (2, .int wz), (3, .int (nI oq)), (5, .int (opI (fwS rdq prq hq9 menq oq (kq + 1)).1))] : List (Nat × Value))) (b01_t' (decide_eq_true (Classical.byContradiction (fun zq => hb177 (hzz.mpr zq)))))) ?_
                                refine r_goto o (tgt := 112) dX10_least_187 (by decide) ?_
                                exact r_to rfl [3, 4, 5, 6, 7, 1, 0] rfl (ih112 (kq + 1) (decide (kq + 1 < 2 ^ popc oq)) (by omega) rfl (by omega))
                            · skip
                              rw [nI_eq0 (by omega)] at hb160
                              refine r_iload o dX10_least_163 6 rfl ?_
                              refine r_istore o (lv' := [(5, .int (nI ((fwS rdq prq hq9 menq oq kq).2))), (8, .int (nI 1)), (0, .ref (gad G 11)), (1, .int (nI menq)), (2, .int wz), (3, .int (nI oq)), (6, .int (nI ((fwS rdq prq hq9 menq oq kq).2))), (7, .int (b01 moq))]) dX10_least_165 (by decide) rfl ?_
                              refine r_lv (lv' := [(5, .int (opI (fwS rdq prq hq9 menq oq (kq + 1)).1)), (8, .int (nI 1)), (0, .ref (gad G 11)), (1, .int (nI menq)), (2, .int wz), (3, .int (nI oq)), (6, .int (nI ((fwS rdq prq hq9 menq oq kq).2))), (7, .int (b01 moq))]) (congrArg (fun zz => ([(5, .int zz), (8, .int (nI 1)), (0, .ref (gad G 11)), (1, .int (nI menq)), (2, .int wz), (3, .int (nI oq)), (6, .int (nI ((fwS rdq prq hq9 menq oq kq).2))), (7, .int (b01 moq))] : List (Nat × Value))) (fw_CN hfw hb132 hb160)) ?_
                              refine r_iload o dX10_least_167 6 rfl ?_
                              refine r_iload_n o dX10_least_169 5 rfl ?_
                              refine r_isub o dX10_least_170 ?_
                              refine r_iload_n o dX10_least_171 5 rfl ?_
                              refine r_iand o dX10_least_172 ?_
                              refine r_topi (y := nI (nxs oq (fwS rdq prq hq9 menq oq kq).2)) (nI_nxs hol hsl) ?_
                              refine r_istore o (lv' := [(6, .int (nI (nxs oq (fwS rdq prq hq9 menq oq kq).2))), (5, .int (opI (fwS rdq prq hq9 menq oq (kq + 1)).1)), (8, .int (nI 1)), (0, .ref (gad G 11)), (1, .int (nI menq)), (2, .int wz), (3, .int (nI oq)), (7, .int (b01 moq))]) dX10_least_173 (by decide) rfl ?_
                              refine r_iload o dX10_least_175 0 rfl ?_
                              have hnl : nxs oq (fwS rdq prq hq9 menq oq kq).2 < 2 ^ 20 := Nat.lt_of_le_of_lt (nxs_le oq _) hol
                              refine r_if_eq o (tgt := 184) dX10_least_177 (by decide) (fun hb177 => ?_) (fun hb177 => ?_)
                              · skip
                                rw [nI_eq0 (by omega)] at hb177
                                refine r_iconst o (v := nI 0) dX10_least_184 (by decide) ?_
                                refine r_istore o (lv' := [(7, .int (nI 0)), (6, .int (nI (nxs oq (fwS rdq prq hq9 menq oq kq).2))), (5, .int (opI (fwS rdq prq hq9 menq oq (kq + 1)).1)), (8, .int (nI 1)), (0, .ref (gad G 11)), (1, .int (nI menq)), (2, .int wz), (3, .int (nI oq))]) dX10_least_185 (by decide) rfl ?_
                                refine r_lv (lv' := [(7, .int (b01 (decide (kq + 1 < 2 ^ popc oq)))), (6, .int (nI (nxs oq (fwS rdq prq hq9 menq oq kq).2))), (5, .int (opI (fwS rdq prq hq9 menq oq (kq + 1)).1)), (8, .int (nI 1)), (0, .ref (gad G 11)), (1, .int (nI menq)), (2, .int wz), (3, .int (nI oq))]) (congrArg (fun zz => ([(7, .int zz), (6, .int (nI (nxs oq (fwS rdq prq hq9 menq oq kq).2))), (5, .int (opI (fwS rdq prq hq9 menq oq (kq + 1)).1)), (8, .int (nI 1)), (0, .ref (gad G 11)), (1, .int (nI menq)), (2, .int wz), (3, .int (nI oq))] : List (Nat × Value))) (b01_f' (decide_eq_false (hzz.mp hb177)))) ?_
                                refine r_goto o (tgt := 112) dX10_least_187 (by decide) ?_
                                exact r_to rfl [4, 5, 6, 7, 2, 1, 0] rfl (ih112 (kq + 1) (decide (kq + 1 < 2 ^ popc oq)) (by omega) rfl (by omega))
                              · skip
                                rw [nI_eq0 (by omega)] at hb177
                                refine r_iconst o (v := nI 1) dX10_least_180 (by decide) ?_
                                refine r_goto o (tgt := 185) dX10_least_181 (by decide) ?_
                                refine r_istore o (lv' := [(7, .int (nI 1)), (6, .int (nI (nxs oq (fwS rdq prq hq9 menq oq kq).2))), (5, .int (opI (fwS rdq prq hq9 menq oq (kq + 1)).1)), (8, .int (nI 1)), (0, .ref (gad G 11)), (1, .int (nI menq)), (2, .int wz), (3, .int (nI oq))]) dX10_least_185 (by decide) rfl ?_
                                refine r_lv (lv' := [(7, .int (b01 (decide (kq + 1 < 2 ^ popc oq)))), (6, .int (nI (nxs oq (fwS rdq prq hq9 menq oq kq).2))), (5, .int (opI (fwS rdq prq hq9 menq oq (kq + 1)).1)), (8, .int (nI 1)), (0, .ref (gad G 11)), (1, .int (nI menq)), (2, .int wz), (3, .int (nI oq))]) (congrArg (fun zz => ([(7, .int zz), (6, .int (nI (nxs oq (fwS rdq prq hq9 menq oq kq).2))), (5, .int (opI (fwS rdq prq hq9 menq oq (kq + 1)).1)), (8, .int (nI 1)), (0, .ref (gad G 11)), (1, .int (nI menq)), (2, .int wz), (3, .int (nI oq))] : List (Nat × Value))) (b01_t' (decide_eq_true (Classical.byContradiction (fun zq => hb177 (hzz.mpr zq)))))) ?_
                                refine r_goto o (tgt := 112) dX10_least_187 (by decide) ?_
                                exact r_to rfl [4, 5, 6, 7, 2, 1, 0] rfl (ih112 (kq + 1) (decide (kq + 1 < 2 ^ popc oq)) (by omega) rfl (by omega))
              refine r_lv (lv' := [(7, .int (b01 true)), (6, .int (nI 0)), (5, .int (-6)), (0, .ref (gad G 11)), (1, .int (nI menq)), (2, .int wz), (3, .int (nI oq)), (4, .int (nI ((fup prq kq).2)))]) (congrArg (fun zz => ([(7, .int zz), (6, .int (nI 0)), (5, .int (-6)), (0, .ref (gad G 11)), (1, .int (nI menq)), (2, .int wz), (3, .int (nI oq)), (4, .int (nI ((fup prq kq).2)))] : List (Nat × Value))) (show nI 1 = b01 true from rfl)) ?_
              exact r_to rfl [3, 4, 5, 6, 2, 1, 0] rfl (L112 _ 0 true (Nat.zero_le _) ((decide_eq_true (Nat.two_pow_pos _)).symm) (Nat.lt_succ_self _))
            · skip
              rw [nI_leI (by omega) (by omega)] at hb43
              refine r_aload_n o dX10_least_46 0 rfl ?_
              refine gf_11_20 o (v := nI prq) hpr mw_718 dX10_least_47 ?_
              refine r_iload o dX10_least_50 5 rfl ?_
              refine r_ishr o dX10_least_52 ?_
              refine r_topi (y := nI (prq / 2 ^ kq)) (nI_shr (by omega) (by omega)) ?_
              refine r_iconst o (v := nI 1) dX10_least_53 (by decide) ?_
              refine r_iand o dX10_least_54 ?_
              refine r_topi (y := nI ((prq / 2 ^ kq) &&& 1)) (nI_and _ _) ?_
              refine r_if_ne o (tgt := 62) dX10_least_55 (by decide) (fun hb55 => ?_) (fun hb55 => ?_)
              · skip
                rw [nI_eq0 (by omega)] at hb55
                have hbt : prq.testBit kq = true := tstb.mp (by omega)
                refine r_iconst o (v := nI 0) dX10_least_62 (by decide) ?_
                refine r_istore o (lv' := [(6, .int (nI 0)), (0, .ref (gad G 11)), (1, .int (nI menq)), (2, .int wz), (3, .int (nI ((fup prq kq).1))), (4, .int (nI ((fup prq kq).2))), (5, .int (nI kq))]) dX10_least_63 (by decide) rfl ?_
                refine r_iload_n o dX10_least_65 4 rfl ?_
                refine r_iload o dX10_least_66 0 rfl ?_
                refine r_if_eq o (tgt := 78) dX10_least_68 (by decide) (fun hb68 => ?_) (fun hb68 => ?_)
                · skip
                  refine r_iconst o (v := nI 0) dX10_least_78 (by decide) ?_
                  refine r_ior o dX10_least_79 ?_
                  refine r_topi (y := nI (((fup prq kq).1) ||| 0)) (nI_or _ _) ?_
                  refine r_istore_n o (lv' := [(3, .int (nI (((fup prq kq).1) ||| 0))), (6, .int (nI 0)), (0, .ref (gad G 11)), (1, .int (nI menq)), (2, .int wz), (4, .int (nI ((fup prq kq).2))), (5, .int (nI kq))]) dX10_least_80 (by decide) rfl ?_
                  refine r_iload o dX10_least_81 5 rfl ?_
                  refine r_iload o dX10_least_83 1 rfl ?_
                  refine r_if_eq o (tgt := 92) dX10_least_85 (by decide) (fun hb85 => ?_) (fun hb85 => ?_)
                  · skip
                    refine r_iconst o (v := nI 0) dX10_least_92 (by decide) ?_
                    refine r_iadd o dX10_least_93 ?_
                    refine r_topi (y := nI ((fup prq kq).2 + 0)) (nI_add' _ _) ?_
                    refine r_istore o (lv' := [(4, .int (nI ((fup prq kq).2 + 0))), (3, .int (nI (((fup prq kq).1) ||| 0))), (6, .int (nI 0)), (0, .ref (gad G 11)), (1, .int (nI menq)), (2, .int wz), (5, .int (nI kq))]) dX10_least_94 (by decide) rfl ?_
                    refine r_lv (lv' := [(4, .int (nI ((fup prq kq).2 + 0))), (3, .int (nI ((fup prq (kq + 1)).1))), (6, .int (nI 0)), (0, .ref (gad G 11)), (1, .int (nI menq)), (2, .int wz), (5, .int (nI kq))]) (congrArg (fun zz => ([(4, .int (nI ((fup prq kq).2 + 0))), (3, .int zz), (6, .int (nI 0)), (0, .ref (gad G 11)), (1, .int (nI menq)), (2, .int wz), (5, .int (nI kq))] : List (Nat × Value))) (show nI ((fup prq kq).1 ||| 0) = nI (fup prq (kq + 1)).1 by rw [Nat.or_zero]; exact fup_y hbt)) ?_
                    refine r_lv (lv' := [(4, .int (nI ((fup prq (kq + 1)).2))), (3, .int (nI ((fup prq (kq + 1)).1))), (6, .int (nI 0)), (0, .ref (gad G 11)), (1, .int (nI menq)), (2, .int wz), (5, .int (nI kq))]) (congrArg (fun zz => ([(4, .int zz), (3, .int (nI ((fup prq (kq + 1)).1))), (6, .int (nI 0)), (0, .ref (gad G 11)), (1, .int (nI menq)), (2, .int wz), (5, .int (nI kq))] : List (Nat × Value))) (show nI ((fup prq kq).2 + 0) = nI (fup prq (kq + 1)).2 from fup_y2 hbt)) ?_
                    refine r_iinc o (v := nI (kq + 1)) (lv' := [(5, .int (nI (kq + 1))), (4, .int (nI ((fup prq (kq + 1)).2))), (3, .int (nI ((fup prq (kq + 1)).1))), (6, .int (nI 0)), (0, .ref (gad G 11)), (1, .int (nI menq)), (2, .int wz)]) dX10_least_96 6 rfl (nI_inc _) (by decide) rfl ?_
                    refine r_goto o (tgt := 30) dX10_least_99 (by decide) ?_
                    exact r_to rfl [4, 5, 6, 2, 1, 0] rfl (ih30 (kq + 1) (by omega) (by omega))
                  · exact absurd hb85 (by decide)
                · exact absurd hb68 (by decide)
              · skip
                rw [nI_eq0 (by omega)] at hb55
                have hbt : prq.testBit kq = false := Bool.eq_false_iff.mpr (fun zq => by have := tstb.mpr zq; omega)
                refine r_iconst o (v := nI 1) dX10_least_58 (by decide) ?_
                refine r_goto o (tgt := 63) dX10_least_59 (by decide) ?_
                refine r_istore o (lv' := [(6, .int (nI 1)), (0, .ref (gad G 11)), (1, .int (nI menq)), (2, .int wz), (3, .int (nI ((fup prq kq).1))), (4, .int (nI ((fup prq kq).2))), (5, .int (nI kq))]) dX10_least_63 (by decide) rfl ?_
                refine r_iload_n o dX10_least_65 4 rfl ?_
                refine r_iload o dX10_least_66 0 rfl ?_
                refine r_if_eq o (tgt := 78) dX10_least_68 (by decide) (fun hb68 => ?_) (fun hb68 => ?_)
                · exact absurd hb68 (by decide)
                · skip
                  refine r_iconst o (v := nI 1) dX10_least_71 (by decide) ?_
                  refine r_iload o dX10_least_72 6 rfl ?_
                  refine r_ishl o dX10_least_74 ?_
                  refine r_topi (y := nI (1 * 2 ^ kq)) (nI_shl (by omega)) ?_
                  refine r_goto o (tgt := 79) dX10_least_75 (by decide) ?_
                  refine r_ior o dX10_least_79 ?_
                  refine r_topi (y := nI (((fup prq kq).1) ||| (1 * 2 ^ kq))) (nI_or _ _) ?_
                  refine r_istore_n o (lv' := [(3, .int (nI (((fup prq kq).1) ||| (1 * 2 ^ kq)))), (6, .int (nI 1)), (0, .ref (gad G 11)), (1, .int (nI menq)), (2, .int wz), (4, .int (nI ((fup prq kq).2))), (5, .int (nI kq))]) dX10_least_80 (by decide) rfl ?_
                  refine r_iload o dX10_least_81 5 rfl ?_
                  refine r_iload o dX10_least_83 1 rfl ?_
                  refine r_if_eq o (tgt := 92) dX10_least_85 (by decide) (fun hb85 => ?_) (fun hb85 => ?_)
                  · exact absurd hb85 (by decide)
                  · skip
                    refine r_iconst o (v := nI 1) dX10_least_88 (by decide) ?_
                    refine r_goto o (tgt := 93) dX10_least_89 (by decide) ?_
                    refine r_iadd o dX10_least_93 ?_
                    refine r_topi (y := nI ((fup prq kq).2 + 1)) (nI_add' _ _) ?_
                    refine r_istore o (lv' := [(4, .int (nI ((fup prq kq).2 + 1))), (3, .int (nI (((fup prq kq).1) ||| (1 * 2 ^ kq)))), (6, .int (nI 1)), (0, .ref (gad G 11)), (1, .int (nI menq)), (2, .int wz), (5, .int (nI kq))]) dX10_least_94 (by decide) rfl ?_
                    refine r_lv (lv' := [(4, .int (nI ((fup prq kq).2 + 1))), (3, .int (nI ((fup prq (kq + 1)).1))), (6, .int (nI 1)), (0, .ref (gad G 11)), (1, .int (nI menq)), (2, .int wz), (5, .int (nI kq))]) (congrArg (fun zz => ([(4, .int (nI ((fup prq kq).2 + 1))), (3, .int zz), (6, .int (nI 1)), (0, .ref (gad G 11)), (1, .int (nI menq)), (2, .int wz), (5, .int (nI kq))] : List (Nat × Value))) (fup_n (kq := kq) (show (fup prq kq).2 < 12 by omega) hbt)) ?_
                    refine r_lv (lv' := [(4, .int (nI ((fup prq (kq + 1)).2))), (3, .int (nI ((fup prq (kq + 1)).1))), (6, .int (nI 1)), (0, .ref (gad G 11)), (1, .int (nI menq)), (2, .int wz), (5, .int (nI kq))]) (congrArg (fun zz => ([(4, .int zz), (3, .int (nI ((fup prq (kq + 1)).1))), (6, .int (nI 1)), (0, .ref (gad G 11)), (1, .int (nI menq)), (2, .int wz), (5, .int (nI kq))] : List (Nat × Value))) (fup_n2 (kq := kq) (show (fup prq kq).2 < 12 by omega) hbt)) ?_
                    refine r_iinc o (v := nI (kq + 1)) (lv' := [(5, .int (nI (kq + 1))), (4, .int (nI ((fup prq (kq + 1)).2))), (3, .int (nI ((fup prq (kq + 1)).1))), (6, .int (nI 1)), (0, .ref (gad G 11)), (1, .int (nI menq)), (2, .int wz)]) dX10_least_96 6 rfl (nI_inc _) (by decide) rfl ?_
                    refine r_goto o (tgt := 30) dX10_least_99 (by decide) ?_
                    exact r_to rfl [4, 5, 6, 2, 1, 0] rfl (ih30 (kq + 1) (by omega) (by omega))
      exact r_to rfl [3, 4, 5, 2, 1, 0] rfl (L30 _ 0 (by omega) (Nat.lt_succ_self _))
    · skip
      rw [b01_eq0] at hb16
      refine r_bipush o (v := (-2)) dX10_least_19 (by decide) ?_
      exact r_ireturn o q dX10_least_21 (⟨by rw [if_pos (by first | (rw [hb9]; rfl) | (rw [hb9, hb16]; rfl))], rfl⟩)
