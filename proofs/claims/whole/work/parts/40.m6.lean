theorem stl_com {σ : Sto} {cz kq iq : Nat} {vz wz : Int64} (hne : kq ≠ iq) : stl (stl σ cz kq vz) cz iq wz = stl (stl σ cz iq wz) cz kq vz := by
  funext jq
  by_cases h : jq = cz
  · subst h
    simp only [stl, stc, if_true]
    congr 1
    funext mq
    by_cases h2 : mq = kq
    · subst h2; simp [vp_updL, hne]
    · by_cases h3 : mq = iq
      · subst h3; simp [vp_updL, h2]
      · simp [vp_updL, h2, h3]
  · simp [stl, stc, h]
theorem tm_sto {σ : Sto} {az bz cz dz : Int64} : stl (stl (stl (stl σ 11 12 az) 11 13 bz) 11 12 cz) 11 13 dz = stl (stl σ 11 12 cz) 11 13 dz := by
  rw [stl_com (σ := stl σ 11 12 az) (kq := 13) (iq := 12) (by decide), stl_stl, stl_stl]

set_option maxHeartbeats 4000000 in
set_option maxRecDepth 100000 in
theorem c_X10_share (l : Launch) (G : Gl) (σ : Sto) (sn : Nat → Nat) (cntq : Nat) (hp : PadM σ sn cntq) (hyb : ∀ rq, rq < 6 → BdF (yrF σ rq)) (rz : Int32) (lz : Int32) (pz : Int32) : CtL l G yX10_share cX10_share 6 (some .long) 5 115 [.ref (gad G 11), .int rz, .int lz, .int pz] σ (fun r σ' => r = (if refI (inB (nI 0) (nI 5) rz) (inB (nI 2) (nI 12) lz && inB (nI 0) (nI 1) pz) (fltF sn cntq 21 0) = 0 then fX (shU (dlM σ sn cntq rz.toNatClampNeg) 24 lz.toNatClampNeg) (shD (dlM σ sn cntq rz.toNatClampNeg) 24) pz else LOSTq + (refI (inB (nI 0) (nI 5) rz) (inB (nI 2) (nI 12) lz && inB (nI 0) (nI 1) pz) (fltF sn cntq 21 0)).toInt64) ∧ keepM σ σ') := by
  refine CtL.of (by decide +kernel) (Nat.le_of_ble_eq_true rfl) (fun X o q => ?_)
  show WS X G 6 σ 0 [(0, .ref (gad G 11)), (1, .int rz), (2, .int lz), (3, .int pz)] []
  obtain ⟨hcq, hcnt, hsg, hsn⟩ := id hp
  refine r_iload_n o dX10_share_0 1 rfl ?_
  refine r_callSI o (As := [.int rz]) (st := []) (c_X10_isRow (xl X) G σ rz) om_X10_isRow mw_779 mw_778 (by decide) rfl rfl (Nat.le_of_ble_eq_true rfl) dX10_share_1 (fun rr1 σσ1 hp1 => ?_)
  obtain ⟨hp1, hp1b⟩ := hp1; replace hp1 := Eq.symm hp1; replace hp1b := Eq.symm hp1b; subst hp1; subst hp1b
  refine r_if_ne o (tgt := 11) dX10_share_4 (by decide) (fun hb4 => ?_) (fun hb4 => ?_)
  · skip
    rw [b01_ne0] at hb4
    have hk1 := hb4
    obtain ⟨hr1, hr2⟩ := inB_nI (n := 5) (by decide) hk1
    refine r_iload_n o dX10_share_11 2 rfl ?_
    refine r_callSI o (As := [.int lz]) (st := []) (c_X10_isLength (xl X) G σ lz) om_X10_isLength mw_852 mw_851 (by decide) rfl rfl (Nat.le_of_ble_eq_true rfl) dX10_share_12 (fun rr12 σσ12 hp12 => ?_)
    obtain ⟨hp12, hp12b⟩ := hp12; replace hp12 := Eq.symm hp12; replace hp12b := Eq.symm hp12b; subst hp12; subst hp12b
    refine r_if_eq o (tgt := 25) dX10_share_15 (by decide) (fun hb15 => ?_) (fun hb15 => ?_)
    · skip
      rw [b01_eq0] at hb15
      refine r_ldc2_w o mw_859 dX10_share_25 ?_
      exact r_lreturn o q dX10_share_28 (⟨by rw [rf_2 hb4 (by first | (rw [hb15]; rfl) | (rw [hb15, hb22]; rfl)), if_neg (by decide)]; decide, keepM_rfl⟩)
    · skip
      rw [b01_ne0] at hb15
      obtain ⟨hl1, hl2⟩ := inB_nI (n := 12) (by decide) (inB_wk hb15)
      have hl3 := inB_ge hb15
      refine r_iload_n o dX10_share_18 3 rfl ?_
      refine r_callSI o (As := [.int pz]) (st := []) (c_X10_isPart (xl X) G σ pz) om_X10_isPart mw_857 mw_856 (by decide) rfl rfl (Nat.le_of_ble_eq_true rfl) dX10_share_19 (fun rr19 σσ19 hp19 => ?_)
      obtain ⟨hp19, hp19b⟩ := hp19; replace hp19 := Eq.symm hp19; replace hp19b := Eq.symm hp19b; subst hp19; subst hp19b
      refine r_if_ne o (tgt := 29) dX10_share_22 (by decide) (fun hb22 => ?_) (fun hb22 => ?_)
      · skip
        rw [b01_ne0] at hb22
        refine r_aload_n o dX10_share_29 0 rfl ?_
        refine r_callVI o (As := []) (st := []) (c_X10_fault (xl X) G σ sn cntq hp) om_X10_fault mw_804 mw_805 mw_827 (by decide) rfl rfl rfl (by decide) rfl rfl (Nat.le_of_ble_eq_true rfl) dX10_share_30 (fun rr30 σσ30 hp30 => ?_)
        obtain ⟨hp30, hp30b⟩ := hp30; replace hp30 := Eq.symm hp30; replace hp30b := Eq.symm hp30b; subst hp30; subst hp30b
        refine r_if_lt o (tgt := 40) dX10_share_33 (by decide) (fun hb33 => ?_) (fun hb33 => ?_)
        · skip
          have hno := flt_n hcnt hb33
          have hbd : BdF (dlM σ sn cntq rz.toNatClampNeg) := bd_deal 21 0 (hyb _ (by omega))
          have hsm := nu_sm (endq := 24) hbd (by omega)
          have hgl := gcnt_le (dlM σ sn cntq rz.toNatClampNeg) 24
          have hub := up_bd (yrq := (yeF (dlM σ sn cntq rz.toNatClampNeg) 24)) (lq := lz.toNatClampNeg) hsm hgl
          have hut := up_ti (yrq := (yeF (dlM σ sn cntq rz.toNatClampNeg) 24)) (lq := lz.toNatClampNeg) hsm hgl
          refine r_lv (lv' := [(0, .ref (gad G 11)), (1, .int (nI rz.toNatClampNeg)), (2, .int lz), (3, .int pz)]) (congrArg (fun zz => ([(0, .ref (gad G 11)), (1, .int zz), (2, .int lz), (3, .int pz)] : List (Nat × Value))) (hr1)) ?_
          refine r_lv (lv' := [(0, .ref (gad G 11)), (1, .int (nI rz.toNatClampNeg)), (2, .int (nI lz.toNatClampNeg)), (3, .int pz)]) (congrArg (fun zz => ([(0, .ref (gad G 11)), (1, .int (nI rz.toNatClampNeg)), (2, .int zz), (3, .int pz)] : List (Nat × Value))) (hl1)) ?_
          refine r_aload_n o dX10_share_40 0 rfl ?_
          refine r_iload_n o dX10_share_41 1 rfl ?_
          refine r_callVV o (As := [.int (nI rz.toNatClampNeg)]) (st := []) (c_X10_deal (xl X) G σ sn cntq hp rz.toNatClampNeg (by omega) hno (hyb _ (by omega))) om_X10_deal mw_831 mw_18 mw_829 (by decide) rfl rfl rfl (by decide) rfl rfl (Nat.le_of_ble_eq_true rfl) dX10_share_42 (fun σσ42 hp42 => ?_)
          obtain ⟨hdd, hkk⟩ := hp42
          refine r_aload_n o dX10_share_45 0 rfl ?_
          refine r_bipush o (v := nI 24) dX10_share_46 (by decide) ?_
          refine r_callVV o (As := [.int (nI 24)]) (st := []) (c_X10_layN (xl X) G σσ42 σ (dlM σ sn cntq rz.toNatClampNeg) 24 (by omega) hdd hkk) om_X10_layNumbers mw_863 mw_21 mw_861 (by decide) rfl rfl rfl (by decide) rfl rfl (Nat.le_of_ble_eq_true rfl) dX10_share_48 (fun σσ48 hp48 => ?_)
          have hnm := hp48
          refine r_aload_n o dX10_share_51 0 rfl ?_
          refine r_callVL o (As := []) (st := []) (c_X10_loN (xl X) G σσ48 σ (dlM σ sn cntq rz.toNatClampNeg) 24 (by omega) (nuF (dlM σ sn cntq rz.toNatClampNeg) 24) hnm) om_X10_lowerOf mw_867 mw_22 mw_865 (by decide) rfl rfl rfl (by decide) rfl rfl (Nat.le_of_ble_eq_true rfl) dX10_share_52 (fun rr52 σσ52 hp52 => ?_)
          obtain ⟨hp52, hp52b⟩ := hp52; replace hp52 := Eq.symm hp52; replace hp52b := Eq.symm hp52b; subst hp52; subst hp52b
          refine r_lstore o (lv' := [(4, .long (loF (gcnt (dlM σ sn cntq rz.toNatClampNeg) 24) (nuF (dlM σ sn cntq rz.toNatClampNeg) 24))), (0, .ref (gad G 11)), (1, .int (nI rz.toNatClampNeg)), (2, .int (nI lz.toNatClampNeg)), (3, .int pz)]) dX10_share_55 (by decide) rfl ?_
          refine r_lload o dX10_share_57 0 rfl ?_
          refine r_lconst o (v := 0) dX10_share_59 rfl ?_
          refine r_lcmp o dX10_share_60 ?_
          refine r_if_ne o (tgt := 69) dX10_share_61 (by decide) (fun hb61 => ?_) (fun hb61 => ?_)
          · skip
            rw [lg_cmp_eq] at hb61
            refine r_aload_n o dX10_share_69 1 rfl ?_
            refine r_iload_n o dX10_share_70 3 rfl ?_
            refine r_callVL o (As := [.int (nI lz.toNatClampNeg)]) (st := []) (c_X10_upN (xl X) G σσ48 σ (dlM σ sn cntq rz.toNatClampNeg) 24 (by omega) (nuF (dlM σ sn cntq rz.toNatClampNeg) 24) hnm lz.toNatClampNeg (by omega)) om_X10_upperOf mw_876 mw_24 mw_874 (by decide) rfl rfl rfl (by decide) rfl rfl (Nat.le_of_ble_eq_true rfl) dX10_share_71 (fun rr71 σσ71 hp71 => ?_)
            obtain ⟨hu71, hnm2⟩ := hp71
            subst hu71
            refine r_lload o dX10_share_74 0 rfl ?_
            refine r_iload_n o dX10_share_76 4 rfl ?_
            refine r_callSL o (As := [.long (upF (yeF (dlM σ sn cntq rz.toNatClampNeg) 24) (gcnt (dlM σ sn cntq rz.toNatClampNeg) 24) (nuF (dlM σ sn cntq rz.toNatClampNeg) 24) lz.toNatClampNeg), .long (loF (gcnt (dlM σ sn cntq rz.toNatClampNeg) 24) (nuF (dlM σ sn cntq rz.toNatClampNeg) 24)), .int pz]) (st := []) (c_X10_lowF (xl X) G σσ71 (upF (yeF (dlM σ sn cntq rz.toNatClampNeg) 24) (gcnt (dlM σ sn cntq rz.toNatClampNeg) 24) (nuF (dlM σ sn cntq rz.toNatClampNeg) 24) lz.toNatClampNeg) (loF (gcnt (dlM σ sn cntq rz.toNatClampNeg) 24) (nuF (dlM σ sn cntq rz.toNatClampNeg) 24)) (by rw [hut]; omega) (by rw [hut]; omega) (up_nz hsm hgl hb61) pz) om_X10_lowest mw_883 mw_882 (by decide) rfl rfl (Nat.le_of_ble_eq_true rfl) dX10_share_77 (fun rr77 σσ77 hp77 => ?_)
            obtain ⟨hp77, hp77b⟩ := hp77; replace hp77 := Eq.symm hp77; replace hp77b := Eq.symm hp77b; subst hp77; subst hp77b
            exact r_lreturn o q dX10_share_80 (⟨by rw [rf_0 hb4 (by first | (rw [hb15]; rfl) | (rw [hb15, hb22]; rfl)) hno, if_pos rfl]; rfl, hnm2.2.2.2.2⟩)
          · skip
            rw [lg_cmp_eq] at hb61
            refine r_iload_n o dX10_share_64 4 rfl ?_
            refine r_i2l o dX10_share_65 rfl ?_
            refine r_goto o (tgt := 80) dX10_share_66 (by decide) ?_
            exact r_lreturn o q dX10_share_80 (⟨by rw [rf_0 hb4 (by first | (rw [hb15]; rfl) | (rw [hb15, hb22]; rfl)) hno, if_pos rfl]; rw [show shD (dlM σ sn cntq rz.toNatClampNeg) 24 = 0 from hb61]; exact (fX_0 hb22).symm, hnm.2.2.2.2⟩)
        · skip
          have hfs := flt_s hb33
          refine r_ldc2_w o mw_860 dX10_share_36 ?_
          exact r_lreturn o q dX10_share_39 (⟨by rw [rf_5 hb4 (by first | (rw [hb15]; rfl) | (rw [hb15, hb22]; rfl)) hfs, if_neg (by decide)]; decide, keepM_rfl⟩)
      · skip
        rw [b01_eq0] at hb22
        refine r_ldc2_w o mw_859 dX10_share_25 ?_
        exact r_lreturn o q dX10_share_28 (⟨by rw [rf_2 hb4 (by first | (rw [hb15]; rfl) | (rw [hb15, hb22]; rfl)), if_neg (by decide)]; decide, keepM_rfl⟩)
  · skip
    rw [b01_eq0] at hb4
    refine r_ldc2_w o mw_850 dX10_share_7 ?_
    exact r_lreturn o q dX10_share_10 (⟨by rw [rf_1 hb4, if_neg (by decide)]; decide, keepM_rfl⟩)
set_option maxHeartbeats 4000000 in
set_option maxRecDepth 100000 in
theorem c_X10_trial (l : Launch) (G : Gl) (σ : Sto) (sn : Nat → Nat) (cntq : Nat) (hp : PadM σ sn cntq) (hyb : ∀ rq, rq < 6 → BdF (yrF σ rq)) (cdq : Nat) (prq : Nat) (trq : Nat) (hdr : DrM σ cdq prq trq) (rz : Int32) (lz : Int32) : CtI l G yX10_trial cX10_trial 5 (some .int) 5 115 [.ref (gad G 11), .int rz, .int lz] σ (fun r σ' => if ¬ refI (inB (nI 0) (nI 5) rz) (inB (nI 2) (nI 12) lz) (fltF sn cntq 21 0) = 0 then r = refI (inB (nI 0) (nI 5) rz) (inB (nI 2) (nI 12) lz) (fltF sn cntq 21 0) ∧ σ' = σ else if 20 ≤ cdq then r = -4 ∧ σ' = σ else r = nI cdq ∧ keepM (sti (sti (sti (sti σ 81 cdq rz) 82 cdq lz) 83 cdq (pctI (fU (shU (dlM σ sn cntq rz.toNatClampNeg) 24 lz.toNatClampNeg) (shD (dlM σ sn cntq rz.toNatClampNeg) 24)) (fL (shU (dlM σ sn cntq rz.toNatClampNeg) 24 lz.toNatClampNeg) (shD (dlM σ sn cntq rz.toNatClampNeg) 24)))) 11 21 (nI (cdq + 1))) σ') := by
  refine CtI.of (by decide +kernel) (Nat.le_of_ble_eq_true rfl) (fun X o q => ?_)
  show WS X G 5 σ 0 [(0, .ref (gad G 11)), (1, .int rz), (2, .int lz)] []
  obtain ⟨hcq, hcnt, hsg, hsn⟩ := id hp
  obtain ⟨hdq, hdnt, hpr, hprl, htr, htrl⟩ := id hdr
  refine r_iload_n o dX10_trial_0 1 rfl ?_
  refine r_callSI o (As := [.int rz]) (st := []) (c_X10_isRow (xl X) G σ rz) om_X10_isRow mw_779 mw_778 (by decide) rfl rfl (Nat.le_of_ble_eq_true rfl) dX10_trial_1 (fun rr1 σσ1 hp1 => ?_)
  obtain ⟨hp1, hp1b⟩ := hp1; replace hp1 := Eq.symm hp1; replace hp1b := Eq.symm hp1b; subst hp1; subst hp1b
  refine r_if_ne o (tgt := 9) dX10_trial_4 (by decide) (fun hb4 => ?_) (fun hb4 => ?_)
  · skip
    rw [b01_ne0] at hb4
    have hk1 := hb4
    obtain ⟨hr1, hr2⟩ := inB_nI (n := 5) (by decide) hk1
    refine r_iload_n o dX10_trial_9 2 rfl ?_
    refine r_callSI o (As := [.int lz]) (st := []) (c_X10_isLength (xl X) G σ lz) om_X10_isLength mw_852 mw_851 (by decide) rfl rfl (Nat.le_of_ble_eq_true rfl) dX10_trial_10 (fun rr10 σσ10 hp10 => ?_)
    obtain ⟨hp10, hp10b⟩ := hp10; replace hp10 := Eq.symm hp10; replace hp10b := Eq.symm hp10b; subst hp10; subst hp10b
    refine r_if_ne o (tgt := 19) dX10_trial_13 (by decide) (fun hb13 => ?_) (fun hb13 => ?_)
    · skip
      rw [b01_ne0] at hb13
      obtain ⟨hl1, hl2⟩ := inB_nI (n := 12) (by decide) (inB_wk hb13)
      have hl3 := inB_ge hb13
      refine r_aload_n o dX10_trial_19 0 rfl ?_
      refine r_callVI o (As := []) (st := []) (c_X10_fault (xl X) G σ sn cntq hp) om_X10_fault mw_804 mw_805 mw_827 (by decide) rfl rfl rfl (by decide) rfl rfl (Nat.le_of_ble_eq_true rfl) dX10_trial_20 (fun rr20 σσ20 hp20 => ?_)
      obtain ⟨hp20, hp20b⟩ := hp20; replace hp20 := Eq.symm hp20; replace hp20b := Eq.symm hp20b; subst hp20; subst hp20b
      refine r_if_lt o (tgt := 29) dX10_trial_23 (by decide) (fun hb23 => ?_) (fun hb23 => ?_)
      · skip
        have hno := flt_n hcnt hb23
        refine r_aload_n o dX10_trial_29 0 rfl ?_
        refine gf_11_21 o (v := nI cdq) hdq mw_719 dX10_trial_30 ?_
        refine r_bipush o (v := nI 20) dX10_trial_33 (by decide) ?_
        refine r_icmp_ne o (tgt := 41) dX10_trial_35 (by decide) (fun hb35 => ?_) (fun hb35 => ?_)
        · skip
          rw [nI_eq (by omega) (by omega)] at hb35
          have hbd : BdF (dlM σ sn cntq rz.toNatClampNeg) := bd_deal 21 0 (hyb _ (by omega))
          have hsm := nu_sm (endq := 24) hbd (by omega)
          have hgl := gcnt_le (dlM σ sn cntq rz.toNatClampNeg) 24
          have hub := up_bd (yrq := (yeF (dlM σ sn cntq rz.toNatClampNeg) 24)) (lq := lz.toNatClampNeg) hsm hgl
          have hut := up_ti (yrq := (yeF (dlM σ sn cntq rz.toNatClampNeg) 24)) (lq := lz.toNatClampNeg) hsm hgl
          have hrz := hr1
          have hlz := hl1
          refine r_lv (lv' := [(0, .ref (gad G 11)), (1, .int (nI rz.toNatClampNeg)), (2, .int lz)]) (congrArg (fun zz => ([(0, .ref (gad G 11)), (1, .int zz), (2, .int lz)] : List (Nat × Value))) (hr1)) ?_
          refine r_lv (lv' := [(0, .ref (gad G 11)), (1, .int (nI rz.toNatClampNeg)), (2, .int (nI lz.toNatClampNeg))]) (congrArg (fun zz => ([(0, .ref (gad G 11)), (1, .int (nI rz.toNatClampNeg)), (2, .int zz)] : List (Nat × Value))) (hl1)) ?_
          refine r_aload_n o dX10_trial_41 0 rfl ?_
          refine r_iload_n o dX10_trial_42 1 rfl ?_
          refine r_callVV o (As := [.int (nI rz.toNatClampNeg)]) (st := []) (c_X10_deal (xl X) G σ sn cntq hp rz.toNatClampNeg (by omega) hno (hyb _ (by omega))) om_X10_deal mw_831 mw_18 mw_829 (by decide) rfl rfl rfl (by decide) rfl rfl (Nat.le_of_ble_eq_true rfl) dX10_trial_43 (fun σσ43 hp43 => ?_)
          obtain ⟨hdd, hkk⟩ := hp43
          refine r_aload_n o dX10_trial_46 0 rfl ?_
          refine r_bipush o (v := nI 24) dX10_trial_47 (by decide) ?_
          refine r_callVV o (As := [.int (nI 24)]) (st := []) (c_X10_layN (xl X) G σσ43 σ (dlM σ sn cntq rz.toNatClampNeg) 24 (by omega) hdd hkk) om_X10_layNumbers mw_863 mw_21 mw_861 (by decide) rfl rfl rfl (by decide) rfl rfl (Nat.le_of_ble_eq_true rfl) dX10_trial_49 (fun σσ49 hp49 => ?_)
          have hnm := hp49
          have hct : (σσ49 11).1 21 = nI cdq := (hnm.2.2.2.2.2 21 (by decide) (by decide) (by decide) (by decide)).trans hdq
          have hnm3 := nm_sti (nm_sti hnm 81 cdq (nI rz.toNatClampNeg) (by decide)) 82 cdq (nI lz.toNatClampNeg) (by decide)
          refine r_aload_n o dX10_trial_52 0 rfl ?_
          refine r_callVL o (As := []) (st := []) (c_X10_loN (xl X) G σσ49 σ (dlM σ sn cntq rz.toNatClampNeg) 24 (by omega) (nuF (dlM σ sn cntq rz.toNatClampNeg) 24) hnm) om_X10_lowerOf mw_867 mw_22 mw_865 (by decide) rfl rfl rfl (by decide) rfl rfl (Nat.le_of_ble_eq_true rfl) dX10_trial_53 (fun rr53 σσ53 hp53 => ?_)
          obtain ⟨hp53, hp53b⟩ := hp53; replace hp53 := Eq.symm hp53; replace hp53b := Eq.symm hp53b; subst hp53; subst hp53b
          refine r_lstore_n o (lv' := [(3, .long (loF (gcnt (dlM σ sn cntq rz.toNatClampNeg) 24) (nuF (dlM σ sn cntq rz.toNatClampNeg) 24))), (0, .ref (gad G 11)), (1, .int (nI rz.toNatClampNeg)), (2, .int (nI lz.toNatClampNeg))]) dX10_trial_56 (by decide) rfl ?_
          refine r_aload_n o dX10_trial_57 1 rfl ?_
          refine gf_11_17 o mw_715 dX10_trial_58 ?_
          refine r_aload_n o dX10_trial_61 1 rfl ?_
          refine gf_11_21 o (v := nI cdq) hct mw_719 dX10_trial_62 ?_
          refine r_iload_n o dX10_trial_65 2 rfl ?_
          refine r_iast o (by decide) ia_81 cdq rfl (by omega) (by decide) dX10_trial_66 ?_
          refine r_aload_n o dX10_trial_67 1 rfl ?_
          refine gf_11_18 o mw_716 dX10_trial_68 ?_
          refine r_aload_n o dX10_trial_71 1 rfl ?_
          refine gf_11_21 (σ := sti σσ49 81 cdq (nI rz.toNatClampNeg)) o (v := nI cdq) hct mw_719 dX10_trial_72 ?_
          refine r_iload_n o dX10_trial_75 3 rfl ?_
          refine r_iast o (by decide) ia_82 cdq rfl (by omega) (by decide) dX10_trial_76 ?_
          refine r_aload_n o dX10_trial_77 1 rfl ?_
          refine gf_11_19 o mw_717 dX10_trial_78 ?_
          refine r_aload_n o dX10_trial_81 1 rfl ?_
          refine gf_11_21 (σ := sti (sti σσ49 81 cdq (nI rz.toNatClampNeg)) 82 cdq (nI lz.toNatClampNeg)) o (v := nI cdq) hct mw_719 dX10_trial_82 ?_
          refine r_lload_n o dX10_trial_85 0 rfl ?_
          refine r_lconst o (v := 0) dX10_trial_86 rfl ?_
          refine r_lcmp o dX10_trial_87 ?_
          refine r_if_ne o (tgt := 95) dX10_trial_88 (by decide) (fun hb88 => ?_) (fun hb88 => ?_)
          · skip
            rw [lg_cmp_eq] at hb88
            refine r_ldc2_w o mw_912 dX10_trial_95 ?_
            refine r_aload_n o dX10_trial_98 1 rfl ?_
            refine r_iload_n o dX10_trial_99 3 rfl ?_
            refine r_callVL o (As := [.int (nI lz.toNatClampNeg)]) (st := [.long 100, .int (nI cdq), .ref (gad G 83)]) (c_X10_upN (xl X) G (sti (sti σσ49 81 cdq (nI rz.toNatClampNeg)) 82 cdq (nI lz.toNatClampNeg)) (sti (sti σ 81 cdq (nI rz.toNatClampNeg)) 82 cdq (nI lz.toNatClampNeg)) (dlM σ sn cntq rz.toNatClampNeg) 24 (by omega) (nuF (dlM σ sn cntq rz.toNatClampNeg) 24) hnm3 lz.toNatClampNeg (by omega)) om_X10_upperOf mw_876 mw_24 mw_874 (by decide) rfl rfl rfl (by decide) rfl rfl (Nat.le_of_ble_eq_true rfl) dX10_trial_100 (fun rr100 σσ100 hp100 => ?_)
            obtain ⟨hu71, hnm2⟩ := hp100
            subst hu71
            have hct2 : (σσ100 11).1 21 = nI cdq := (hnm2.2.2.2.2.2 21 (by decide) (by decide) (by decide) (by decide)).trans hdq
            refine r_lmul o dX10_trial_103 ?_
            refine r_lload_n o dX10_trial_104 0 rfl ?_
            refine r_ldiv o dX10_trial_105 hb88 ?_
            refine r_l2i o dX10_trial_106 rfl ?_
            refine r_topi (y := pctI (fU (shU (dlM σ sn cntq rz.toNatClampNeg) 24 lz.toNatClampNeg) (shD (dlM σ sn cntq rz.toNatClampNeg) 24)) (fL (shU (dlM σ sn cntq rz.toNatClampNeg) 24 lz.toNatClampNeg) (shD (dlM σ sn cntq rz.toNatClampNeg) 24))) (pct_e (by rw [hut]; omega) (by rw [hut]; omega) (up_nz hsm hgl hb88)) ?_
            refine r_iast o (by decide) ia_83 cdq rfl (by omega) (by decide) dX10_trial_107 ?_
            refine r_aload_n o dX10_trial_108 1 rfl ?_
            refine r_dup o dX10_trial_109 rfl ?_
            refine gf_11_21 (σ := sti σσ100 83 cdq (pctI (fU (shU (dlM σ sn cntq rz.toNatClampNeg) 24 lz.toNatClampNeg) (shD (dlM σ sn cntq rz.toNatClampNeg) 24)) (fL (shU (dlM σ sn cntq rz.toNatClampNeg) 24 lz.toNatClampNeg) (shD (dlM σ sn cntq rz.toNatClampNeg) 24)))) o (v := nI cdq) hct2 mw_719 dX10_trial_110 ?_
            refine r_iconst o (v := nI 1) dX10_trial_113 (by decide) ?_
            refine r_iadd o dX10_trial_114 ?_
            refine r_topi (y := nI (cdq + 1)) (nI_add' _ _) ?_
            refine pf_11_21 o mw_719 dX10_trial_115 ?_
            refine r_aload_n o dX10_trial_118 1 rfl ?_
            refine gf_11_21 (σ := sti (sti σσ100 83 cdq (pctI (fU (shU (dlM σ sn cntq rz.toNatClampNeg) 24 lz.toNatClampNeg) (shD (dlM σ sn cntq rz.toNatClampNeg) 24)) (fL (shU (dlM σ sn cntq rz.toNatClampNeg) 24 lz.toNatClampNeg) (shD (dlM σ sn cntq rz.toNatClampNeg) 24)))) 11 21 (nI (cdq + 1))) o (v := nI (cdq + 1)) rfl mw_719 dX10_trial_119 ?_
            refine r_iconst o (v := nI 1) dX10_trial_122 (by decide) ?_
            refine r_isub o dX10_trial_123 ?_
            refine r_topi (y := nI (cdq + 1 - 1)) (nI_sub' (by omega)) ?_
            exact r_ireturn o q dX10_trial_124 (by rw [if_neg (fun hz => hz (rf_0 hb4 hb13 hno)), if_neg (by omega)]; refine ⟨rfl, ?_⟩; rw [show sti (sti σ 81 cdq rz) 82 cdq lz = sti (sti σ 81 cdq (nI rz.toNatClampNeg)) 82 cdq (nI lz.toNatClampNeg) by rw [← hr1, ← hl1]]; exact keepM_sti (keepM_sti hnm2.2.2.2.2 83 cdq _) 11 21 _)
          · skip
            rw [lg_cmp_eq] at hb88
            refine r_iconst o (v := nI 0) dX10_trial_91 (by decide) ?_
            refine r_goto o (tgt := 107) dX10_trial_92 (by decide) ?_
            refine r_topi (y := pctI (fU (shU (dlM σ sn cntq rz.toNatClampNeg) 24 lz.toNatClampNeg) (shD (dlM σ sn cntq rz.toNatClampNeg) 24)) (fL (shU (dlM σ sn cntq rz.toNatClampNeg) 24 lz.toNatClampNeg) (shD (dlM σ sn cntq rz.toNatClampNeg) 24))) (by rw [show shD (dlM σ sn cntq rz.toNatClampNeg) 24 = 0 from hb88]; exact pct_0.symm) ?_
            refine r_iast o (by decide) ia_83 cdq rfl (by omega) (by decide) dX10_trial_107 ?_
            refine r_aload_n o dX10_trial_108 1 rfl ?_
            refine r_dup o dX10_trial_109 rfl ?_
            refine gf_11_21 (σ := sti (sti (sti σσ49 81 cdq (nI rz.toNatClampNeg)) 82 cdq (nI lz.toNatClampNeg)) 83 cdq (pctI (fU (shU (dlM σ sn cntq rz.toNatClampNeg) 24 lz.toNatClampNeg) (shD (dlM σ sn cntq rz.toNatClampNeg) 24)) (fL (shU (dlM σ sn cntq rz.toNatClampNeg) 24 lz.toNatClampNeg) (shD (dlM σ sn cntq rz.toNatClampNeg) 24)))) o (v := nI cdq) hct mw_719 dX10_trial_110 ?_
            refine r_iconst o (v := nI 1) dX10_trial_113 (by decide) ?_
            refine r_iadd o dX10_trial_114 ?_
            refine r_topi (y := nI (cdq + 1)) (nI_add' _ _) ?_
            refine pf_11_21 o mw_719 dX10_trial_115 ?_
            refine r_aload_n o dX10_trial_118 1 rfl ?_
            refine gf_11_21 (σ := sti (sti (sti (sti σσ49 81 cdq (nI rz.toNatClampNeg)) 82 cdq (nI lz.toNatClampNeg)) 83 cdq (pctI (fU (shU (dlM σ sn cntq rz.toNatClampNeg) 24 lz.toNatClampNeg) (shD (dlM σ sn cntq rz.toNatClampNeg) 24)) (fL (shU (dlM σ sn cntq rz.toNatClampNeg) 24 lz.toNatClampNeg) (shD (dlM σ sn cntq rz.toNatClampNeg) 24)))) 11 21 (nI (cdq + 1))) o (v := nI (cdq + 1)) rfl mw_719 dX10_trial_119 ?_
            refine r_iconst o (v := nI 1) dX10_trial_122 (by decide) ?_
            refine r_isub o dX10_trial_123 ?_
            refine r_topi (y := nI (cdq + 1 - 1)) (nI_sub' (by omega)) ?_
            exact r_ireturn o q dX10_trial_124 (by rw [if_neg (fun hz => hz (rf_0 hb4 hb13 hno)), if_neg (by omega)]; refine ⟨rfl, ?_⟩; rw [show sti (sti σ 81 cdq rz) 82 cdq lz = sti (sti σ 81 cdq (nI rz.toNatClampNeg)) 82 cdq (nI lz.toNatClampNeg) by rw [← hr1, ← hl1]]; exact keepM_sti (keepM_sti hnm3.2.2.2.2 83 cdq _) 11 21 _)
        · skip
          rw [nI_eq (by omega) (by omega)] at hb35
          refine r_bipush o (v := (-4)) dX10_trial_38 (by decide) ?_
          exact r_ireturn o q dX10_trial_40 (by rw [if_neg (fun hz => hz (rf_0 hb4 hb13 hno)), if_pos (by omega)]; exact ⟨rfl, rfl⟩)
      · skip
        have hfs := flt_s hb23
        refine r_bipush o (v := (-5)) dX10_trial_26 (by decide) ?_
        exact r_ireturn o q dX10_trial_28 (by rw [if_pos (by rw [rf_5 hb4 hb13 hfs]; decide), rf_5 hb4 hb13 hfs]; exact ⟨rfl, rfl⟩)
    · skip
      rw [b01_eq0] at hb13
      refine r_bipush o (v := (-2)) dX10_trial_16 (by decide) ?_
      exact r_ireturn o q dX10_trial_18 (by rw [if_pos (by rw [rf_2 hb4 hb13]; decide), rf_2 hb4 hb13]; exact ⟨rfl, rfl⟩)
  · skip
    rw [b01_eq0] at hb4
    refine r_iconst o (v := (-1)) dX10_trial_7 (by decide) ?_
    exact r_ireturn o q dX10_trial_8 (by rw [if_pos (by rw [rf_1 hb4]; decide), rf_1 hb4]; exact ⟨rfl, rfl⟩)
set_option maxHeartbeats 4000000 in
set_option maxRecDepth 100000 in
theorem c_X10_dealBoth (l : Launch) (G : Gl) (σ : Sto) (sn : Nat → Nat) (cntq : Nat) (hp : PadM σ sn cntq) (hyb : ∀ rq, rq < 6 → BdF (yrF σ rq)) (rq : Nat) (hrq : rq < 6) (sq : Nat) (hsq : sq < 6) (hno : fltF sn cntq 21 0 = none) : CtV l G yX10_dealBoth cX10_dealBoth 4 none 5 115 [.ref (gad G 11), .int (nI rq), .int (nI sq)] σ (fun σ' => (∀ yq, yq < 24 → (σ' 80).1 yq = dlM σ sn cntq rq yq) ∧ (∀ yq, yq < 24 → (σ' 73).1 yq = dlM σ sn cntq sq yq) ∧ ∀ cz, cz ≠ 73 → cz ≠ 74 → cz ≠ 80 → σ' cz = σ cz) := by
  refine CtV.of (by decide +kernel) (Nat.le_of_ble_eq_true rfl) (fun X o q => ?_)
  show WS X G 4 σ 0 [(0, .ref (gad G 11)), (1, .int (nI rq)), (2, .int (nI sq))] []
  refine r_aload_n o dX10_dealBoth_0 0 rfl ?_
  refine r_iload_n o dX10_dealBoth_1 1 rfl ?_
  refine r_callVV o (As := [.int (nI rq)]) (st := []) (c_X10_deal (xl X) G σ sn cntq hp rq hrq hno (hyb rq hrq)) om_X10_deal mw_831 mw_18 mw_829 (by decide) rfl rfl rfl (by decide) rfl rfl (Nat.le_of_ble_eq_true rfl) dX10_dealBoth_2 (fun σσ2 hp2 => ?_)
  obtain ⟨hdd, hkk⟩ := hp2
  refine r_iconst o (v := nI 0) dX10_dealBoth_5 (by decide) ?_
  refine r_istore_n o (lv' := [(3, .int (nI 0)), (0, .ref (gad G 11)), (1, .int (nI rq)), (2, .int (nI sq))]) dX10_dealBoth_6 (by decide) rfl ?_
  have L7 : ∀ (n : Nat) (kq : Nat) (hkq : kq ≤ 24), 24 - kq < n → WS X G 4 (sta σσ2 80 (mix (σσ2 73).1 (σσ2 80).1 0 kq)) 7 [(0, .ref (gad G 11)), (1, .int (nI rq)), (2, .int (nI sq)), (3, .int (nI kq))] [] := by
    intro n
    induction n with
    | zero => intro kq hkq hm; exact absurd hm (Nat.not_lt_zero _)
    | succ n ih7 =>
      intro kq hkq hm
      refine r_iload_n o dX10_dealBoth_7 3 rfl ?_
      refine r_bipush o (v := nI 24) dX10_dealBoth_8 (by decide) ?_
      refine r_icmp_ge o (tgt := 31) dX10_dealBoth_10 (by decide) (fun hb10 => ?_) (fun hb10 => ?_)
      · skip
        rw [nI_leI (by omega) (by omega)] at hb10
        obtain rfl : kq = 24 := by omega
        refine r_aload_n o dX10_dealBoth_31 0 rfl ?_
        refine r_iload_n o dX10_dealBoth_32 2 rfl ?_
        refine r_callVV o (As := [.int (nI sq)]) (st := []) (c_X10_deal (xl X) G (sta σσ2 80 (mix (σσ2 73).1 (σσ2 80).1 0 24)) sn cntq (padM_k ((sta_ne (by decide)).trans (hkk 11 (by decide) (by decide))) ((sta_ne (by decide)).trans (hkk 72 (by decide) (by decide))) hp) sq hsq hno (by rw [yrF_k ((sta_ne (by decide)).trans (hkk 71 (by decide) (by decide)))]; exact hyb sq hsq)) om_X10_deal mw_831 mw_18 mw_829 (by decide) rfl rfl rfl (by decide) rfl rfl (Nat.le_of_ble_eq_true rfl) dX10_dealBoth_33 (fun σσ33 hp33 => ?_)
        obtain ⟨hd3, hk3⟩ := hp33
        rw [dlM_k ((sta_ne (by decide)).trans (hkk 71 (by decide) (by decide)))] at hd3
        exact r_return o q dX10_dealBoth_36 (⟨fun yq hy => by rw [hk3 80 (by decide) (by decide), sta_eq, mix_in (Nat.zero_le _) hy]; exact hdd yq hy, hd3, fun cz h1 h2 h3 => by rw [hk3 cz h1 h2, sta_ne h3]; exact hkk cz h1 h2⟩)
      · skip
        rw [nI_leI (by omega) (by omega)] at hb10
        refine r_aload_n o dX10_dealBoth_13 0 rfl ?_
        refine gf_11_11 o mw_709 dX10_dealBoth_14 ?_
        refine r_iload_n o dX10_dealBoth_17 3 rfl ?_
        refine r_aload_n o dX10_dealBoth_18 0 rfl ?_
        refine gf_11_3 o mw_701 dX10_dealBoth_19 ?_
        refine r_iload_n o dX10_dealBoth_22 3 rfl ?_
        refine r_ia (σ := sta σσ2 80 (mix (σσ2 73).1 (σσ2 80).1 0 kq)) o (by decide) ia_73 (f := (σσ2 73).1) rfl kq rfl (by omega) (by decide) dX10_dealBoth_23 ?_
        refine r_iast o (by decide) ia_80 kq rfl (by omega) (by decide) dX10_dealBoth_24 ?_
        refine r_iinc o (v := nI (kq + 1)) (lv' := [(3, .int (nI (kq + 1))), (0, .ref (gad G 11)), (1, .int (nI rq)), (2, .int (nI sq))]) dX10_dealBoth_25 3 rfl (nI_inc _) (by decide) rfl ?_
        refine r_goto o (tgt := 7) dX10_dealBoth_28 (by decide) ?_
        exact r_to (mix_fw (Nat.zero_le _) rfl) [1, 2, 3, 0] rfl (ih7 (kq + 1) (by omega) (by omega))
  exact r_to (by rw [mix_nil]; exact sta_id rfl) [1, 2, 3, 0] rfl (L7 _ 0 (by omega) (Nat.lt_succ_self _))
set_option maxHeartbeats 4000000 in
set_option maxRecDepth 100000 in
theorem c_X10_findTogether (l : Launch) (G : Gl) (σ : Sto) (af : Nat → Int32) (haf : (σ 80).1 = af) (bf : Nat → Int32) (hbf : (σ 73).1 = bf) (kq : Nat) (hkq : kq < 24) : CtV l G yX10_findTogether cX10_findTogether 17 none 0 0 [.ref (gad G 11), .int (nI kq)] σ (fun σ' => σ' = stl (stl σ 11 12 (tmU af bf kq)) 11 13 (tmD af bf kq)) := by
  refine CtV.of (by decide +kernel) (Nat.le_of_ble_eq_true rfl) (fun X o q => ?_)
  show WS X G 17 σ 0 [(0, .ref (gad G 11)), (1, .int (nI kq))] []
  refine r_lconst o (v := 0) dX10_findTogether_0 rfl ?_
  refine r_lstore_n o (lv' := [(2, .long 0), (0, .ref (gad G 11)), (1, .int (nI kq))]) dX10_findTogether_1 (by decide) rfl ?_
  refine r_lconst o (v := 0) dX10_findTogether_2 rfl ?_
  refine r_lstore o (lv' := [(4, .long 0), (2, .long 0), (0, .ref (gad G 11)), (1, .int (nI kq))]) dX10_findTogether_3 (by decide) rfl ?_
  refine r_lconst o (v := 0) dX10_findTogether_5 rfl ?_
  refine r_lstore o (lv' := [(6, .long 0), (4, .long 0), (2, .long 0), (0, .ref (gad G 11)), (1, .int (nI kq))]) dX10_findTogether_6 (by decide) rfl ?_
  refine r_lconst o (v := 0) dX10_findTogether_8 rfl ?_
  refine r_lstore o (lv' := [(8, .long 0), (6, .long 0), (4, .long 0), (2, .long 0), (0, .ref (gad G 11)), (1, .int (nI kq))]) dX10_findTogether_9 (by decide) rfl ?_
  refine r_lconst o (v := 0) dX10_findTogether_11 rfl ?_
  refine r_lstore o (lv' := [(10, .long 0), (8, .long 0), (6, .long 0), (4, .long 0), (2, .long 0), (0, .ref (gad G 11)), (1, .int (nI kq))]) dX10_findTogether_12 (by decide) rfl ?_
  refine r_lconst o (v := 0) dX10_findTogether_14 rfl ?_
  refine r_lstore o (lv' := [(12, .long 0), (10, .long 0), (8, .long 0), (6, .long 0), (4, .long 0), (2, .long 0), (0, .ref (gad G 11)), (1, .int (nI kq))]) dX10_findTogether_15 (by decide) rfl ?_
  refine r_iconst o (v := nI 0) dX10_findTogether_17 (by decide) ?_
  refine r_istore o (lv' := [(14, .int (nI 0)), (12, .long 0), (10, .long 0), (8, .long 0), (6, .long 0), (4, .long 0), (2, .long 0), (0, .ref (gad G 11)), (1, .int (nI kq))]) dX10_findTogether_18 (by decide) rfl ?_
  have L20 : ∀ (n : Nat) (yq : Nat) (hyq : yq ≤ 24), 24 - yq < n → WS X G 17 σ 20 [(0, .ref (gad G 11)), (1, .int (nI kq)), (2, .long (tgs (tgc af bf kq) (fun _ => 1) yq)), (4, .long (tgs (tgc af bf kq) (tga af) yq)), (6, .long (tgs (tgc af bf kq) (tgb bf kq) yq)), (8, .long (tgs (tgc af bf kq) (fun zy => tga af zy * tga af zy) yq)), (10, .long (tgs (tgc af bf kq) (fun zy => tgb bf kq zy * tgb bf kq zy) yq)), (12, .long (tgs (tgc af bf kq) (fun zy => tga af zy * tgb bf kq zy) yq)), (14, .int (nI yq))] [] := by
    intro n
    induction n with
    | zero => intro yq hyq hm; exact absurd hm (Nat.not_lt_zero _)
    | succ n ih20 =>
      intro yq hyq hm
      refine r_iload o dX10_findTogether_20 8 rfl ?_
      refine r_bipush o (v := nI 24) dX10_findTogether_22 (by decide) ?_
      refine r_icmp_ge o (tgt := 129) dX10_findTogether_24 (by decide) (fun hb24 => ?_) (fun hb24 => ?_)
      · skip
        rw [nI_leI (by omega) (by omega)] at hb24
        obtain rfl : yq = 24 := by omega
        refine r_lv (lv' := [(0, .ref (gad G 11)), (1, .int (nI kq)), (2, .long (tgN af bf kq)), (4, .long (tgs (tgc af bf kq) (tga af) 24)), (6, .long (tgs (tgc af bf kq) (tgb bf kq) 24)), (8, .long (tgs (tgc af bf kq) (fun zy => tga af zy * tga af zy) 24)), (10, .long (tgs (tgc af bf kq) (fun zy => tgb bf kq zy * tgb bf kq zy) 24)), (12, .long (tgs (tgc af bf kq) (fun zy => tga af zy * tgb bf kq zy) 24)), (14, .int (nI 24))]) (congrArg (fun zz => ([(0, .ref (gad G 11)), (1, .int (nI kq)), (2, .long zz), (4, .long (tgs (tgc af bf kq) (tga af) 24)), (6, .long (tgs (tgc af bf kq) (tgb bf kq) 24)), (8, .long (tgs (tgc af bf kq) (fun zy => tga af zy * tga af zy) 24)), (10, .long (tgs (tgc af bf kq) (fun zy => tgb bf kq zy * tgb bf kq zy) 24)), (12, .long (tgs (tgc af bf kq) (fun zy => tga af zy * tgb bf kq zy) 24)), (14, .int (nI 24))] : List (Nat × Value))) (show tgs (tgc af bf kq) (fun _ => 1) 24 = tgN af bf kq from rfl)) ?_
        refine r_lv (lv' := [(0, .ref (gad G 11)), (1, .int (nI kq)), (2, .long (tgN af bf kq)), (4, .long (tgA af bf kq)), (6, .long (tgs (tgc af bf kq) (tgb bf kq) 24)), (8, .long (tgs (tgc af bf kq) (fun zy => tga af zy * tga af zy) 24)), (10, .long (tgs (tgc af bf kq) (fun zy => tgb bf kq zy * tgb bf kq zy) 24)), (12, .long (tgs (tgc af bf kq) (fun zy => tga af zy * tgb bf kq zy) 24)), (14, .int (nI 24))]) (congrArg (fun zz => ([(0, .ref (gad G 11)), (1, .int (nI kq)), (2, .long (tgN af bf kq)), (4, .long zz), (6, .long (tgs (tgc af bf kq) (tgb bf kq) 24)), (8, .long (tgs (tgc af bf kq) (fun zy => tga af zy * tga af zy) 24)), (10, .long (tgs (tgc af bf kq) (fun zy => tgb bf kq zy * tgb bf kq zy) 24)), (12, .long (tgs (tgc af bf kq) (fun zy => tga af zy * tgb bf kq zy) 24)), (14, .int (nI 24))] : List (Nat × Value))) (show tgs (tgc af bf kq) (tga af) 24 = tgA af bf kq from rfl)) ?_
        refine r_lv (lv' := [(0, .ref (gad G 11)), (1, .int (nI kq)), (2, .long (tgN af bf kq)), (4, .long (tgA af bf kq)), (6, .long (tgB af bf kq)), (8, .long (tgs (tgc af bf kq) (fun zy => tga af zy * tga af zy) 24)), (10, .long (tgs (tgc af bf kq) (fun zy => tgb bf kq zy * tgb bf kq zy) 24)), (12, .long (tgs (tgc af bf kq) (fun zy => tga af zy * tgb bf kq zy) 24)), (14, .int (nI 24))]) (congrArg (fun zz => ([(0, .ref (gad G 11)), (1, .int (nI kq)), (2, .long (tgN af bf kq)), (4, .long (tgA af bf kq)), (6, .long zz), (8, .long (tgs (tgc af bf kq) (fun zy => tga af zy * tga af zy) 24)), (10, .long (tgs (tgc af bf kq) (fun zy => tgb bf kq zy * tgb bf kq zy) 24)), (12, .long (tgs (tgc af bf kq) (fun zy => tga af zy * tgb bf kq zy) 24)), (14, .int (nI 24))] : List (Nat × Value))) (show tgs (tgc af bf kq) (tgb bf kq) 24 = tgB af bf kq from rfl)) ?_
        refine r_lv (lv' := [(0, .ref (gad G 11)), (1, .int (nI kq)), (2, .long (tgN af bf kq)), (4, .long (tgA af bf kq)), (6, .long (tgB af bf kq)), (8, .long (tgAA af bf kq)), (10, .long (tgs (tgc af bf kq) (fun zy => tgb bf kq zy * tgb bf kq zy) 24)), (12, .long (tgs (tgc af bf kq) (fun zy => tga af zy * tgb bf kq zy) 24)), (14, .int (nI 24))]) (congrArg (fun zz => ([(0, .ref (gad G 11)), (1, .int (nI kq)), (2, .long (tgN af bf kq)), (4, .long (tgA af bf kq)), (6, .long (tgB af bf kq)), (8, .long zz), (10, .long (tgs (tgc af bf kq) (fun zy => tgb bf kq zy * tgb bf kq zy) 24)), (12, .long (tgs (tgc af bf kq) (fun zy => tga af zy * tgb bf kq zy) 24)), (14, .int (nI 24))] : List (Nat × Value))) (show tgs (tgc af bf kq) (fun zy => tga af zy * tga af zy) 24 = tgAA af bf kq from rfl)) ?_
        refine r_lv (lv' := [(0, .ref (gad G 11)), (1, .int (nI kq)), (2, .long (tgN af bf kq)), (4, .long (tgA af bf kq)), (6, .long (tgB af bf kq)), (8, .long (tgAA af bf kq)), (10, .long (tgBB af bf kq)), (12, .long (tgs (tgc af bf kq) (fun zy => tga af zy * tgb bf kq zy) 24)), (14, .int (nI 24))]) (congrArg (fun zz => ([(0, .ref (gad G 11)), (1, .int (nI kq)), (2, .long (tgN af bf kq)), (4, .long (tgA af bf kq)), (6, .long (tgB af bf kq)), (8, .long (tgAA af bf kq)), (10, .long zz), (12, .long (tgs (tgc af bf kq) (fun zy => tga af zy * tgb bf kq zy) 24)), (14, .int (nI 24))] : List (Nat × Value))) (show tgs (tgc af bf kq) (fun zy => tgb bf kq zy * tgb bf kq zy) 24 = tgBB af bf kq from rfl)) ?_
        refine r_lv (lv' := [(0, .ref (gad G 11)), (1, .int (nI kq)), (2, .long (tgN af bf kq)), (4, .long (tgA af bf kq)), (6, .long (tgB af bf kq)), (8, .long (tgAA af bf kq)), (10, .long (tgBB af bf kq)), (12, .long (tgAB af bf kq)), (14, .int (nI 24))]) (congrArg (fun zz => ([(0, .ref (gad G 11)), (1, .int (nI kq)), (2, .long (tgN af bf kq)), (4, .long (tgA af bf kq)), (6, .long (tgB af bf kq)), (8, .long (tgAA af bf kq)), (10, .long (tgBB af bf kq)), (12, .long zz), (14, .int (nI 24))] : List (Nat × Value))) (show tgs (tgc af bf kq) (fun zy => tga af zy * tgb bf kq zy) 24 = tgAB af bf kq from rfl)) ?_
        refine r_aload_n o dX10_findTogether_129 0 rfl ?_
        refine r_lload_n o dX10_findTogether_130 2 rfl ?_
        refine r_lload o dX10_findTogether_131 7 rfl ?_
        refine r_lmul o dX10_findTogether_133 ?_
        refine r_lload o dX10_findTogether_134 3 rfl ?_
        refine r_lload o dX10_findTogether_136 4 rfl ?_
        refine r_lmul o dX10_findTogether_138 ?_
        refine r_lsub o dX10_findTogether_139 ?_
        refine r_lload_n o dX10_findTogether_140 2 rfl ?_
        refine r_lload o dX10_findTogether_141 7 rfl ?_
        refine r_lmul o dX10_findTogether_143 ?_
        refine r_lload o dX10_findTogether_144 3 rfl ?_
        refine r_lload o dX10_findTogether_146 4 rfl ?_
        refine r_lmul o dX10_findTogether_148 ?_
        refine r_lsub o dX10_findTogether_149 ?_
        refine r_lmul o dX10_findTogether_150 ?_
        refine r_topl (y := tgU af bf kq) rfl ?_
        refine pf_11_12 o mw_710 dX10_findTogether_151 ?_
        refine r_aload_n o dX10_findTogether_154 0 rfl ?_
        refine r_lload_n o dX10_findTogether_155 2 rfl ?_
        refine r_lload o dX10_findTogether_156 5 rfl ?_
        refine r_lmul o dX10_findTogether_158 ?_
        refine r_lload o dX10_findTogether_159 3 rfl ?_
        refine r_lload o dX10_findTogether_161 3 rfl ?_
        refine r_lmul o dX10_findTogether_163 ?_
        refine r_lsub o dX10_findTogether_164 ?_
        refine r_lload_n o dX10_findTogether_165 2 rfl ?_
        refine r_lload o dX10_findTogether_166 6 rfl ?_
        refine r_lmul o dX10_findTogether_168 ?_
        refine r_lload o dX10_findTogether_169 4 rfl ?_
        refine r_lload o dX10_findTogether_171 4 rfl ?_
        refine r_lmul o dX10_findTogether_173 ?_
        refine r_lsub o dX10_findTogether_174 ?_
        refine r_lmul o dX10_findTogether_175 ?_
        refine r_topl (y := tgD af bf kq) rfl ?_
        refine pf_11_13 o mw_711 dX10_findTogether_176 ?_
        refine r_aload_n o dX10_findTogether_179 0 rfl ?_
        refine gf_11_13 (σ := stl (stl σ 11 12 (tgU af bf kq)) 11 13 (tgD af bf kq)) o (v := tgD af bf kq) rfl mw_711 dX10_findTogether_180 ?_
        refine r_lconst o (v := 0) dX10_findTogether_183 rfl ?_
        refine r_lcmp o dX10_findTogether_184 ?_
        refine r_if_ne o (tgt := 198) dX10_findTogether_185 (by decide) (fun hb185 => ?_) (fun hb185 => ?_)
        · skip
          rw [lg_cmp_eq] at hb185
          exact r_return o q dX10_findTogether_198 (by unfold tmU tmD; rw [if_neg hb185, if_neg hb185])
        · skip
          rw [lg_cmp_eq] at hb185
          refine r_aload_n o dX10_findTogether_188 0 rfl ?_
          refine r_lconst o (v := 0) dX10_findTogether_189 rfl ?_
          refine pf_11_12 o mw_710 dX10_findTogether_190 ?_
          refine r_aload_n o dX10_findTogether_193 0 rfl ?_
          refine r_lconst o (v := 1) dX10_findTogether_194 rfl ?_
          refine pf_11_13 o mw_711 dX10_findTogether_195 ?_
          exact r_return o q dX10_findTogether_198 (by unfold tmU tmD; rw [if_pos hb185, if_pos hb185]; exact tm_sto)
      · skip
        rw [nI_leI (by omega) (by omega)] at hb24
        refine r_aload_n o dX10_findTogether_27 0 rfl ?_
        refine gf_11_11 o mw_709 dX10_findTogether_28 ?_
        refine r_iload o dX10_findTogether_31 8 rfl ?_
        refine r_ia o (by decide) ia_80 (f := af) haf yq rfl (by omega) (by decide) dX10_findTogether_33 ?_
        refine r_istore o (lv' := [(15, .int (af yq)), (0, .ref (gad G 11)), (1, .int (nI kq)), (2, .long (tgs (tgc af bf kq) (fun _ => 1) yq)), (4, .long (tgs (tgc af bf kq) (tga af) yq)), (6, .long (tgs (tgc af bf kq) (tgb bf kq) yq)), (8, .long (tgs (tgc af bf kq) (fun zy => tga af zy * tga af zy) yq)), (10, .long (tgs (tgc af bf kq) (fun zy => tgb bf kq zy * tgb bf kq zy) yq)), (12, .long (tgs (tgc af bf kq) (fun zy => tga af zy * tgb bf kq zy) yq)), (14, .int (nI yq))]) dX10_findTogether_34 (by decide) rfl ?_
        refine r_aload_n o dX10_findTogether_36 1 rfl ?_
        refine gf_11_3 o mw_701 dX10_findTogether_37 ?_
        refine r_iload o dX10_findTogether_40 9 rfl ?_
        refine r_iload_n o dX10_findTogether_42 2 rfl ?_
        refine r_isub o dX10_findTogether_43 ?_
        refine r_bipush o (v := nI 24) dX10_findTogether_44 (by decide) ?_
        refine r_iadd o dX10_findTogether_46 ?_
        refine r_topi (y := nI (yq + 24 - kq)) (i_sub24 hkq) ?_
        refine r_bipush o (v := nI 24) dX10_findTogether_47 (by decide) ?_
        refine r_irem o dX10_findTogether_49 (nI_z (by omega) (by omega)) ?_
        refine r_topi (y := nI ((yq + 24 - kq) % 24)) (nI_rem' (by omega) (by omega) (by omega)) ?_
        refine r_ia o (by decide) ia_73 (f := bf) hbf ((yq + 24 - kq) % 24) rfl (Nat.mod_lt _ (by decide)) (by decide) dX10_findTogether_50 ?_
        refine r_istore o (lv' := [(16, .int (bf ((yq + 24 - kq) % 24))), (15, .int (af yq)), (0, .ref (gad G 11)), (1, .int (nI kq)), (2, .long (tgs (tgc af bf kq) (fun _ => 1) yq)), (4, .long (tgs (tgc af bf kq) (tga af) yq)), (6, .long (tgs (tgc af bf kq) (tgb bf kq) yq)), (8, .long (tgs (tgc af bf kq) (fun zy => tga af zy * tga af zy) yq)), (10, .long (tgs (tgc af bf kq) (fun zy => tgb bf kq zy * tgb bf kq zy) yq)), (12, .long (tgs (tgc af bf kq) (fun zy => tga af zy * tgb bf kq zy) yq)), (14, .int (nI yq))]) dX10_findTogether_51 (by decide) rfl ?_
        refine r_iload o dX10_findTogether_53 1 rfl ?_
        refine r_ldc o mw_697 dX10_findTogether_55 ?_
        refine r_icmp_eq o (tgt := 123) dX10_findTogether_57 (by decide) (fun hb57 => ?_) (fun hb57 => ?_)
        · skip
          have hcb : tgc af bf kq yq = false := by unfold tgc; rw [decide_eq_true hb57]; rfl
          refine r_lv (lv' := [(16, .int (bf ((yq + 24 - kq) % 24))), (15, .int (af yq)), (0, .ref (gad G 11)), (1, .int (nI kq)), (2, .long (tgs (tgc af bf kq) (fun _ => 1) (yq + 1))), (4, .long (tgs (tgc af bf kq) (tga af) yq)), (6, .long (tgs (tgc af bf kq) (tgb bf kq) yq)), (8, .long (tgs (tgc af bf kq) (fun zy => tga af zy * tga af zy) yq)), (10, .long (tgs (tgc af bf kq) (fun zy => tgb bf kq zy * tgb bf kq zy) yq)), (12, .long (tgs (tgc af bf kq) (fun zy => tga af zy * tgb bf kq zy) yq)), (14, .int (nI yq))]) (congrArg (fun zz => ([(16, .int (bf ((yq + 24 - kq) % 24))), (15, .int (af yq)), (0, .ref (gad G 11)), (1, .int (nI kq)), (2, .long zz), (4, .long (tgs (tgc af bf kq) (tga af) yq)), (6, .long (tgs (tgc af bf kq) (tgb bf kq) yq)), (8, .long (tgs (tgc af bf kq) (fun zy => tga af zy * tga af zy) yq)), (10, .long (tgs (tgc af bf kq) (fun zy => tgb bf kq zy * tgb bf kq zy) yq)), (12, .long (tgs (tgc af bf kq) (fun zy => tga af zy * tgb bf kq zy) yq)), (14, .int (nI yq))] : List (Nat × Value))) (tgs_n hcb)) ?_
          refine r_lv (lv' := [(16, .int (bf ((yq + 24 - kq) % 24))), (15, .int (af yq)), (0, .ref (gad G 11)), (1, .int (nI kq)), (2, .long (tgs (tgc af bf kq) (fun _ => 1) (yq + 1))), (4, .long (tgs (tgc af bf kq) (tga af) (yq + 1))), (6, .long (tgs (tgc af bf kq) (tgb bf kq) yq)), (8, .long (tgs (tgc af bf kq) (fun zy => tga af zy * tga af zy) yq)), (10, .long (tgs (tgc af bf kq) (fun zy => tgb bf kq zy * tgb bf kq zy) yq)), (12, .long (tgs (tgc af bf kq) (fun zy => tga af zy * tgb bf kq zy) yq)), (14, .int (nI yq))]) (congrArg (fun zz => ([(16, .int (bf ((yq + 24 - kq) % 24))), (15, .int (af yq)), (0, .ref (gad G 11)), (1, .int (nI kq)), (2, .long (tgs (tgc af bf kq) (fun _ => 1) (yq + 1))), (4, .long zz), (6, .long (tgs (tgc af bf kq) (tgb bf kq) yq)), (8, .long (tgs (tgc af bf kq) (fun zy => tga af zy * tga af zy) yq)), (10, .long (tgs (tgc af bf kq) (fun zy => tgb bf kq zy * tgb bf kq zy) yq)), (12, .long (tgs (tgc af bf kq) (fun zy => tga af zy * tgb bf kq zy) yq)), (14, .int (nI yq))] : List (Nat × Value))) (tgs_n hcb)) ?_
          refine r_lv (lv' := [(16, .int (bf ((yq + 24 - kq) % 24))), (15, .int (af yq)), (0, .ref (gad G 11)), (1, .int (nI kq)), (2, .long (tgs (tgc af bf kq) (fun _ => 1) (yq + 1))), (4, .long (tgs (tgc af bf kq) (tga af) (yq + 1))), (6, .long (tgs (tgc af bf kq) (tgb bf kq) (yq + 1))), (8, .long (tgs (tgc af bf kq) (fun zy => tga af zy * tga af zy) yq)), (10, .long (tgs (tgc af bf kq) (fun zy => tgb bf kq zy * tgb bf kq zy) yq)), (12, .long (tgs (tgc af bf kq) (fun zy => tga af zy * tgb bf kq zy) yq)), (14, .int (nI yq))]) (congrArg (fun zz => ([(16, .int (bf ((yq + 24 - kq) % 24))), (15, .int (af yq)), (0, .ref (gad G 11)), (1, .int (nI kq)), (2, .long (tgs (tgc af bf kq) (fun _ => 1) (yq + 1))), (4, .long (tgs (tgc af bf kq) (tga af) (yq + 1))), (6, .long zz), (8, .long (tgs (tgc af bf kq) (fun zy => tga af zy * tga af zy) yq)), (10, .long (tgs (tgc af bf kq) (fun zy => tgb bf kq zy * tgb bf kq zy) yq)), (12, .long (tgs (tgc af bf kq) (fun zy => tga af zy * tgb bf kq zy) yq)), (14, .int (nI yq))] : List (Nat × Value))) (tgs_n hcb)) ?_
          refine r_lv (lv' := [(16, .int (bf ((yq + 24 - kq) % 24))), (15, .int (af yq)), (0, .ref (gad G 11)), (1, .int (nI kq)), (2, .long (tgs (tgc af bf kq) (fun _ => 1) (yq + 1))), (4, .long (tgs (tgc af bf kq) (tga af) (yq + 1))), (6, .long (tgs (tgc af bf kq) (tgb bf kq) (yq + 1))), (8, .long (tgs (tgc af bf kq) (fun zy => tga af zy * tga af zy) (yq + 1))), (10, .long (tgs (tgc af bf kq) (fun zy => tgb bf kq zy * tgb bf kq zy) yq)), (12, .long (tgs (tgc af bf kq) (fun zy => tga af zy * tgb bf kq zy) yq)), (14, .int (nI yq))]) (congrArg (fun zz => ([(16, .int (bf ((yq + 24 - kq) % 24))), (15, .int (af yq)), (0, .ref (gad G 11)), (1, .int (nI kq)), (2, .long (tgs (tgc af bf kq) (fun _ => 1) (yq + 1))), (4, .long (tgs (tgc af bf kq) (tga af) (yq + 1))), (6, .long (tgs (tgc af bf kq) (tgb bf kq) (yq + 1))), (8, .long zz), (10, .long (tgs (tgc af bf kq) (fun zy => tgb bf kq zy * tgb bf kq zy) yq)), (12, .long (tgs (tgc af bf kq) (fun zy => tga af zy * tgb bf kq zy) yq)), (14, .int (nI yq))] : List (Nat × Value))) (tgs_n hcb)) ?_
          refine r_lv (lv' := [(16, .int (bf ((yq + 24 - kq) % 24))), (15, .int (af yq)), (0, .ref (gad G 11)), (1, .int (nI kq)), (2, .long (tgs (tgc af bf kq) (fun _ => 1) (yq + 1))), (4, .long (tgs (tgc af bf kq) (tga af) (yq + 1))), (6, .long (tgs (tgc af bf kq) (tgb bf kq) (yq + 1))), (8, .long (tgs (tgc af bf kq) (fun zy => tga af zy * tga af zy) (yq + 1))), (10, .long (tgs (tgc af bf kq) (fun zy => tgb bf kq zy * tgb bf kq zy) (yq + 1))), (12, .long (tgs (tgc af bf kq) (fun zy => tga af zy * tgb bf kq zy) yq)), (14, .int (nI yq))]) (congrArg (fun zz => ([(16, .int (bf ((yq + 24 - kq) % 24))), (15, .int (af yq)), (0, .ref (gad G 11)), (1, .int (nI kq)), (2, .long (tgs (tgc af bf kq) (fun _ => 1) (yq + 1))), (4, .long (tgs (tgc af bf kq) (tga af) (yq + 1))), (6, .long (tgs (tgc af bf kq) (tgb bf kq) (yq + 1))), (8, .long (tgs (tgc af bf kq) (fun zy => tga af zy * tga af zy) (yq + 1))), (10, .long zz), (12, .long (tgs (tgc af bf kq) (fun zy => tga af zy * tgb bf kq zy) yq)), (14, .int (nI yq))] : List (Nat × Value))) (tgs_n hcb)) ?_
          refine r_lv (lv' := [(16, .int (bf ((yq + 24 - kq) % 24))), (15, .int (af yq)), (0, .ref (gad G 11)), (1, .int (nI kq)), (2, .long (tgs (tgc af bf kq) (fun _ => 1) (yq + 1))), (4, .long (tgs (tgc af bf kq) (tga af) (yq + 1))), (6, .long (tgs (tgc af bf kq) (tgb bf kq) (yq + 1))), (8, .long (tgs (tgc af bf kq) (fun zy => tga af zy * tga af zy) (yq + 1))), (10, .long (tgs (tgc af bf kq) (fun zy => tgb bf kq zy * tgb bf kq zy) (yq + 1))), (12, .long (tgs (tgc af bf kq) (fun zy => tga af zy * tgb bf kq zy) (yq + 1))), (14, .int (nI yq))]) (congrArg (fun zz => ([(16, .int (bf ((yq + 24 - kq) % 24))), (15, .int (af yq)), (0, .ref (gad G 11)), (1, .int (nI kq)), (2, .long (tgs (tgc af bf kq) (fun _ => 1) (yq + 1))), (4, .long (tgs (tgc af bf kq) (tga af) (yq + 1))), (6, .long (tgs (tgc af bf kq) (tgb bf kq) (yq + 1))), (8, .long (tgs (tgc af bf kq) (fun zy => tga af zy * tga af zy) (yq + 1))), (10, .long (tgs (tgc af bf kq) (fun zy => tgb bf kq zy * tgb bf kq zy) (yq + 1))), (12, .long zz), (14, .int (nI yq))] : List (Nat × Value))) (tgs_n hcb)) ?_
          refine r_iinc o (v := nI (yq + 1)) (lv' := [(14, .int (nI (yq + 1))), (16, .int (bf ((yq + 24 - kq) % 24))), (15, .int (af yq)), (0, .ref (gad G 11)), (1, .int (nI kq)), (2, .long (tgs (tgc af bf kq) (fun _ => 1) (yq + 1))), (4, .long (tgs (tgc af bf kq) (tga af) (yq + 1))), (6, .long (tgs (tgc af bf kq) (tgb bf kq) (yq + 1))), (8, .long (tgs (tgc af bf kq) (fun zy => tga af zy * tga af zy) (yq + 1))), (10, .long (tgs (tgc af bf kq) (fun zy => tgb bf kq zy * tgb bf kq zy) (yq + 1))), (12, .long (tgs (tgc af bf kq) (fun zy => tga af zy * tgb bf kq zy) (yq + 1)))]) dX10_findTogether_123 10 rfl (nI_inc _) (by decide) rfl ?_
          refine r_goto o (tgt := 20) dX10_findTogether_126 (by decide) ?_
          exact r_to rfl [3, 4, 5, 6, 7, 8, 9, 10, 0] rfl (ih20 (yq + 1) (by omega) (by omega))
        · skip
          refine r_iload o dX10_findTogether_60 0 rfl ?_
          refine r_ldc o mw_697 dX10_findTogether_62 ?_
          refine r_icmp_eq o (tgt := 123) dX10_findTogether_64 (by decide) (fun hb64 => ?_) (fun hb64 => ?_)
          · skip
            have hcb : tgc af bf kq yq = false := by unfold tgc; rw [decide_eq_true hb64]; simp
            refine r_lv (lv' := [(16, .int (bf ((yq + 24 - kq) % 24))), (15, .int (af yq)), (0, .ref (gad G 11)), (1, .int (nI kq)), (2, .long (tgs (tgc af bf kq) (fun _ => 1) (yq + 1))), (4, .long (tgs (tgc af bf kq) (tga af) yq)), (6, .long (tgs (tgc af bf kq) (tgb bf kq) yq)), (8, .long (tgs (tgc af bf kq) (fun zy => tga af zy * tga af zy) yq)), (10, .long (tgs (tgc af bf kq) (fun zy => tgb bf kq zy * tgb bf kq zy) yq)), (12, .long (tgs (tgc af bf kq) (fun zy => tga af zy * tgb bf kq zy) yq)), (14, .int (nI yq))]) (congrArg (fun zz => ([(16, .int (bf ((yq + 24 - kq) % 24))), (15, .int (af yq)), (0, .ref (gad G 11)), (1, .int (nI kq)), (2, .long zz), (4, .long (tgs (tgc af bf kq) (tga af) yq)), (6, .long (tgs (tgc af bf kq) (tgb bf kq) yq)), (8, .long (tgs (tgc af bf kq) (fun zy => tga af zy * tga af zy) yq)), (10, .long (tgs (tgc af bf kq) (fun zy => tgb bf kq zy * tgb bf kq zy) yq)), (12, .long (tgs (tgc af bf kq) (fun zy => tga af zy * tgb bf kq zy) yq)), (14, .int (nI yq))] : List (Nat × Value))) (tgs_n hcb)) ?_
            refine r_lv (lv' := [(16, .int (bf ((yq + 24 - kq) % 24))), (15, .int (af yq)), (0, .ref (gad G 11)), (1, .int (nI kq)), (2, .long (tgs (tgc af bf kq) (fun _ => 1) (yq + 1))), (4, .long (tgs (tgc af bf kq) (tga af) (yq + 1))), (6, .long (tgs (tgc af bf kq) (tgb bf kq) yq)), (8, .long (tgs (tgc af bf kq) (fun zy => tga af zy * tga af zy) yq)), (10, .long (tgs (tgc af bf kq) (fun zy => tgb bf kq zy * tgb bf kq zy) yq)), (12, .long (tgs (tgc af bf kq) (fun zy => tga af zy * tgb bf kq zy) yq)), (14, .int (nI yq))]) (congrArg (fun zz => ([(16, .int (bf ((yq + 24 - kq) % 24))), (15, .int (af yq)), (0, .ref (gad G 11)), (1, .int (nI kq)), (2, .long (tgs (tgc af bf kq) (fun _ => 1) (yq + 1))), (4, .long zz), (6, .long (tgs (tgc af bf kq) (tgb bf kq) yq)), (8, .long (tgs (tgc af bf kq) (fun zy => tga af zy * tga af zy) yq)), (10, .long (tgs (tgc af bf kq) (fun zy => tgb bf kq zy * tgb bf kq zy) yq)), (12, .long (tgs (tgc af bf kq) (fun zy => tga af zy * tgb bf kq zy) yq)), (14, .int (nI yq))] : List (Nat × Value))) (tgs_n hcb)) ?_
            refine r_lv (lv' := [(16, .int (bf ((yq + 24 - kq) % 24))), (15, .int (af yq)), (0, .ref (gad G 11)), (1, .int (nI kq)), (2, .long (tgs (tgc af bf kq) (fun _ => 1) (yq + 1))), (4, .long (tgs (tgc af bf kq) (tga af) (yq + 1))), (6, .long (tgs (tgc af bf kq) (tgb bf kq) (yq + 1))), (8, .long (tgs (tgc af bf kq) (fun zy => tga af zy * tga af zy) yq)), (10, .long (tgs (tgc af bf kq) (fun zy => tgb bf kq zy * tgb bf kq zy) yq)), (12, .long (tgs (tgc af bf kq) (fun zy => tga af zy * tgb bf kq zy) yq)), (14, .int (nI yq))]) (congrArg (fun zz => ([(16, .int (bf ((yq + 24 - kq) % 24))), (15, .int (af yq)), (0, .ref (gad G 11)), (1, .int (nI kq)), (2, .long (tgs (tgc af bf kq) (fun _ => 1) (yq + 1))), (4, .long (tgs (tgc af bf kq) (tga af) (yq + 1))), (6, .long zz), (8, .long (tgs (tgc af bf kq) (fun zy => tga af zy * tga af zy) yq)), (10, .long (tgs (tgc af bf kq) (fun zy => tgb bf kq zy * tgb bf kq zy) yq)), (12, .long (tgs (tgc af bf kq) (fun zy => tga af zy * tgb bf kq zy) yq)), (14, .int (nI yq))] : List (Nat × Value))) (tgs_n hcb)) ?_
            refine r_lv (lv' := [(16, .int (bf ((yq + 24 - kq) % 24))), (15, .int (af yq)), (0, .ref (gad G 11)), (1, .int (nI kq)), (2, .long (tgs (tgc af bf kq) (fun _ => 1) (yq + 1))), (4, .long (tgs (tgc af bf kq) (tga af) (yq + 1))), (6, .long (tgs (tgc af bf kq) (tgb bf kq) (yq + 1))), (8, .long (tgs (tgc af bf kq) (fun zy => tga af zy * tga af zy) (yq + 1))), (10, .long (tgs (tgc af bf kq) (fun zy => tgb bf kq zy * tgb bf kq zy) yq)), (12, .long (tgs (tgc af bf kq) (fun zy => tga af zy * tgb bf kq zy) yq)), (14, .int (nI yq))]) (congrArg (fun zz => ([(16, .int (bf ((yq + 24 - kq) % 24))), (15, .int (af yq)), (0, .ref (gad G 11)), (1, .int (nI kq)), (2, .long (tgs (tgc af bf kq) (fun _ => 1) (yq + 1))), (4, .long (tgs (tgc af bf kq) (tga af) (yq + 1))), (6, .long (tgs (tgc af bf kq) (tgb bf kq) (yq + 1))), (8, .long zz), (10, .long (tgs (tgc af bf kq) (fun zy => tgb bf kq zy * tgb bf kq zy) yq)), (12, .long (tgs (tgc af bf kq) (fun zy => tga af zy * tgb bf kq zy) yq)), (14, .int (nI yq))] : List (Nat × Value))) (tgs_n hcb)) ?_
            refine r_lv (lv' := [(16, .int (bf ((yq + 24 - kq) % 24))), (15, .int (af yq)), (0, .ref (gad G 11)), (1, .int (nI kq)), (2, .long (tgs (tgc af bf kq) (fun _ => 1) (yq + 1))), (4, .long (tgs (tgc af bf kq) (tga af) (yq + 1))), (6, .long (tgs (tgc af bf kq) (tgb bf kq) (yq + 1))), (8, .long (tgs (tgc af bf kq) (fun zy => tga af zy * tga af zy) (yq + 1))), (10, .long (tgs (tgc af bf kq) (fun zy => tgb bf kq zy * tgb bf kq zy) (yq + 1))), (12, .long (tgs (tgc af bf kq) (fun zy => tga af zy * tgb bf kq zy) yq)), (14, .int (nI yq))]) (congrArg (fun zz => ([(16, .int (bf ((yq + 24 - kq) % 24))), (15, .int (af yq)), (0, .ref (gad G 11)), (1, .int (nI kq)), (2, .long (tgs (tgc af bf kq) (fun _ => 1) (yq + 1))), (4, .long (tgs (tgc af bf kq) (tga af) (yq + 1))), (6, .long (tgs (tgc af bf kq) (tgb bf kq) (yq + 1))), (8, .long (tgs (tgc af bf kq) (fun zy => tga af zy * tga af zy) (yq + 1))), (10, .long zz), (12, .long (tgs (tgc af bf kq) (fun zy => tga af zy * tgb bf kq zy) yq)), (14, .int (nI yq))] : List (Nat × Value))) (tgs_n hcb)) ?_
            refine r_lv (lv' := [(16, .int (bf ((yq + 24 - kq) % 24))), (15, .int (af yq)), (0, .ref (gad G 11)), (1, .int (nI kq)), (2, .long (tgs (tgc af bf kq) (fun _ => 1) (yq + 1))), (4, .long (tgs (tgc af bf kq) (tga af) (yq + 1))), (6, .long (tgs (tgc af bf kq) (tgb bf kq) (yq + 1))), (8, .long (tgs (tgc af bf kq) (fun zy => tga af zy * tga af zy) (yq + 1))), (10, .long (tgs (tgc af bf kq) (fun zy => tgb bf kq zy * tgb bf kq zy) (yq + 1))), (12, .long (tgs (tgc af bf kq) (fun zy => tga af zy * tgb bf kq zy) (yq + 1))), (14, .int (nI yq))]) (congrArg (fun zz => ([(16, .int (bf ((yq + 24 - kq) % 24))), (15, .int (af yq)), (0, .ref (gad G 11)), (1, .int (nI kq)), (2, .long (tgs (tgc af bf kq) (fun _ => 1) (yq + 1))), (4, .long (tgs (tgc af bf kq) (tga af) (yq + 1))), (6, .long (tgs (tgc af bf kq) (tgb bf kq) (yq + 1))), (8, .long (tgs (tgc af bf kq) (fun zy => tga af zy * tga af zy) (yq + 1))), (10, .long (tgs (tgc af bf kq) (fun zy => tgb bf kq zy * tgb bf kq zy) (yq + 1))), (12, .long zz), (14, .int (nI yq))] : List (Nat × Value))) (tgs_n hcb)) ?_
            refine r_iinc o (v := nI (yq + 1)) (lv' := [(14, .int (nI (yq + 1))), (16, .int (bf ((yq + 24 - kq) % 24))), (15, .int (af yq)), (0, .ref (gad G 11)), (1, .int (nI kq)), (2, .long (tgs (tgc af bf kq) (fun _ => 1) (yq + 1))), (4, .long (tgs (tgc af bf kq) (tga af) (yq + 1))), (6, .long (tgs (tgc af bf kq) (tgb bf kq) (yq + 1))), (8, .long (tgs (tgc af bf kq) (fun zy => tga af zy * tga af zy) (yq + 1))), (10, .long (tgs (tgc af bf kq) (fun zy => tgb bf kq zy * tgb bf kq zy) (yq + 1))), (12, .long (tgs (tgc af bf kq) (fun zy => tga af zy * tgb bf kq zy) (yq + 1)))]) dX10_findTogether_123 10 rfl (nI_inc _) (by decide) rfl ?_
            refine r_goto o (tgt := 20) dX10_findTogether_126 (by decide) ?_
            exact r_to rfl [3, 4, 5, 6, 7, 8, 9, 10, 0] rfl (ih20 (yq + 1) (by omega) (by omega))
          · skip
            have hcb : tgc af bf kq yq = true := by unfold tgc; rw [decide_eq_false hb57, decide_eq_false hb64]; rfl
            refine r_lload_n o dX10_findTogether_67 4 rfl ?_
            refine r_lconst o (v := 1) dX10_findTogether_68 rfl ?_
            refine r_ladd o dX10_findTogether_69 ?_
            refine r_lstore_n o (lv' := [(2, .long ((tgs (tgc af bf kq) (fun _ => 1) yq) + 1)), (16, .int (bf ((yq + 24 - kq) % 24))), (15, .int (af yq)), (0, .ref (gad G 11)), (1, .int (nI kq)), (4, .long (tgs (tgc af bf kq) (tga af) yq)), (6, .long (tgs (tgc af bf kq) (tgb bf kq) yq)), (8, .long (tgs (tgc af bf kq) (fun zy => tga af zy * tga af zy) yq)), (10, .long (tgs (tgc af bf kq) (fun zy => tgb bf kq zy * tgb bf kq zy) yq)), (12, .long (tgs (tgc af bf kq) (fun zy => tga af zy * tgb bf kq zy) yq)), (14, .int (nI yq))]) dX10_findTogether_70 (by decide) rfl ?_
            refine r_lload o dX10_findTogether_71 5 rfl ?_
            refine r_iload o dX10_findTogether_73 2 rfl ?_
            refine r_i2l o dX10_findTogether_75 rfl ?_
            refine r_ladd o dX10_findTogether_76 ?_
            refine r_lstore o (lv' := [(4, .long ((tgs (tgc af bf kq) (tga af) yq) + ((af yq).toInt64))), (2, .long ((tgs (tgc af bf kq) (fun _ => 1) yq) + 1)), (16, .int (bf ((yq + 24 - kq) % 24))), (15, .int (af yq)), (0, .ref (gad G 11)), (1, .int (nI kq)), (6, .long (tgs (tgc af bf kq) (tgb bf kq) yq)), (8, .long (tgs (tgc af bf kq) (fun zy => tga af zy * tga af zy) yq)), (10, .long (tgs (tgc af bf kq) (fun zy => tgb bf kq zy * tgb bf kq zy) yq)), (12, .long (tgs (tgc af bf kq) (fun zy => tga af zy * tgb bf kq zy) yq)), (14, .int (nI yq))]) dX10_findTogether_77 (by decide) rfl ?_
            refine r_lload o dX10_findTogether_79 6 rfl ?_
            refine r_iload o dX10_findTogether_81 2 rfl ?_
            refine r_i2l o dX10_findTogether_83 rfl ?_
            refine r_ladd o dX10_findTogether_84 ?_
            refine r_lstore o (lv' := [(6, .long ((tgs (tgc af bf kq) (tgb bf kq) yq) + ((bf ((yq + 24 - kq) % 24)).toInt64))), (4, .long ((tgs (tgc af bf kq) (tga af) yq) + ((af yq).toInt64))), (2, .long ((tgs (tgc af bf kq) (fun _ => 1) yq) + 1)), (16, .int (bf ((yq + 24 - kq) % 24))), (15, .int (af yq)), (0, .ref (gad G 11)), (1, .int (nI kq)), (8, .long (tgs (tgc af bf kq) (fun zy => tga af zy * tga af zy) yq)), (10, .long (tgs (tgc af bf kq) (fun zy => tgb bf kq zy * tgb bf kq zy) yq)), (12, .long (tgs (tgc af bf kq) (fun zy => tga af zy * tgb bf kq zy) yq)), (14, .int (nI yq))]) dX10_findTogether_85 (by decide) rfl ?_
            refine r_lload o dX10_findTogether_87 7 rfl ?_
            refine r_iload o dX10_findTogether_89 4 rfl ?_
            refine r_i2l o dX10_findTogether_91 rfl ?_
            refine r_iload o dX10_findTogether_92 4 rfl ?_
            refine r_i2l o dX10_findTogether_94 rfl ?_
            refine r_lmul o dX10_findTogether_95 ?_
            refine r_ladd o dX10_findTogether_96 ?_
            refine r_lstore o (lv' := [(8, .long ((tgs (tgc af bf kq) (fun zy => tga af zy * tga af zy) yq) + (((af yq).toInt64) * ((af yq).toInt64)))), (6, .long ((tgs (tgc af bf kq) (tgb bf kq) yq) + ((bf ((yq + 24 - kq) % 24)).toInt64))), (4, .long ((tgs (tgc af bf kq) (tga af) yq) + ((af yq).toInt64))), (2, .long ((tgs (tgc af bf kq) (fun _ => 1) yq) + 1)), (16, .int (bf ((yq + 24 - kq) % 24))), (15, .int (af yq)), (0, .ref (gad G 11)), (1, .int (nI kq)), (10, .long (tgs (tgc af bf kq) (fun zy => tgb bf kq zy * tgb bf kq zy) yq)), (12, .long (tgs (tgc af bf kq) (fun zy => tga af zy * tgb bf kq zy) yq)), (14, .int (nI yq))]) dX10_findTogether_97 (by decide) rfl ?_
            refine r_lload o dX10_findTogether_99 8 rfl ?_
            refine r_iload o dX10_findTogether_101 4 rfl ?_
            refine r_i2l o dX10_findTogether_103 rfl ?_
            refine r_iload o dX10_findTogether_104 4 rfl ?_
            refine r_i2l o dX10_findTogether_106 rfl ?_
            refine r_lmul o dX10_findTogether_107 ?_
            refine r_ladd o dX10_findTogether_108 ?_
            refine r_lstore o (lv' := [(10, .long ((tgs (tgc af bf kq) (fun zy => tgb bf kq zy * tgb bf kq zy) yq) + (((bf ((yq + 24 - kq) % 24)).toInt64) * ((bf ((yq + 24 - kq) % 24)).toInt64)))), (8, .long ((tgs (tgc af bf kq) (fun zy => tga af zy * tga af zy) yq) + (((af yq).toInt64) * ((af yq).toInt64)))), (6, .long ((tgs (tgc af bf kq) (tgb bf kq) yq) + ((bf ((yq + 24 - kq) % 24)).toInt64))), (4, .long ((tgs (tgc af bf kq) (tga af) yq) + ((af yq).toInt64))), (2, .long ((tgs (tgc af bf kq) (fun _ => 1) yq) + 1)), (16, .int (bf ((yq + 24 - kq) % 24))), (15, .int (af yq)), (0, .ref (gad G 11)), (1, .int (nI kq)), (12, .long (tgs (tgc af bf kq) (fun zy => tga af zy * tgb bf kq zy) yq)), (14, .int (nI yq))]) dX10_findTogether_109 (by decide) rfl ?_
            refine r_lload o dX10_findTogether_111 9 rfl ?_
            refine r_iload o dX10_findTogether_113 6 rfl ?_
            refine r_i2l o dX10_findTogether_115 rfl ?_
            refine r_iload o dX10_findTogether_116 5 rfl ?_
            refine r_i2l o dX10_findTogether_118 rfl ?_
            refine r_lmul o dX10_findTogether_119 ?_
            refine r_ladd o dX10_findTogether_120 ?_
            refine r_lstore o (lv' := [(12, .long ((tgs (tgc af bf kq) (fun zy => tga af zy * tgb bf kq zy) yq) + (((af yq).toInt64) * ((bf ((yq + 24 - kq) % 24)).toInt64)))), (10, .long ((tgs (tgc af bf kq) (fun zy => tgb bf kq zy * tgb bf kq zy) yq) + (((bf ((yq + 24 - kq) % 24)).toInt64) * ((bf ((yq + 24 - kq) % 24)).toInt64)))), (8, .long ((tgs (tgc af bf kq) (fun zy => tga af zy * tga af zy) yq) + (((af yq).toInt64) * ((af yq).toInt64)))), (6, .long ((tgs (tgc af bf kq) (tgb bf kq) yq) + ((bf ((yq + 24 - kq) % 24)).toInt64))), (4, .long ((tgs (tgc af bf kq) (tga af) yq) + ((af yq).toInt64))), (2, .long ((tgs (tgc af bf kq) (fun _ => 1) yq) + 1)), (16, .int (bf ((yq + 24 - kq) % 24))), (15, .int (af yq)), (0, .ref (gad G 11)), (1, .int (nI kq)), (14, .int (nI yq))]) dX10_findTogether_121 (by decide) rfl ?_
            refine r_lv (lv' := [(12, .long ((tgs (tgc af bf kq) (fun zy => tga af zy * tgb bf kq zy) yq) + (((af yq).toInt64) * ((bf ((yq + 24 - kq) % 24)).toInt64)))), (10, .long ((tgs (tgc af bf kq) (fun zy => tgb bf kq zy * tgb bf kq zy) yq) + (((bf ((yq + 24 - kq) % 24)).toInt64) * ((bf ((yq + 24 - kq) % 24)).toInt64)))), (8, .long ((tgs (tgc af bf kq) (fun zy => tga af zy * tga af zy) yq) + (((af yq).toInt64) * ((af yq).toInt64)))), (6, .long ((tgs (tgc af bf kq) (tgb bf kq) yq) + ((bf ((yq + 24 - kq) % 24)).toInt64))), (4, .long ((tgs (tgc af bf kq) (tga af) yq) + ((af yq).toInt64))), (2, .long (tgs (tgc af bf kq) (fun _ => 1) (yq + 1))), (16, .int (bf ((yq + 24 - kq) % 24))), (15, .int (af yq)), (0, .ref (gad G 11)), (1, .int (nI kq)), (14, .int (nI yq))]) (congrArg (fun zz => ([(12, .long ((tgs (tgc af bf kq) (fun zy => tga af zy * tgb bf kq zy) yq) + (((af yq).toInt64) * ((bf ((yq + 24 - kq) % 24)).toInt64)))), (10, .long ((tgs (tgc af bf kq) (fun zy => tgb bf kq zy * tgb bf kq zy) yq) + (((bf ((yq + 24 - kq) % 24)).toInt64) * ((bf ((yq + 24 - kq) % 24)).toInt64)))), (8, .long ((tgs (tgc af bf kq) (fun zy => tga af zy * tga af zy) yq) + (((af yq).toInt64) * ((af yq).toInt64)))), (6, .long ((tgs (tgc af bf kq) (tgb bf kq) yq) + ((bf ((yq + 24 - kq) % 24)).toInt64))), (4, .long ((tgs (tgc af bf kq) (tga af) yq) + ((af yq).toInt64))), (2, .long zz), (16, .int (bf ((yq + 24 - kq) % 24))), (15, .int (af yq)), (0, .ref (gad G 11)), (1, .int (nI kq)), (14, .int (nI yq))] : List (Nat × Value))) (tgs_y hcb)) ?_
            refine r_lv (lv' := [(12, .long ((tgs (tgc af bf kq) (fun zy => tga af zy * tgb bf kq zy) yq) + (((af yq).toInt64) * ((bf ((yq + 24 - kq) % 24)).toInt64)))), (10, .long ((tgs (tgc af bf kq) (fun zy => tgb bf kq zy * tgb bf kq zy) yq) + (((bf ((yq + 24 - kq) % 24)).toInt64) * ((bf ((yq + 24 - kq) % 24)).toInt64)))), (8, .long ((tgs (tgc af bf kq) (fun zy => tga af zy * tga af zy) yq) + (((af yq).toInt64) * ((af yq).toInt64)))), (6, .long ((tgs (tgc af bf kq) (tgb bf kq) yq) + ((bf ((yq + 24 - kq) % 24)).toInt64))), (4, .long (tgs (tgc af bf kq) (tga af) (yq + 1))), (2, .long (tgs (tgc af bf kq) (fun _ => 1) (yq + 1))), (16, .int (bf ((yq + 24 - kq) % 24))), (15, .int (af yq)), (0, .ref (gad G 11)), (1, .int (nI kq)), (14, .int (nI yq))]) (congrArg (fun zz => ([(12, .long ((tgs (tgc af bf kq) (fun zy => tga af zy * tgb bf kq zy) yq) + (((af yq).toInt64) * ((bf ((yq + 24 - kq) % 24)).toInt64)))), (10, .long ((tgs (tgc af bf kq) (fun zy => tgb bf kq zy * tgb bf kq zy) yq) + (((bf ((yq + 24 - kq) % 24)).toInt64) * ((bf ((yq + 24 - kq) % 24)).toInt64)))), (8, .long ((tgs (tgc af bf kq) (fun zy => tga af zy * tga af zy) yq) + (((af yq).toInt64) * ((af yq).toInt64)))), (6, .long ((tgs (tgc af bf kq) (tgb bf kq) yq) + ((bf ((yq + 24 - kq) % 24)).toInt64))), (4, .long zz), (2, .long (tgs (tgc af bf kq) (fun _ => 1) (yq + 1))), (16, .int (bf ((yq + 24 - kq) % 24))), (15, .int (af yq)), (0, .ref (gad G 11)), (1, .int (nI kq)), (14, .int (nI yq))] : List (Nat × Value))) (tgs_y hcb)) ?_
            refine r_lv (lv' := [(12, .long ((tgs (tgc af bf kq) (fun zy => tga af zy * tgb bf kq zy) yq) + (((af yq).toInt64) * ((bf ((yq + 24 - kq) % 24)).toInt64)))), (10, .long ((tgs (tgc af bf kq) (fun zy => tgb bf kq zy * tgb bf kq zy) yq) + (((bf ((yq + 24 - kq) % 24)).toInt64) * ((bf ((yq + 24 - kq) % 24)).toInt64)))), (8, .long ((tgs (tgc af bf kq) (fun zy => tga af zy * tga af zy) yq) + (((af yq).toInt64) * ((af yq).toInt64)))), (6, .long (tgs (tgc af bf kq) (tgb bf kq) (yq + 1))), (4, .long (tgs (tgc af bf kq) (tga af) (yq + 1))), (2, .long (tgs (tgc af bf kq) (fun _ => 1) (yq + 1))), (16, .int (bf ((yq + 24 - kq) % 24))), (15, .int (af yq)), (0, .ref (gad G 11)), (1, .int (nI kq)), (14, .int (nI yq))]) (congrArg (fun zz => ([(12, .long ((tgs (tgc af bf kq) (fun zy => tga af zy * tgb bf kq zy) yq) + (((af yq).toInt64) * ((bf ((yq + 24 - kq) % 24)).toInt64)))), (10, .long ((tgs (tgc af bf kq) (fun zy => tgb bf kq zy * tgb bf kq zy) yq) + (((bf ((yq + 24 - kq) % 24)).toInt64) * ((bf ((yq + 24 - kq) % 24)).toInt64)))), (8, .long ((tgs (tgc af bf kq) (fun zy => tga af zy * tga af zy) yq) + (((af yq).toInt64) * ((af yq).toInt64)))), (6, .long zz), (4, .long (tgs (tgc af bf kq) (tga af) (yq + 1))), (2, .long (tgs (tgc af bf kq) (fun _ => 1) (yq + 1))), (16, .int (bf ((yq + 24 - kq) % 24))), (15, .int (af yq)), (0, .ref (gad G 11)), (1, .int (nI kq)), (14, .int (nI yq))] : List (Nat × Value))) (tgs_y hcb)) ?_
            refine r_lv (lv' := [(12, .long ((tgs (tgc af bf kq) (fun zy => tga af zy * tgb bf kq zy) yq) + (((af yq).toInt64) * ((bf ((yq + 24 - kq) % 24)).toInt64)))), (10, .long ((tgs (tgc af bf kq) (fun zy => tgb bf kq zy * tgb bf kq zy) yq) + (((bf ((yq + 24 - kq) % 24)).toInt64) * ((bf ((yq + 24 - kq) % 24)).toInt64)))), (8, .long (tgs (tgc af bf kq) (fun zy => tga af zy * tga af zy) (yq + 1))), (6, .long (tgs (tgc af bf kq) (tgb bf kq) (yq + 1))), (4, .long (tgs (tgc af bf kq) (tga af) (yq + 1))), (2, .long (tgs (tgc af bf kq) (fun _ => 1) (yq + 1))), (16, .int (bf ((yq + 24 - kq) % 24))), (15, .int (af yq)), (0, .ref (gad G 11)), (1, .int (nI kq)), (14, .int (nI yq))]) (congrArg (fun zz => ([(12, .long ((tgs (tgc af bf kq) (fun zy => tga af zy * tgb bf kq zy) yq) + (((af yq).toInt64) * ((bf ((yq + 24 - kq) % 24)).toInt64)))), (10, .long ((tgs (tgc af bf kq) (fun zy => tgb bf kq zy * tgb bf kq zy) yq) + (((bf ((yq + 24 - kq) % 24)).toInt64) * ((bf ((yq + 24 - kq) % 24)).toInt64)))), (8, .long zz), (6, .long (tgs (tgc af bf kq) (tgb bf kq) (yq + 1))), (4, .long (tgs (tgc af bf kq) (tga af) (yq + 1))), (2, .long (tgs (tgc af bf kq) (fun _ => 1) (yq + 1))), (16, .int (bf ((yq + 24 - kq) % 24))), (15, .int (af yq)), (0, .ref (gad G 11)), (1, .int (nI kq)), (14, .int (nI yq))] : List (Nat × Value))) (tgs_y hcb)) ?_
            refine r_lv (lv' := [(12, .long ((tgs (tgc af bf kq) (fun zy => tga af zy * tgb bf kq zy) yq) + (((af yq).toInt64) * ((bf ((yq + 24 - kq) % 24)).toInt64)))), (10, .long (tgs (tgc af bf kq) (fun zy => tgb bf kq zy * tgb bf kq zy) (yq + 1))), (8, .long (tgs (tgc af bf kq) (fun zy => tga af zy * tga af zy) (yq + 1))), (6, .long (tgs (tgc af bf kq) (tgb bf kq) (yq + 1))), (4, .long (tgs (tgc af bf kq) (tga af) (yq + 1))), (2, .long (tgs (tgc af bf kq) (fun _ => 1) (yq + 1))), (16, .int (bf ((yq + 24 - kq) % 24))), (15, .int (af yq)), (0, .ref (gad G 11)), (1, .int (nI kq)), (14, .int (nI yq))]) (congrArg (fun zz => ([(12, .long ((tgs (tgc af bf kq) (fun zy => tga af zy * tgb bf kq zy) yq) + (((af yq).toInt64) * ((bf ((yq + 24 - kq) % 24)).toInt64)))), (10, .long zz), (8, .long (tgs (tgc af bf kq) (fun zy => tga af zy * tga af zy) (yq + 1))), (6, .long (tgs (tgc af bf kq) (tgb bf kq) (yq + 1))), (4, .long (tgs (tgc af bf kq) (tga af) (yq + 1))), (2, .long (tgs (tgc af bf kq) (fun _ => 1) (yq + 1))), (16, .int (bf ((yq + 24 - kq) % 24))), (15, .int (af yq)), (0, .ref (gad G 11)), (1, .int (nI kq)), (14, .int (nI yq))] : List (Nat × Value))) (tgs_y hcb)) ?_
            refine r_lv (lv' := [(12, .long (tgs (tgc af bf kq) (fun zy => tga af zy * tgb bf kq zy) (yq + 1))), (10, .long (tgs (tgc af bf kq) (fun zy => tgb bf kq zy * tgb bf kq zy) (yq + 1))), (8, .long (tgs (tgc af bf kq) (fun zy => tga af zy * tga af zy) (yq + 1))), (6, .long (tgs (tgc af bf kq) (tgb bf kq) (yq + 1))), (4, .long (tgs (tgc af bf kq) (tga af) (yq + 1))), (2, .long (tgs (tgc af bf kq) (fun _ => 1) (yq + 1))), (16, .int (bf ((yq + 24 - kq) % 24))), (15, .int (af yq)), (0, .ref (gad G 11)), (1, .int (nI kq)), (14, .int (nI yq))]) (congrArg (fun zz => ([(12, .long zz), (10, .long (tgs (tgc af bf kq) (fun zy => tgb bf kq zy * tgb bf kq zy) (yq + 1))), (8, .long (tgs (tgc af bf kq) (fun zy => tga af zy * tga af zy) (yq + 1))), (6, .long (tgs (tgc af bf kq) (tgb bf kq) (yq + 1))), (4, .long (tgs (tgc af bf kq) (tga af) (yq + 1))), (2, .long (tgs (tgc af bf kq) (fun _ => 1) (yq + 1))), (16, .int (bf ((yq + 24 - kq) % 24))), (15, .int (af yq)), (0, .ref (gad G 11)), (1, .int (nI kq)), (14, .int (nI yq))] : List (Nat × Value))) (tgs_y hcb)) ?_
            refine r_iinc o (v := nI (yq + 1)) (lv' := [(14, .int (nI (yq + 1))), (12, .long (tgs (tgc af bf kq) (fun zy => tga af zy * tgb bf kq zy) (yq + 1))), (10, .long (tgs (tgc af bf kq) (fun zy => tgb bf kq zy * tgb bf kq zy) (yq + 1))), (8, .long (tgs (tgc af bf kq) (fun zy => tga af zy * tga af zy) (yq + 1))), (6, .long (tgs (tgc af bf kq) (tgb bf kq) (yq + 1))), (4, .long (tgs (tgc af bf kq) (tga af) (yq + 1))), (2, .long (tgs (tgc af bf kq) (fun _ => 1) (yq + 1))), (16, .int (bf ((yq + 24 - kq) % 24))), (15, .int (af yq)), (0, .ref (gad G 11)), (1, .int (nI kq))]) dX10_findTogether_123 10 rfl (nI_inc _) (by decide) rfl ?_
            refine r_goto o (tgt := 20) dX10_findTogether_126 (by decide) ?_
            exact r_to rfl [9, 10, 6, 5, 4, 3, 2, 1, 0] rfl (ih20 (yq + 1) (by omega) (by omega))
  exact r_to rfl [7, 8, 6, 5, 4, 3, 2, 1, 0] rfl (L20 _ 0 (by omega) (Nat.lt_succ_self _))
set_option maxHeartbeats 4000000 in
set_option maxRecDepth 100000 in
theorem c_X10_together (l : Launch) (G : Gl) (σ : Sto) (sn : Nat → Nat) (cntq : Nat) (hp : PadM σ sn cntq) (hyb : ∀ rq, rq < 6 → BdF (yrF σ rq)) (rz : Int32) (s2z : Int32) (kz : Int32) (pz : Int32) : CtL l G yX10_together cX10_together 5 (some .long) 6 138 [.ref (gad G 11), .int rz, .int s2z, .int kz, .int pz] σ (fun r σ' => r = (if refI (inB (nI 0) (nI 5) rz && inB (nI 0) (nI 5) s2z) (inB (nI 0) (nI 23) kz && inB (nI 0) (nI 1) pz) (fltF sn cntq 21 0) = 0 then fX (tgU (dlM σ sn cntq rz.toNatClampNeg) (dlM σ sn cntq s2z.toNatClampNeg) kz.toNatClampNeg) (tgD (dlM σ sn cntq rz.toNatClampNeg) (dlM σ sn cntq s2z.toNatClampNeg) kz.toNatClampNeg) pz else LOSTq + (refI (inB (nI 0) (nI 5) rz && inB (nI 0) (nI 5) s2z) (inB (nI 0) (nI 23) kz && inB (nI 0) (nI 1) pz) (fltF sn cntq 21 0)).toInt64) ∧ keepM σ σ') := by
  refine CtL.of (by decide +kernel) (Nat.le_of_ble_eq_true rfl) (fun X o q => ?_)
  show WS X G 5 σ 0 [(0, .ref (gad G 11)), (1, .int rz), (2, .int s2z), (3, .int kz), (4, .int pz)] []
  obtain ⟨hcq, hcnt, hsg, hsn⟩ := id hp
  refine r_iload_n o dX10_together_0 1 rfl ?_
  refine r_callSI o (As := [.int rz]) (st := []) (c_X10_isRow (xl X) G σ rz) om_X10_isRow mw_779 mw_778 (by decide) rfl rfl (Nat.le_of_ble_eq_true rfl) dX10_together_1 (fun rr1 σσ1 hp1 => ?_)
  obtain ⟨hp1, hp1b⟩ := hp1; replace hp1 := Eq.symm hp1; replace hp1b := Eq.symm hp1b; subst hp1; subst hp1b
  refine r_if_eq o (tgt := 14) dX10_together_4 (by decide) (fun hb4 => ?_) (fun hb4 => ?_)
  · skip
    rw [b01_eq0] at hb4
    refine r_ldc2_w o mw_850 dX10_together_14 ?_
    exact r_lreturn o q dX10_together_17 (⟨by rw [rf_1 (by first | (rw [hb4]; rfl) | (rw [hb4, hb11]; rfl)), if_neg (by decide)]; decide, keepM_rfl⟩)
  · skip
    rw [b01_ne0] at hb4
    obtain ⟨hr1, hr2⟩ := inB_nI (n := 5) (by decide) hb4
    refine r_iload_n o dX10_together_7 2 rfl ?_
    refine r_callSI o (As := [.int s2z]) (st := []) (c_X10_isRow (xl X) G σ s2z) om_X10_isRow mw_779 mw_778 (by decide) rfl rfl (Nat.le_of_ble_eq_true rfl) dX10_together_8 (fun rr8 σσ8 hp8 => ?_)
    obtain ⟨hp8, hp8b⟩ := hp8; replace hp8 := Eq.symm hp8; replace hp8b := Eq.symm hp8b; subst hp8; subst hp8b
    refine r_if_ne o (tgt := 18) dX10_together_11 (by decide) (fun hb11 => ?_) (fun hb11 => ?_)
    · skip
      rw [b01_ne0] at hb11
      obtain ⟨hs1, hs2⟩ := inB_nI (n := 5) (by decide) hb11
      refine r_iload_n o dX10_together_18 3 rfl ?_
      refine r_callSI o (As := [.int kz]) (st := []) (c_X10_isYear (xl X) G σ kz) om_X10_isYear mw_787 mw_786 (by decide) rfl rfl (Nat.le_of_ble_eq_true rfl) dX10_together_19 (fun rr19 σσ19 hp19 => ?_)
      obtain ⟨hp19, hp19b⟩ := hp19; replace hp19 := Eq.symm hp19; replace hp19b := Eq.symm hp19b; subst hp19; subst hp19b
      refine r_if_eq o (tgt := 33) dX10_together_22 (by decide) (fun hb22 => ?_) (fun hb22 => ?_)
      · skip
        rw [b01_eq0] at hb22
        refine r_ldc2_w o mw_859 dX10_together_33 ?_
        exact r_lreturn o q dX10_together_36 (⟨by rw [rf_2 (by first | (rw [hb4]; rfl) | (rw [hb4, hb11]; rfl)) (by first | (rw [hb22]; rfl) | (rw [hb22, hb30]; rfl)), if_neg (by decide)]; decide, keepM_rfl⟩)
      · skip
        rw [b01_ne0] at hb22
        obtain ⟨ht1, ht2⟩ := inB_nI (n := 23) (by decide) hb22
        refine r_iload o dX10_together_25 4 rfl ?_
        refine r_callSI o (As := [.int pz]) (st := []) (c_X10_isPart (xl X) G σ pz) om_X10_isPart mw_857 mw_856 (by decide) rfl rfl (Nat.le_of_ble_eq_true rfl) dX10_together_27 (fun rr27 σσ27 hp27 => ?_)
        obtain ⟨hp27, hp27b⟩ := hp27; replace hp27 := Eq.symm hp27; replace hp27b := Eq.symm hp27b; subst hp27; subst hp27b
        refine r_if_ne o (tgt := 37) dX10_together_30 (by decide) (fun hb30 => ?_) (fun hb30 => ?_)
        · skip
          rw [b01_ne0] at hb30
          refine r_aload_n o dX10_together_37 0 rfl ?_
          refine r_callVI o (As := []) (st := []) (c_X10_fault (xl X) G σ sn cntq hp) om_X10_fault mw_804 mw_805 mw_827 (by decide) rfl rfl rfl (by decide) rfl rfl (Nat.le_of_ble_eq_true rfl) dX10_together_38 (fun rr38 σσ38 hp38 => ?_)
          obtain ⟨hp38, hp38b⟩ := hp38; replace hp38 := Eq.symm hp38; replace hp38b := Eq.symm hp38b; subst hp38; subst hp38b
          refine r_if_lt o (tgt := 48) dX10_together_41 (by decide) (fun hb41 => ?_) (fun hb41 => ?_)
          · skip
            have hno := flt_n hcnt hb41
            have hb1 : BdF (dlM σ sn cntq rz.toNatClampNeg) := bd_deal 21 0 (hyb _ (by omega))
            have hb2 : BdF (dlM σ sn cntq s2z.toNatClampNeg) := bd_deal 21 0 (hyb _ (by omega))
            refine r_lv (lv' := [(0, .ref (gad G 11)), (1, .int (nI rz.toNatClampNeg)), (2, .int s2z), (3, .int kz), (4, .int pz)]) (congrArg (fun zz => ([(0, .ref (gad G 11)), (1, .int zz), (2, .int s2z), (3, .int kz), (4, .int pz)] : List (Nat × Value))) (hr1)) ?_
            refine r_lv (lv' := [(0, .ref (gad G 11)), (1, .int (nI rz.toNatClampNeg)), (2, .int (nI s2z.toNatClampNeg)), (3, .int kz), (4, .int pz)]) (congrArg (fun zz => ([(0, .ref (gad G 11)), (1, .int (nI rz.toNatClampNeg)), (2, .int zz), (3, .int kz), (4, .int pz)] : List (Nat × Value))) (hs1)) ?_
            refine r_lv (lv' := [(0, .ref (gad G 11)), (1, .int (nI rz.toNatClampNeg)), (2, .int (nI s2z.toNatClampNeg)), (3, .int (nI kz.toNatClampNeg)), (4, .int pz)]) (congrArg (fun zz => ([(0, .ref (gad G 11)), (1, .int (nI rz.toNatClampNeg)), (2, .int (nI s2z.toNatClampNeg)), (3, .int zz), (4, .int pz)] : List (Nat × Value))) (ht1)) ?_
            refine r_aload_n o dX10_together_48 0 rfl ?_
            refine r_iload_n o dX10_together_49 1 rfl ?_
            refine r_iload_n o dX10_together_50 2 rfl ?_
            refine r_callVV o (As := [.int (nI rz.toNatClampNeg), .int (nI s2z.toNatClampNeg)]) (st := []) (c_X10_dealBoth (xl X) G σ sn cntq hp hyb rz.toNatClampNeg (by omega) s2z.toNatClampNeg (by omega) hno) om_X10_dealBoth mw_922 mw_29 mw_920 (by decide) rfl rfl rfl (by decide) rfl rfl (Nat.le_of_ble_eq_true rfl) dX10_together_51 (fun σσ51 hp51 => ?_)
            obtain ⟨ha8, hb8, hkp⟩ := hp51
            have htm := tm_ag ha8 hb8 kz.toNatClampNeg
            have htb := tm_bd hb1 hb2 kz.toNatClampNeg
            refine r_aload_n o dX10_together_54 0 rfl ?_
            refine r_iload_n o dX10_together_55 3 rfl ?_
            refine r_callVV o (As := [.int (nI kz.toNatClampNeg)]) (st := []) (c_X10_findTogether (xl X) G σσ51 ((σσ51 80).1) rfl ((σσ51 73).1) rfl kz.toNatClampNeg (by omega)) om_X10_findTogether mw_926 mw_30 mw_924 (by decide) rfl rfl rfl (by decide) rfl rfl (Nat.le_of_ble_eq_true rfl) dX10_together_56 (fun σσ56 hp56 => ?_)
            replace hp56 := Eq.symm hp56; subst hp56
            refine r_aload_n o dX10_together_59 0 rfl ?_
            refine gf_11_12 (σ := stl (stl σσ51 11 12 (tmU ((σσ51 80).1) ((σσ51 73).1) kz.toNatClampNeg)) 11 13 (tmD ((σσ51 80).1) ((σσ51 73).1) kz.toNatClampNeg)) o (v := tmU ((σσ51 80).1) ((σσ51 73).1) kz.toNatClampNeg) rfl mw_710 dX10_together_60 ?_
            refine r_aload_n o dX10_together_63 0 rfl ?_
            refine gf_11_13 (σ := stl (stl σσ51 11 12 (tmU ((σσ51 80).1) ((σσ51 73).1) kz.toNatClampNeg)) 11 13 (tmD ((σσ51 80).1) ((σσ51 73).1) kz.toNatClampNeg)) o (v := tmD ((σσ51 80).1) ((σσ51 73).1) kz.toNatClampNeg) rfl mw_711 dX10_together_64 ?_
            refine r_iload o dX10_together_67 4 rfl ?_
            refine r_callSL o (As := [.long (tmU ((σσ51 80).1) ((σσ51 73).1) kz.toNatClampNeg), .long (tmD ((σσ51 80).1) ((σσ51 73).1) kz.toNatClampNeg), .int pz]) (st := []) (c_X10_lowF (xl X) G (stl (stl σσ51 11 12 (tmU ((σσ51 80).1) ((σσ51 73).1) kz.toNatClampNeg)) 11 13 (tmD ((σσ51 80).1) ((σσ51 73).1) kz.toNatClampNeg)) (tmU (σσ51 80).1 (σσ51 73).1 kz.toNatClampNeg) (tmD (σσ51 80).1 (σσ51 73).1 kz.toNatClampNeg) (by rw [htm.1]; omega) (by rw [htm.1]; omega) (by rw [htm.2]; omega) pz) om_X10_lowest mw_883 mw_882 (by decide) rfl rfl (Nat.le_of_ble_eq_true rfl) dX10_together_69 (fun rr69 σσ69 hp69 => ?_)
            obtain ⟨hp69, hp69b⟩ := hp69; replace hp69 := Eq.symm hp69; replace hp69b := Eq.symm hp69b; subst hp69; subst hp69b
            exact r_lreturn o q dX10_together_72 (⟨by rw [rf_0 (by first | (rw [hb4]; rfl) | (rw [hb4, hb11]; rfl)) (by first | (rw [hb22]; rfl) | (rw [hb22, hb30]; rfl)) hno, if_pos rfl, htm.1, htm.2, fX_tm], ⟨fun cz h1 h2 => by rw [stl_ne h1, stl_ne h1]; exact hkp cz (by omega) (by omega) (by omega), fun kq _ _ _ _ => by simp only [stl, stc, if_true]; rw [hkp 11 (by decide) (by decide) (by decide)]⟩⟩)
          · skip
            have hfs := flt_s hb41
            refine r_ldc2_w o mw_860 dX10_together_44 ?_
            exact r_lreturn o q dX10_together_47 (⟨by rw [rf_5 (by first | (rw [hb4]; rfl) | (rw [hb4, hb11]; rfl)) (by first | (rw [hb22]; rfl) | (rw [hb22, hb30]; rfl)) hfs, if_neg (by decide)]; decide, keepM_rfl⟩)
        · skip
          rw [b01_eq0] at hb30
          refine r_ldc2_w o mw_859 dX10_together_33 ?_
          exact r_lreturn o q dX10_together_36 (⟨by rw [rf_2 (by first | (rw [hb4]; rfl) | (rw [hb4, hb11]; rfl)) (by first | (rw [hb22]; rfl) | (rw [hb22, hb30]; rfl)), if_neg (by decide)]; decide, keepM_rfl⟩)
    · skip
      rw [b01_eq0] at hb11
      refine r_ldc2_w o mw_850 dX10_together_14 ?_
      exact r_lreturn o q dX10_together_17 (⟨by rw [rf_1 (by first | (rw [hb4]; rfl) | (rw [hb4, hb11]; rfl)), if_neg (by decide)]; decide, keepM_rfl⟩)
set_option maxHeartbeats 4000000 in
set_option maxRecDepth 100000 in
theorem c_X10_isLess (l : Launch) (G : Gl) (σ : Sto) (aq : Nat) (bq : Nat) (cq : Nat) (dq : Nat) (ha9 : aq < 2 ^ 63) (hb9 : 0 < bq ∧ bq < 2 ^ 63) (hc9 : cq < 2 ^ 63) (hd9 : 0 < dq ∧ dq < 2 ^ 63) : CtI l G yX10_isLess cX10_isLess 21 (some .boolean) 0 0 [.long (lN aq), .long (lN bq), .long (lN cq), .long (lN dq)] σ (fun r σ' => r = b01 (decide (aq * dq < cq * bq)) ∧ σ' = σ) := by
  refine CtI.of (by decide +kernel) (Nat.le_of_ble_eq_true rfl) (fun X o q => ?_)
  show WS X G 21 σ 0 [(0, .long (lN aq)), (2, .long (lN bq)), (4, .long (lN cq)), (6, .long (lN dq))] []
  refine r_lload_n o dX10_isLess_0 0 rfl ?_
  refine r_lstore o (lv' := [(8, .long (lN aq)), (0, .long (lN aq)), (2, .long (lN bq)), (4, .long (lN cq)), (6, .long (lN dq))]) dX10_isLess_1 (by decide) rfl ?_
  refine r_lload_n o dX10_isLess_3 2 rfl ?_
  refine r_lstore o (lv' := [(10, .long (lN bq)), (8, .long (lN aq)), (0, .long (lN aq)), (2, .long (lN bq)), (4, .long (lN cq)), (6, .long (lN dq))]) dX10_isLess_4 (by decide) rfl ?_
  refine r_lload o dX10_isLess_6 4 rfl ?_
  refine r_lstore o (lv' := [(12, .long (lN cq)), (10, .long (lN bq)), (8, .long (lN aq)), (0, .long (lN aq)), (2, .long (lN bq)), (4, .long (lN cq)), (6, .long (lN dq))]) dX10_isLess_8 (by decide) rfl ?_
  refine r_lload o dX10_isLess_10 6 rfl ?_
  refine r_lstore o (lv' := [(14, .long (lN dq)), (12, .long (lN cq)), (10, .long (lN bq)), (8, .long (lN aq)), (0, .long (lN aq)), (2, .long (lN bq)), (4, .long (lN cq)), (6, .long (lN dq))]) dX10_isLess_12 (by decide) rfl ?_
  refine r_iconst o (v := nI 0) dX10_isLess_14 (by decide) ?_
  refine r_istore o (lv' := [(16, .int (nI 0)), (14, .long (lN dq)), (12, .long (lN cq)), (10, .long (lN bq)), (8, .long (lN aq)), (0, .long (lN aq)), (2, .long (lN bq)), (4, .long (lN cq)), (6, .long (lN dq))]) dX10_isLess_15 (by decide) rfl ?_
  have L17 : ∀ (n : Nat) (pn : Nat) (qn : Nat) (rn : Nat) (sn2 : Nat) (tz : Bool) (hpn : pn < 2 ^ 63) (hqn : 0 < qn ∧ qn < 2 ^ 63) (hrn : rn < 2 ^ 63) (hsn : 0 < sn2 ∧ sn2 < 2 ^ 63) (hiv : (aq * dq < cq * bq) ↔ lsI tz pn qn rn sn2), qn < n → WS X G 21 σ 17 [(0, .long (lN aq)), (2, .long (lN bq)), (4, .long (lN cq)), (6, .long (lN dq)), (8, .long (lN pn)), (10, .long (lN qn)), (12, .long (lN rn)), (14, .long (lN sn2)), (16, .int (b01 tz))] [] := by
    intro n
    induction n with
    | zero => intro pn qn rn sn2 tz hpn hqn hrn hsn hiv hm; exact absurd hm (Nat.not_lt_zero _)
    | succ n ih17 =>
      intro pn qn rn sn2 tz hpn hqn hrn hsn hiv hm
      have hd1 : pn / qn < 2 ^ 63 := Nat.lt_of_le_of_lt (Nat.div_le_self _ _) hpn
      have hd2 : rn / sn2 < 2 ^ 63 := Nat.lt_of_le_of_lt (Nat.div_le_self _ _) hrn
      have hm1 := Nat.mod_lt pn hqn.1
      have hm2 := Nat.mod_lt rn hsn.1
      have hz1 : lN pn / lN qn = lN (pn / qn) := pk_lDiv hpn hqn.1 hqn.2
      have hz2 : lN rn / lN sn2 = lN (rn / sn2) := pk_lDiv hrn hsn.1 hsn.2
      have hy1 : lrm (lN pn) (lN qn) = lN (pn % qn) := pk_lRem hpn hqn.1 hqn.2
      have hy2 : lrm (lN rn) (lN sn2) = lN (rn % sn2) := pk_lRem hrn hsn.1 hsn.2
      have J220 : WS X G 21 σ 220 [(0, .long (lN aq)), (2, .long (lN bq)), (4, .long (lN cq)), (6, .long (lN dq)), (8, .long (lN pn)), (10, .long (lN qn)), (12, .long (lN rn)), (14, .long (lN sn2)), (16, .int (b01 tz)), (17, .int (b01 (decide (pn * sn2 < rn * qn))))] [.int (b01 (decide (rn * qn < pn * sn2)))] := by
        refine r_istore o (lv' := [(18, .int (b01 (decide (rn * qn < pn * sn2)))), (0, .long (lN aq)), (2, .long (lN bq)), (4, .long (lN cq)), (6, .long (lN dq)), (8, .long (lN pn)), (10, .long (lN qn)), (12, .long (lN rn)), (14, .long (lN sn2)), (16, .int (b01 tz)), (17, .int (b01 (decide (pn * sn2 < rn * qn))))]) dX10_isLess_220 (by decide) rfl ?_
        refine r_iload o dX10_isLess_222 9 rfl ?_
        refine r_if_eq o (tgt := 232) dX10_isLess_224 (by decide) (fun hb224 => ?_) (fun hb224 => ?_)
        · skip
          rw [b01_eq0] at hb224
          refine r_iload o dX10_isLess_232 10 rfl ?_
          exact r_zreturn o q (b01_n _) dX10_isLess_234 (⟨congrArg b01 (by rw [decide_eq_decide, hiv]; unfold lsI; first | rw [if_pos hb224] | rw [if_neg (by rw [hb224]; decide)]), rfl⟩)
        · skip
          rw [b01_ne0] at hb224
          refine r_iload o dX10_isLess_227 0 rfl ?_
          refine r_goto o (tgt := 234) dX10_isLess_229 (by decide) ?_
          exact r_zreturn o q (b01_n _) dX10_isLess_234 (⟨congrArg b01 (by rw [decide_eq_decide, hiv]; unfold lsI; first | rw [if_pos hb224] | rw [if_neg (by rw [hb224]; decide)]), rfl⟩)
      have J157 : (hx9 : ¬ pn / qn = rn / sn2 ∨ pn % qn = 0 ∨ rn % sn2 = 0) → WS X G 21 σ 157 [(0, .long (lN aq)), (2, .long (lN bq)), (4, .long (lN cq)), (6, .long (lN dq)), (8, .long (lN pn)), (10, .long (lN qn)), (12, .long (lN rn)), (14, .long (lN sn2)), (16, .int (b01 tz))] [.int (b01 (decide (pn * sn2 < rn * qn)))] := by
        intro hx9
        refine r_istore o (lv' := [(17, .int (b01 (decide (pn * sn2 < rn * qn)))), (0, .long (lN aq)), (2, .long (lN bq)), (4, .long (lN cq)), (6, .long (lN dq)), (8, .long (lN pn)), (10, .long (lN qn)), (12, .long (lN rn)), (14, .long (lN sn2)), (16, .int (b01 tz))]) dX10_isLess_157 (by decide) rfl ?_
        refine r_lload o dX10_isLess_159 5 rfl ?_
        refine r_lload o dX10_isLess_161 6 rfl ?_
        refine r_ldiv o dX10_isLess_163 (lN_ne hqn.1 hqn.2) ?_
        refine r_topl (y := lN (pn / qn)) hz1 ?_
        refine r_lload o dX10_isLess_164 7 rfl ?_
        refine r_lload o dX10_isLess_166 8 rfl ?_
        refine r_ldiv o dX10_isLess_168 (lN_ne hsn.1 hsn.2) ?_
        refine r_topl (y := lN (rn / sn2)) hz2 ?_
        refine r_lcmp o dX10_isLess_169 ?_
        refine r_if_eq o (tgt := 195) dX10_isLess_170 (by decide) (fun hb170 => ?_) (fun hb170 => ?_)
        · skip
          rw [lg_cmp_eq] at hb170
          rw [lNe hd1 hd2] at hb170
          refine r_lload o dX10_isLess_195 5 rfl ?_
          refine r_lload o dX10_isLess_197 6 rfl ?_
          refine r_lrem o dX10_isLess_199 (lN_ne hqn.1 hqn.2) ?_
          refine r_topl (y := lrm (lN pn) (lN qn)) rfl ?_
          refine r_topl (y := lN (pn % qn)) hy1 ?_
          refine r_lconst o (v := 0) dX10_isLess_200 rfl ?_
          refine r_lcmp o dX10_isLess_201 ?_
          refine r_if_eq o (tgt := 219) dX10_isLess_202 (by decide) (fun hb202 => ?_) (fun hb202 => ?_)
          · skip
            rw [lg_cmp_eq] at hb202
            rw [show ((lN (pn % qn) = 0) ↔ pn % qn = 0) from lNe (by omega) (show 0 < 2 ^ 63 by decide)] at hb202
            refine r_iconst o (v := nI 0) dX10_isLess_219 (by decide) ?_
            refine r_topi (y := b01 (decide (rn * qn < pn * sn2))) (b01_f' (decide_eq_false (by first | exact fun zq => absurd ((lt_a hsn.1 hqn.1 (fun zz => hb170 zz.symm)).mp zq) (by omega) | exact lt_c hb170.symm hb202 | (exfalso; rcases hx9 with zq | zq | zq; exact zq hb170; exact hb202 zq; exact hb212 zq)))) ?_
            exact r_to rfl [1, 2, 3, 4, 5, 6, 7, 8, 9, 0] rfl J220
          · skip
            rw [lg_cmp_eq] at hb202
            rw [show ((lN (pn % qn) = 0) ↔ pn % qn = 0) from lNe (by omega) (show 0 < 2 ^ 63 by decide)] at hb202
            refine r_lload o dX10_isLess_205 7 rfl ?_
            refine r_lload o dX10_isLess_207 8 rfl ?_
            refine r_lrem o dX10_isLess_209 (lN_ne hsn.1 hsn.2) ?_
            refine r_topl (y := lrm (lN rn) (lN sn2)) rfl ?_
            refine r_topl (y := lN (rn % sn2)) hy2 ?_
            refine r_lconst o (v := 0) dX10_isLess_210 rfl ?_
            refine r_lcmp o dX10_isLess_211 ?_
            refine r_if_ne o (tgt := 219) dX10_isLess_212 (by decide) (fun hb212 => ?_) (fun hb212 => ?_)
            · skip
              rw [lg_cmp_eq] at hb212
              rw [show ((lN (rn % sn2) = 0) ↔ rn % sn2 = 0) from lNe (by omega) (show 0 < 2 ^ 63 by decide)] at hb212
              refine r_iconst o (v := nI 0) dX10_isLess_219 (by decide) ?_
              refine r_topi (y := b01 (decide (rn * qn < pn * sn2))) (b01_f' (decide_eq_false (by first | exact fun zq => absurd ((lt_a hsn.1 hqn.1 (fun zz => hb170 zz.symm)).mp zq) (by omega) | exact lt_c hb170.symm hb202 | (exfalso; rcases hx9 with zq | zq | zq; exact zq hb170; exact hb202 zq; exact hb212 zq)))) ?_
              exact r_to rfl [1, 2, 3, 4, 5, 6, 7, 8, 9, 0] rfl J220
            · skip
              rw [lg_cmp_eq] at hb212
              rw [show ((lN (rn % sn2) = 0) ↔ rn % sn2 = 0) from lNe (by omega) (show 0 < 2 ^ 63 by decide)] at hb212
              refine r_iconst o (v := nI 1) dX10_isLess_215 (by decide) ?_
              refine r_goto o (tgt := 220) dX10_isLess_216 (by decide) ?_
              refine r_topi (y := b01 (decide (rn * qn < pn * sn2))) (b01_t' (decide_eq_true (by first | exact (lt_a hsn.1 hqn.1 (fun zq => hb170 zq.symm)).mpr (by omega) | exact (lt_b hsn.1 hb170.symm hb212).mpr hb202))) ?_
              exact r_to rfl [1, 2, 3, 4, 5, 6, 7, 8, 9, 0] rfl J220
        · skip
          rw [lg_cmp_eq] at hb170
          rw [lNe hd1 hd2] at hb170
          refine r_lload o dX10_isLess_173 5 rfl ?_
          refine r_lload o dX10_isLess_175 6 rfl ?_
          refine r_ldiv o dX10_isLess_177 (lN_ne hqn.1 hqn.2) ?_
          refine r_topl (y := lN (pn / qn)) hz1 ?_
          refine r_lload o dX10_isLess_178 7 rfl ?_
          refine r_lload o dX10_isLess_180 8 rfl ?_
          refine r_ldiv o dX10_isLess_182 (lN_ne hsn.1 hsn.2) ?_
          refine r_topl (y := lN (rn / sn2)) hz2 ?_
          refine r_lcmp o dX10_isLess_183 ?_
          refine r_if_le o (tgt := 191) dX10_isLess_184 (by decide) (fun hb184 => ?_) (fun hb184 => ?_)
          · skip
            rw [lg_cmp_le] at hb184
            rw [lNle hd1 hd2] at hb184
            refine r_iconst o (v := nI 0) dX10_isLess_191 (by decide) ?_
            refine r_goto o (tgt := 220) dX10_isLess_192 (by decide) ?_
            refine r_topi (y := b01 (decide (rn * qn < pn * sn2))) (b01_f' (decide_eq_false (by first | exact fun zq => absurd ((lt_a hsn.1 hqn.1 (fun zz => hb170 zz.symm)).mp zq) (by omega) | exact lt_c hb170.symm hb202 | (exfalso; rcases hx9 with zq | zq | zq; exact zq hb170; exact hb202 zq; exact hb212 zq)))) ?_
            exact r_to rfl [1, 2, 3, 4, 5, 6, 7, 8, 9, 0] rfl J220
          · skip
            rw [lg_cmp_le] at hb184
            rw [lNle hd1 hd2] at hb184
            refine r_iconst o (v := nI 1) dX10_isLess_187 (by decide) ?_
            refine r_goto o (tgt := 220) dX10_isLess_188 (by decide) ?_
            refine r_topi (y := b01 (decide (rn * qn < pn * sn2))) (b01_t' (decide_eq_true (by first | exact (lt_a hsn.1 hqn.1 (fun zq => hb170 zq.symm)).mpr (by omega) | exact (lt_b hsn.1 hb170.symm hb212).mpr hb202))) ?_
            exact r_to rfl [1, 2, 3, 4, 5, 6, 7, 8, 9, 0] rfl J220
      have J96 : (hx9 : ¬ pn / qn = rn / sn2 ∨ pn % qn = 0 ∨ rn % sn2 = 0) → WS X G 21 σ 96 [(0, .long (lN aq)), (2, .long (lN bq)), (4, .long (lN cq)), (6, .long (lN dq)), (8, .long (lN pn)), (10, .long (lN qn)), (12, .long (lN rn)), (14, .long (lN sn2)), (16, .int (b01 tz))] [] := by
        intro hx9
        refine r_lload o dX10_isLess_96 4 rfl ?_
        refine r_lload o dX10_isLess_98 5 rfl ?_
        refine r_ldiv o dX10_isLess_100 (lN_ne hqn.1 hqn.2) ?_
        refine r_topl (y := lN (pn / qn)) hz1 ?_
        refine r_lload o dX10_isLess_101 6 rfl ?_
        refine r_lload o dX10_isLess_103 7 rfl ?_
        refine r_ldiv o dX10_isLess_105 (lN_ne hsn.1 hsn.2) ?_
        refine r_topl (y := lN (rn / sn2)) hz2 ?_
        refine r_lcmp o dX10_isLess_106 ?_
        refine r_if_eq o (tgt := 132) dX10_isLess_107 (by decide) (fun hb107 => ?_) (fun hb107 => ?_)
        · skip
          rw [lg_cmp_eq] at hb107
          rw [lNe hd1 hd2] at hb107
          refine r_lload o dX10_isLess_132 4 rfl ?_
          refine r_lload o dX10_isLess_134 5 rfl ?_
          refine r_lrem o dX10_isLess_136 (lN_ne hqn.1 hqn.2) ?_
          refine r_topl (y := lrm (lN pn) (lN qn)) rfl ?_
          refine r_topl (y := lN (pn % qn)) hy1 ?_
          refine r_lconst o (v := 0) dX10_isLess_137 rfl ?_
          refine r_lcmp o dX10_isLess_138 ?_
          refine r_if_ne o (tgt := 156) dX10_isLess_139 (by decide) (fun hb139 => ?_) (fun hb139 => ?_)
          · skip
            rw [lg_cmp_eq] at hb139
            rw [show ((lN (pn % qn) = 0) ↔ pn % qn = 0) from lNe (by omega) (show 0 < 2 ^ 63 by decide)] at hb139
            refine r_iconst o (v := nI 0) dX10_isLess_156 (by decide) ?_
            refine r_topi (y := b01 (decide (pn * sn2 < rn * qn))) (b01_f' (decide_eq_false (by first | exact fun zq => absurd ((lt_a hqn.1 hsn.1 hb107).mp zq) (by omega) | exact lt_c hb107 hb149 | exact lt_c hb107 (by rcases hx9 with zq | zq | zq; exact absurd hb107 zq; exact absurd zq hb139; exact zq)))) ?_
            exact r_to rfl [0, 1, 2, 3, 4, 5, 6, 7, 8] rfl (J157 (by first | exact hx9 | exact Or.inl hb28 | exact Or.inr (Or.inl hb38) | exact Or.inr (Or.inr hb48)))
          · skip
            rw [lg_cmp_eq] at hb139
            rw [show ((lN (pn % qn) = 0) ↔ pn % qn = 0) from lNe (by omega) (show 0 < 2 ^ 63 by decide)] at hb139
            refine r_lload o dX10_isLess_142 6 rfl ?_
            refine r_lload o dX10_isLess_144 7 rfl ?_
            refine r_lrem o dX10_isLess_146 (lN_ne hsn.1 hsn.2) ?_
            refine r_topl (y := lrm (lN rn) (lN sn2)) rfl ?_
            refine r_topl (y := lN (rn % sn2)) hy2 ?_
            refine r_lconst o (v := 0) dX10_isLess_147 rfl ?_
            refine r_lcmp o dX10_isLess_148 ?_
            refine r_if_eq o (tgt := 156) dX10_isLess_149 (by decide) (fun hb149 => ?_) (fun hb149 => ?_)
            · skip
              rw [lg_cmp_eq] at hb149
              rw [show ((lN (rn % sn2) = 0) ↔ rn % sn2 = 0) from lNe (by omega) (show 0 < 2 ^ 63 by decide)] at hb149
              refine r_iconst o (v := nI 0) dX10_isLess_156 (by decide) ?_
              refine r_topi (y := b01 (decide (pn * sn2 < rn * qn))) (b01_f' (decide_eq_false (by first | exact fun zq => absurd ((lt_a hqn.1 hsn.1 hb107).mp zq) (by omega) | exact lt_c hb107 hb149 | exact lt_c hb107 (by rcases hx9 with zq | zq | zq; exact absurd hb107 zq; exact absurd zq hb139; exact zq)))) ?_
              exact r_to rfl [0, 1, 2, 3, 4, 5, 6, 7, 8] rfl (J157 (by first | exact hx9 | exact Or.inl hb28 | exact Or.inr (Or.inl hb38) | exact Or.inr (Or.inr hb48)))
            · skip
              rw [lg_cmp_eq] at hb149
              rw [show ((lN (rn % sn2) = 0) ↔ rn % sn2 = 0) from lNe (by omega) (show 0 < 2 ^ 63 by decide)] at hb149
              refine r_iconst o (v := nI 1) dX10_isLess_152 (by decide) ?_
              refine r_goto o (tgt := 157) dX10_isLess_153 (by decide) ?_
              refine r_topi (y := b01 (decide (pn * sn2 < rn * qn))) (b01_t' (decide_eq_true (by first | exact (lt_a hqn.1 hsn.1 hb107).mpr (by omega) | exact (lt_b hqn.1 hb107 hb139).mpr hb149))) ?_
              exact r_to rfl [0, 1, 2, 3, 4, 5, 6, 7, 8] rfl (J157 (by first | exact hx9 | exact Or.inl hb28 | exact Or.inr (Or.inl hb38) | exact Or.inr (Or.inr hb48)))
        · skip
          rw [lg_cmp_eq] at hb107
          rw [lNe hd1 hd2] at hb107
          refine r_lload o dX10_isLess_110 4 rfl ?_
          refine r_lload o dX10_isLess_112 5 rfl ?_
          refine r_ldiv o dX10_isLess_114 (lN_ne hqn.1 hqn.2) ?_
          refine r_topl (y := lN (pn / qn)) hz1 ?_
          refine r_lload o dX10_isLess_115 6 rfl ?_
          refine r_lload o dX10_isLess_117 7 rfl ?_
          refine r_ldiv o dX10_isLess_119 (lN_ne hsn.1 hsn.2) ?_
          refine r_topl (y := lN (rn / sn2)) hz2 ?_
          refine r_lcmp o dX10_isLess_120 ?_
          refine r_if_ge o (tgt := 128) dX10_isLess_121 (by decide) (fun hb121 => ?_) (fun hb121 => ?_)
          · skip
            rw [lg_cmp_ge] at hb121
            rw [lNle hd2 hd1] at hb121
            refine r_iconst o (v := nI 0) dX10_isLess_128 (by decide) ?_
            refine r_goto o (tgt := 157) dX10_isLess_129 (by decide) ?_
            refine r_topi (y := b01 (decide (pn * sn2 < rn * qn))) (b01_f' (decide_eq_false (by first | exact fun zq => absurd ((lt_a hqn.1 hsn.1 hb107).mp zq) (by omega) | exact lt_c hb107 hb149 | exact lt_c hb107 (by rcases hx9 with zq | zq | zq; exact absurd hb107 zq; exact absurd zq hb139; exact zq)))) ?_
            exact r_to rfl [0, 1, 2, 3, 4, 5, 6, 7, 8] rfl (J157 (by first | exact hx9 | exact Or.inl hb28 | exact Or.inr (Or.inl hb38) | exact Or.inr (Or.inr hb48)))
          · skip
            rw [lg_cmp_ge] at hb121
            rw [lNle hd2 hd1] at hb121
            refine r_iconst o (v := nI 1) dX10_isLess_124 (by decide) ?_
            refine r_goto o (tgt := 157) dX10_isLess_125 (by decide) ?_
            refine r_topi (y := b01 (decide (pn * sn2 < rn * qn))) (b01_t' (decide_eq_true (by first | exact (lt_a hqn.1 hsn.1 hb107).mpr (by omega) | exact (lt_b hqn.1 hb107 hb139).mpr hb149))) ?_
            exact r_to rfl [0, 1, 2, 3, 4, 5, 6, 7, 8] rfl (J157 (by first | exact hx9 | exact Or.inl hb28 | exact Or.inr (Or.inl hb38) | exact Or.inr (Or.inr hb48)))
      refine r_lload o dX10_isLess_17 4 rfl ?_
      refine r_lload o dX10_isLess_19 5 rfl ?_
      refine r_ldiv o dX10_isLess_21 (lN_ne hqn.1 hqn.2) ?_
      refine r_topl (y := lN (pn / qn)) hz1 ?_
      refine r_lload o dX10_isLess_22 6 rfl ?_
      refine r_lload o dX10_isLess_24 7 rfl ?_
      refine r_ldiv o dX10_isLess_26 (lN_ne hsn.1 hsn.2) ?_
      refine r_topl (y := lN (rn / sn2)) hz2 ?_
      refine r_lcmp o dX10_isLess_27 ?_
      refine r_if_ne o (tgt := 96) dX10_isLess_28 (by decide) (fun hb28 => ?_) (fun hb28 => ?_)
      · skip
        rw [lg_cmp_eq] at hb28
        rw [lNe hd1 hd2] at hb28
        exact r_to rfl [0, 1, 2, 3, 4, 5, 6, 7, 8] rfl (J96 (by first | exact hx9 | exact Or.inl hb28 | exact Or.inr (Or.inl hb38) | exact Or.inr (Or.inr hb48)))
      · skip
        rw [lg_cmp_eq] at hb28
        rw [lNe hd1 hd2] at hb28
        refine r_lload o dX10_isLess_31 4 rfl ?_
        refine r_lload o dX10_isLess_33 5 rfl ?_
        refine r_lrem o dX10_isLess_35 (lN_ne hqn.1 hqn.2) ?_
        refine r_topl (y := lrm (lN pn) (lN qn)) rfl ?_
        refine r_topl (y := lN (pn % qn)) hy1 ?_
        refine r_lconst o (v := 0) dX10_isLess_36 rfl ?_
        refine r_lcmp o dX10_isLess_37 ?_
        refine r_if_eq o (tgt := 96) dX10_isLess_38 (by decide) (fun hb38 => ?_) (fun hb38 => ?_)
        · skip
          rw [lg_cmp_eq] at hb38
          rw [show ((lN (pn % qn) = 0) ↔ pn % qn = 0) from lNe (by omega) (show 0 < 2 ^ 63 by decide)] at hb38
          exact r_to rfl [0, 1, 2, 3, 4, 5, 6, 7, 8] rfl (J96 (by first | exact hx9 | exact Or.inl hb28 | exact Or.inr (Or.inl hb38) | exact Or.inr (Or.inr hb48)))
        · skip
          rw [lg_cmp_eq] at hb38
          rw [show ((lN (pn % qn) = 0) ↔ pn % qn = 0) from lNe (by omega) (show 0 < 2 ^ 63 by decide)] at hb38
          refine r_lload o dX10_isLess_41 6 rfl ?_
          refine r_lload o dX10_isLess_43 7 rfl ?_
          refine r_lrem o dX10_isLess_45 (lN_ne hsn.1 hsn.2) ?_
          refine r_topl (y := lrm (lN rn) (lN sn2)) rfl ?_
          refine r_topl (y := lN (rn % sn2)) hy2 ?_
          refine r_lconst o (v := 0) dX10_isLess_46 rfl ?_
          refine r_lcmp o dX10_isLess_47 ?_
          refine r_if_eq o (tgt := 96) dX10_isLess_48 (by decide) (fun hb48 => ?_) (fun hb48 => ?_)
          · skip
            rw [lg_cmp_eq] at hb48
            rw [show ((lN (rn % sn2) = 0) ↔ rn % sn2 = 0) from lNe (by omega) (show 0 < 2 ^ 63 by decide)] at hb48
            exact r_to rfl [0, 1, 2, 3, 4, 5, 6, 7, 8] rfl (J96 (by first | exact hx9 | exact Or.inl hb28 | exact Or.inr (Or.inl hb38) | exact Or.inr (Or.inr hb48)))
          · skip
            rw [lg_cmp_eq] at hb48
            rw [show ((lN (rn % sn2) = 0) ↔ rn % sn2 = 0) from lNe (by omega) (show 0 < 2 ^ 63 by decide)] at hb48
            refine r_lload o dX10_isLess_51 4 rfl ?_
            refine r_lload o dX10_isLess_53 5 rfl ?_
            refine r_lrem o dX10_isLess_55 (lN_ne hqn.1 hqn.2) ?_
            refine r_topl (y := lrm (lN pn) (lN qn)) rfl ?_
            refine r_topl (y := lN (pn % qn)) hy1 ?_
            refine r_lstore o (lv' := [(17, .long (lN (pn % qn))), (0, .long (lN aq)), (2, .long (lN bq)), (4, .long (lN cq)), (6, .long (lN dq)), (8, .long (lN pn)), (10, .long (lN qn)), (12, .long (lN rn)), (14, .long (lN sn2)), (16, .int (b01 tz))]) dX10_isLess_56 (by decide) rfl ?_
            refine r_lload o dX10_isLess_58 7 rfl ?_
            refine r_lload o dX10_isLess_60 8 rfl ?_
            refine r_lrem o dX10_isLess_62 (lN_ne hsn.1 hsn.2) ?_
            refine r_topl (y := lrm (lN rn) (lN sn2)) rfl ?_
            refine r_topl (y := lN (rn % sn2)) hy2 ?_
            refine r_lstore o (lv' := [(19, .long (lN (rn % sn2))), (17, .long (lN (pn % qn))), (0, .long (lN aq)), (2, .long (lN bq)), (4, .long (lN cq)), (6, .long (lN dq)), (8, .long (lN pn)), (10, .long (lN qn)), (12, .long (lN rn)), (14, .long (lN sn2)), (16, .int (b01 tz))]) dX10_isLess_63 (by decide) rfl ?_
            refine r_lload o dX10_isLess_65 7 rfl ?_
            refine r_lstore o (lv' := [(8, .long (lN qn)), (19, .long (lN (rn % sn2))), (17, .long (lN (pn % qn))), (0, .long (lN aq)), (2, .long (lN bq)), (4, .long (lN cq)), (6, .long (lN dq)), (10, .long (lN qn)), (12, .long (lN rn)), (14, .long (lN sn2)), (16, .int (b01 tz))]) dX10_isLess_67 (by decide) rfl ?_
            refine r_lload o dX10_isLess_69 2 rfl ?_
            refine r_lstore o (lv' := [(10, .long (lN (pn % qn))), (8, .long (lN qn)), (19, .long (lN (rn % sn2))), (17, .long (lN (pn % qn))), (0, .long (lN aq)), (2, .long (lN bq)), (4, .long (lN cq)), (6, .long (lN dq)), (12, .long (lN rn)), (14, .long (lN sn2)), (16, .int (b01 tz))]) dX10_isLess_71 (by decide) rfl ?_
            refine r_lload o dX10_isLess_73 9 rfl ?_
            refine r_lstore o (lv' := [(12, .long (lN sn2)), (10, .long (lN (pn % qn))), (8, .long (lN qn)), (19, .long (lN (rn % sn2))), (17, .long (lN (pn % qn))), (0, .long (lN aq)), (2, .long (lN bq)), (4, .long (lN cq)), (6, .long (lN dq)), (14, .long (lN sn2)), (16, .int (b01 tz))]) dX10_isLess_75 (by decide) rfl ?_
            refine r_lload o dX10_isLess_77 3 rfl ?_
            refine r_lstore o (lv' := [(14, .long (lN (rn % sn2))), (12, .long (lN sn2)), (10, .long (lN (pn % qn))), (8, .long (lN qn)), (19, .long (lN (rn % sn2))), (17, .long (lN (pn % qn))), (0, .long (lN aq)), (2, .long (lN bq)), (4, .long (lN cq)), (6, .long (lN dq)), (16, .int (b01 tz))]) dX10_isLess_79 (by decide) rfl ?_
            refine r_iload o dX10_isLess_81 10 rfl ?_
            refine r_if_ne o (tgt := 90) dX10_isLess_83 (by decide) (fun hb83 => ?_) (fun hb83 => ?_)
            · skip
              rw [b01_ne0] at hb83
              refine r_iconst o (v := nI 0) dX10_isLess_90 (by decide) ?_
              refine r_topi (y := b01 (!tz)) (by rw [hb83]; rfl) ?_
              refine r_istore o (lv' := [(16, .int (b01 (!tz))), (14, .long (lN (rn % sn2))), (12, .long (lN sn2)), (10, .long (lN (pn % qn))), (8, .long (lN qn)), (19, .long (lN (rn % sn2))), (17, .long (lN (pn % qn))), (0, .long (lN aq)), (2, .long (lN bq)), (4, .long (lN cq)), (6, .long (lN dq))]) dX10_isLess_91 (by decide) rfl ?_
              refine r_goto o (tgt := 17) dX10_isLess_93 (by decide) ?_
              exact r_to rfl [7, 8, 9, 10, 4, 3, 2, 1, 0] rfl (ih17 qn (pn % qn) sn2 (rn % sn2) (!tz) hqn.2 (⟨Nat.pos_of_ne_zero hb38, by omega⟩) hsn.2 (⟨Nat.pos_of_ne_zero hb48, by omega⟩) (hiv.trans (ls_step hb28)) (by omega))
            · skip
              rw [b01_eq0] at hb83
              refine r_iconst o (v := nI 1) dX10_isLess_86 (by decide) ?_
              refine r_goto o (tgt := 91) dX10_isLess_87 (by decide) ?_
              refine r_topi (y := b01 (!tz)) (by rw [hb83]; rfl) ?_
              refine r_istore o (lv' := [(16, .int (b01 (!tz))), (14, .long (lN (rn % sn2))), (12, .long (lN sn2)), (10, .long (lN (pn % qn))), (8, .long (lN qn)), (19, .long (lN (rn % sn2))), (17, .long (lN (pn % qn))), (0, .long (lN aq)), (2, .long (lN bq)), (4, .long (lN cq)), (6, .long (lN dq))]) dX10_isLess_91 (by decide) rfl ?_
              refine r_goto o (tgt := 17) dX10_isLess_93 (by decide) ?_
              exact r_to rfl [7, 8, 9, 10, 4, 3, 2, 1, 0] rfl (ih17 qn (pn % qn) sn2 (rn % sn2) (!tz) hqn.2 (⟨Nat.pos_of_ne_zero hb38, by omega⟩) hsn.2 (⟨Nat.pos_of_ne_zero hb48, by omega⟩) (hiv.trans (ls_step hb28)) (by omega))
  refine r_lv (lv' := [(16, .int (b01 false)), (14, .long (lN dq)), (12, .long (lN cq)), (10, .long (lN bq)), (8, .long (lN aq)), (0, .long (lN aq)), (2, .long (lN bq)), (4, .long (lN cq)), (6, .long (lN dq))]) (congrArg (fun zz => ([(16, .int zz), (14, .long (lN dq)), (12, .long (lN cq)), (10, .long (lN bq)), (8, .long (lN aq)), (0, .long (lN aq)), (2, .long (lN bq)), (4, .long (lN cq)), (6, .long (lN dq))] : List (Nat × Value))) (show nI 0 = b01 false from rfl)) ?_
  exact r_to rfl [5, 6, 7, 8, 4, 3, 2, 1, 0] rfl (L17 _ aq bq cq dq false ha9 hb9 hc9 hd9 Iff.rfl (Nat.lt_succ_self _))
