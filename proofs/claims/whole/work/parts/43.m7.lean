set_option maxHeartbeats 4000000 in
set_option maxRecDepth 100000 in
theorem c_X10_go (l : Launch) (G : Gl) (σ : Sto) (sn : Nat → Nat) (cntq : Nat) (hp : PadM σ sn cntq) (hyb : ∀ rq, rq < 6 → BdF (yrF σ rq)) (rz : Int32) (s2z : Int32) : CtI l G yX10_go cX10_go 9 (some .int) 6 138 [.ref (gad G 11), .int rz, .int s2z] σ (fun r σ' => r = (if refI (inB (nI 0) (nI 5) rz && inB (nI 0) (nI 5) s2z) (true) (fltF sn cntq 21 0) = 0 then nI (goM (dlM σ sn cntq rz.toNatClampNeg) (dlM σ sn cntq s2z.toNatClampNeg) 24) else refI (inB (nI 0) (nI 5) rz && inB (nI 0) (nI 5) s2z) (true) (fltF sn cntq 21 0)) ∧ keepM σ σ') := by
  refine CtI.of (by decide +kernel) (Nat.le_of_ble_eq_true rfl) (fun X o q => ?_)
  show WS X G 9 σ 0 [(0, .ref (gad G 11)), (1, .int rz), (2, .int s2z)] []
  obtain ⟨hcq, hcnt, hsg, hsn⟩ := id hp
  refine r_iload_n o dX10_go_0 1 rfl ?_
  refine r_callSI o (As := [.int rz]) (st := []) (c_X10_isRow (xl X) G σ rz) om_X10_isRow mw_779 mw_778 (by decide) rfl rfl (Nat.le_of_ble_eq_true rfl) dX10_go_1 (fun rr1 σσ1 hp1 => ?_)
  obtain ⟨hp1, hp1b⟩ := hp1; replace hp1 := Eq.symm hp1; replace hp1b := Eq.symm hp1b; subst hp1; subst hp1b
  refine r_if_eq o (tgt := 14) dX10_go_4 (by decide) (fun hb4 => ?_) (fun hb4 => ?_)
  · skip
    rw [b01_eq0] at hb4
    refine r_iconst o (v := (-1)) dX10_go_14 (by decide) ?_
    exact r_ireturn o q dX10_go_15 (⟨by rw [rf_1 (by first | (rw [hb4]; rfl) | (rw [hb4, hb11]; rfl)), if_neg (by decide)], keepM_rfl⟩)
  · skip
    rw [b01_ne0] at hb4
    obtain ⟨hr1, hr2⟩ := inB_nI (n := 5) (by decide) hb4
    refine r_iload_n o dX10_go_7 2 rfl ?_
    refine r_callSI o (As := [.int s2z]) (st := []) (c_X10_isRow (xl X) G σ s2z) om_X10_isRow mw_779 mw_778 (by decide) rfl rfl (Nat.le_of_ble_eq_true rfl) dX10_go_8 (fun rr8 σσ8 hp8 => ?_)
    obtain ⟨hp8, hp8b⟩ := hp8; replace hp8 := Eq.symm hp8; replace hp8b := Eq.symm hp8b; subst hp8; subst hp8b
    refine r_if_ne o (tgt := 16) dX10_go_11 (by decide) (fun hb11 => ?_) (fun hb11 => ?_)
    · skip
      rw [b01_ne0] at hb11
      obtain ⟨hs1, hs2⟩ := inB_nI (n := 5) (by decide) hb11
      refine r_aload_n o dX10_go_16 0 rfl ?_
      refine r_callVI o (As := []) (st := []) (c_X10_fault (xl X) G σ sn cntq hp) om_X10_fault mw_804 mw_805 mw_827 (by decide) rfl rfl rfl (by decide) rfl rfl (Nat.le_of_ble_eq_true rfl) dX10_go_17 (fun rr17 σσ17 hp17 => ?_)
      obtain ⟨hp17, hp17b⟩ := hp17; replace hp17 := Eq.symm hp17; replace hp17b := Eq.symm hp17b; subst hp17; subst hp17b
      refine r_if_lt o (tgt := 26) dX10_go_20 (by decide) (fun hb20 => ?_) (fun hb20 => ?_)
      · skip
        have hno := flt_n hcnt hb20
        have hb1 : BdF (dlM σ sn cntq rz.toNatClampNeg) := bd_deal 21 0 (hyb _ (by omega))
        have hb2 : BdF (dlM σ sn cntq s2z.toNatClampNeg) := bd_deal 21 0 (hyb _ (by omega))
        refine r_lv (lv' := [(0, .ref (gad G 11)), (1, .int (nI rz.toNatClampNeg)), (2, .int s2z)]) (congrArg (fun zz => ([(0, .ref (gad G 11)), (1, .int zz), (2, .int s2z)] : List (Nat × Value))) (hr1)) ?_
        refine r_lv (lv' := [(0, .ref (gad G 11)), (1, .int (nI rz.toNatClampNeg)), (2, .int (nI s2z.toNatClampNeg))]) (congrArg (fun zz => ([(0, .ref (gad G 11)), (1, .int (nI rz.toNatClampNeg)), (2, .int zz)] : List (Nat × Value))) (hs1)) ?_
        refine r_aload_n o dX10_go_26 0 rfl ?_
        refine r_iload_n o dX10_go_27 1 rfl ?_
        refine r_iload_n o dX10_go_28 2 rfl ?_
        refine r_callVV o (As := [.int (nI rz.toNatClampNeg), .int (nI s2z.toNatClampNeg)]) (st := []) (c_X10_dealBoth (xl X) G σ sn cntq hp hyb rz.toNatClampNeg (by omega) s2z.toNatClampNeg (by omega) hno) om_X10_dealBoth mw_922 mw_29 mw_920 (by decide) rfl rfl rfl (by decide) rfl rfl (Nat.le_of_ble_eq_true rfl) dX10_go_29 (fun σσ29 hp29 => ?_)
        obtain ⟨ha8, hb8, hkp⟩ := hp29
        have hba := bd_ag ha8 hb1
        have hbb := bd_ag hb8 hb2
        have htb0 := tm_bd hba hbb 0
        refine r_aload_n o dX10_go_32 0 rfl ?_
        refine r_iconst o (v := nI 0) dX10_go_33 (by decide) ?_
        refine r_callVV o (As := [.int (nI 0)]) (st := []) (c_X10_findTogether (xl X) G σσ29 ((σσ29 80).1) rfl ((σσ29 73).1) rfl 0 (by omega)) om_X10_findTogether mw_926 mw_30 mw_924 (by decide) rfl rfl rfl (by decide) rfl rfl (Nat.le_of_ble_eq_true rfl) dX10_go_34 (fun σσ34 hp34 => ?_)
        replace hp34 := Eq.symm hp34; subst hp34
        refine r_aload_n o dX10_go_37 0 rfl ?_
        refine gf_11_12 (σ := stl (stl σσ29 11 12 (tmU ((σσ29 80).1) ((σσ29 73).1) 0)) 11 13 (tmD ((σσ29 80).1) ((σσ29 73).1) 0)) o (v := tmU ((σσ29 80).1) ((σσ29 73).1) 0) rfl mw_710 dX10_go_38 ?_
        refine r_lstore_n o (lv' := [(3, .long (tmU ((σσ29 80).1) ((σσ29 73).1) 0)), (0, .ref (gad G 11)), (1, .int (nI rz.toNatClampNeg)), (2, .int (nI s2z.toNatClampNeg))]) dX10_go_41 (by decide) rfl ?_
        refine r_aload_n o dX10_go_42 1 rfl ?_
        refine gf_11_13 (σ := stl (stl σσ29 11 12 (tmU ((σσ29 80).1) ((σσ29 73).1) 0)) 11 13 (tmD ((σσ29 80).1) ((σσ29 73).1) 0)) o (v := tmD ((σσ29 80).1) ((σσ29 73).1) 0) rfl mw_711 dX10_go_43 ?_
        refine r_lstore o (lv' := [(5, .long (tmD ((σσ29 80).1) ((σσ29 73).1) 0)), (3, .long (tmU ((σσ29 80).1) ((σσ29 73).1) 0)), (0, .ref (gad G 11)), (1, .int (nI rz.toNatClampNeg)), (2, .int (nI s2z.toNatClampNeg))]) dX10_go_46 (by decide) rfl ?_
        refine r_iconst o (v := nI 0) dX10_go_48 (by decide) ?_
        refine r_istore o (lv' := [(7, .int (nI 0)), (5, .long (tmD ((σσ29 80).1) ((σσ29 73).1) 0)), (3, .long (tmU ((σσ29 80).1) ((σσ29 73).1) 0)), (0, .ref (gad G 11)), (1, .int (nI rz.toNatClampNeg)), (2, .int (nI s2z.toNatClampNeg))]) dX10_go_49 (by decide) rfl ?_
        refine r_iconst o (v := nI 0) dX10_go_51 (by decide) ?_
        refine r_istore o (lv' := [(8, .int (nI 0)), (7, .int (nI 0)), (5, .long (tmD ((σσ29 80).1) ((σσ29 73).1) 0)), (3, .long (tmU ((σσ29 80).1) ((σσ29 73).1) 0)), (0, .ref (gad G 11)), (1, .int (nI rz.toNatClampNeg)), (2, .int (nI s2z.toNatClampNeg))]) dX10_go_52 (by decide) rfl ?_
        have L54 : ∀ (n : Nat) (kq : Nat) (u7 : Int64) (l7 : Int64) (hkq : kq ≤ 24), 24 - kq < n → WS X G 9 (stl (stl σσ29 11 12 u7) 11 13 l7) 54 [(0, .ref (gad G 11)), (1, .int (nI rz.toNatClampNeg)), (2, .int (nI s2z.toNatClampNeg)), (3, .long (tmU ((σσ29 80).1) ((σσ29 73).1) 0)), (5, .long (tmD ((σσ29 80).1) ((σσ29 73).1) 0)), (7, .int (nI (goM (σσ29 80).1 (σσ29 73).1 kq))), (8, .int (nI kq))] [] := by
          intro n
          induction n with
          | zero => intro kq u7 l7 hkq hm; exact absurd hm (Nat.not_lt_zero _)
          | succ n ih54 =>
            intro kq u7 l7 hkq hm
            have htb := tm_bd hba hbb kq
            refine r_iload o dX10_go_54 6 rfl ?_
            refine r_bipush o (v := nI 24) dX10_go_56 (by decide) ?_
            refine r_icmp_ge o (tgt := 100) dX10_go_58 (by decide) (fun hb58 => ?_) (fun hb58 => ?_)
            · skip
              rw [nI_leI (by omega) (by omega)] at hb58
              obtain rfl : kq = 24 := by omega
              refine r_iload o dX10_go_100 5 rfl ?_
              exact r_ireturn o q dX10_go_102 (⟨by rw [rf_0 (by first | (rw [hb4]; rfl) | (rw [hb4, hb11]; rfl)) rfl hno, if_pos rfl, goM_ag ha8 hb8], ⟨fun cz h1 h2 => by rw [stl_ne h1, stl_ne h1]; exact hkp cz (by omega) (by omega) (by omega), fun kq _ _ _ _ => by simp only [stl, stc, if_true]; rw [hkp 11 (by decide) (by decide) (by decide)]⟩⟩)
            · skip
              rw [nI_leI (by omega) (by omega)] at hb58
              refine r_aload_n o dX10_go_61 0 rfl ?_
              refine r_iload o dX10_go_62 6 rfl ?_
              refine r_callVV o (As := [.int (nI kq)]) (st := []) (c_X10_findTogether (xl X) G (stl (stl σσ29 11 12 u7) 11 13 l7) ((σσ29 80).1) rfl ((σσ29 73).1) rfl kq (by omega)) om_X10_findTogether mw_926 mw_30 mw_924 (by decide) rfl rfl rfl (by decide) rfl rfl (Nat.le_of_ble_eq_true rfl) dX10_go_64 (fun σσ64 hp64 => ?_)
              replace hp64 := Eq.symm hp64; subst hp64
              refine r_iload o dX10_go_67 5 rfl ?_
              refine r_aload_n o dX10_go_69 0 rfl ?_
              refine gf_11_12 (σ := stl (stl (stl (stl σσ29 11 12 u7) 11 13 l7) 11 12 (tmU ((σσ29 80).1) ((σσ29 73).1) kq)) 11 13 (tmD ((σσ29 80).1) ((σσ29 73).1) kq)) o (v := tmU ((σσ29 80).1) ((σσ29 73).1) kq) rfl mw_710 dX10_go_70 ?_
              refine r_aload_n o dX10_go_73 0 rfl ?_
              refine gf_11_13 (σ := stl (stl (stl (stl σσ29 11 12 u7) 11 13 l7) 11 12 (tmU ((σσ29 80).1) ((σσ29 73).1) kq)) 11 13 (tmD ((σσ29 80).1) ((σσ29 73).1) kq)) o (v := tmD ((σσ29 80).1) ((σσ29 73).1) kq) rfl mw_711 dX10_go_74 ?_
              refine r_lload_n o dX10_go_77 3 rfl ?_
              refine r_lload o dX10_go_78 4 rfl ?_
              refine r_callSI o (As := [.long (tmU ((σσ29 80).1) ((σσ29 73).1) kq), .long (tmD ((σσ29 80).1) ((σσ29 73).1) kq), .long (tmU ((σσ29 80).1) ((σσ29 73).1) 0), .long (tmD ((σσ29 80).1) ((σσ29 73).1) 0)]) (st := [.int (nI (goM (σσ29 80).1 (σσ29 73).1 kq))]) (c_X10_lessF (xl X) G (stl (stl (stl (stl σσ29 11 12 u7) 11 13 l7) 11 12 (tmU ((σσ29 80).1) ((σσ29 73).1) kq)) 11 13 (tmD ((σσ29 80).1) ((σσ29 73).1) kq)) (tmU (σσ29 80).1 (σσ29 73).1 kq) (tmD (σσ29 80).1 (σσ29 73).1 kq) (tmU (σσ29 80).1 (σσ29 73).1 0) (tmD (σσ29 80).1 (σσ29 73).1 0) htb.1.1 htb.2.1 htb0.1.1 htb0.2.1) om_X10_isLess mw_933 mw_932 (by decide) rfl rfl (Nat.le_of_ble_eq_true rfl) dX10_go_80 (fun rr80 σσ80 hp80 => ?_)
              obtain ⟨hp80, hp80b⟩ := hp80; replace hp80 := Eq.symm hp80; replace hp80b := Eq.symm hp80b; subst hp80; subst hp80b
              refine r_if_eq o (tgt := 90) dX10_go_83 (by decide) (fun hb83 => ?_) (fun hb83 => ?_)
              · skip
                rw [b01_eq0] at hb83
                have hlt := of_decide_eq_false hb83
                refine r_iconst o (v := nI 1) dX10_go_90 (by decide) ?_
                refine r_iadd o dX10_go_91 ?_
                refine r_topi (y := nI (goM (σσ29 80).1 (σσ29 73).1 kq + 1)) (nI_add' _ _) ?_
                refine r_istore o (lv' := [(7, .int (nI (goM (σσ29 80).1 (σσ29 73).1 kq + 1))), (0, .ref (gad G 11)), (1, .int (nI rz.toNatClampNeg)), (2, .int (nI s2z.toNatClampNeg)), (3, .long (tmU ((σσ29 80).1) ((σσ29 73).1) 0)), (5, .long (tmD ((σσ29 80).1) ((σσ29 73).1) 0)), (8, .int (nI kq))]) dX10_go_92 (by decide) rfl ?_
                refine r_lv (lv' := [(7, .int (nI (goM (σσ29 80).1 (σσ29 73).1 (kq + 1)))), (0, .ref (gad G 11)), (1, .int (nI rz.toNatClampNeg)), (2, .int (nI s2z.toNatClampNeg)), (3, .long (tmU ((σσ29 80).1) ((σσ29 73).1) 0)), (5, .long (tmD ((σσ29 80).1) ((σσ29 73).1) 0)), (8, .int (nI kq))]) (congrArg (fun zz => ([(7, .int zz), (0, .ref (gad G 11)), (1, .int (nI rz.toNatClampNeg)), (2, .int (nI s2z.toNatClampNeg)), (3, .long (tmU ((σσ29 80).1) ((σσ29 73).1) 0)), (5, .long (tmD ((σσ29 80).1) ((σσ29 73).1) 0)), (8, .int (nI kq))] : List (Nat × Value))) (show nI (goM (σσ29 80).1 (σσ29 73).1 kq + 1) = nI (goM (σσ29 80).1 (σσ29 73).1 (kq + 1)) from congrArg nI ((if_neg hlt).symm))) ?_
                refine r_iinc o (v := nI (kq + 1)) (lv' := [(8, .int (nI (kq + 1))), (7, .int (nI (goM (σσ29 80).1 (σσ29 73).1 (kq + 1)))), (0, .ref (gad G 11)), (1, .int (nI rz.toNatClampNeg)), (2, .int (nI s2z.toNatClampNeg)), (3, .long (tmU ((σσ29 80).1) ((σσ29 73).1) 0)), (5, .long (tmD ((σσ29 80).1) ((σσ29 73).1) 0))]) dX10_go_94 6 rfl (nI_inc _) (by decide) rfl ?_
                refine r_goto o (tgt := 54) dX10_go_97 (by decide) ?_
                exact r_to tm_sto [2, 3, 4, 5, 6, 1, 0] rfl (ih54 (kq + 1) (tmU (σσ29 80).1 (σσ29 73).1 kq) (tmD (σσ29 80).1 (σσ29 73).1 kq) (by omega) (by omega))
              · skip
                rw [b01_ne0] at hb83
                have hlt := of_decide_eq_true hb83
                refine r_iconst o (v := nI 0) dX10_go_86 (by decide) ?_
                refine r_goto o (tgt := 91) dX10_go_87 (by decide) ?_
                refine r_iadd o dX10_go_91 ?_
                refine r_topi (y := nI (goM (σσ29 80).1 (σσ29 73).1 kq + 0)) (nI_add' _ _) ?_
                refine r_istore o (lv' := [(7, .int (nI (goM (σσ29 80).1 (σσ29 73).1 kq + 0))), (0, .ref (gad G 11)), (1, .int (nI rz.toNatClampNeg)), (2, .int (nI s2z.toNatClampNeg)), (3, .long (tmU ((σσ29 80).1) ((σσ29 73).1) 0)), (5, .long (tmD ((σσ29 80).1) ((σσ29 73).1) 0)), (8, .int (nI kq))]) dX10_go_92 (by decide) rfl ?_
                refine r_lv (lv' := [(7, .int (nI (goM (σσ29 80).1 (σσ29 73).1 (kq + 1)))), (0, .ref (gad G 11)), (1, .int (nI rz.toNatClampNeg)), (2, .int (nI s2z.toNatClampNeg)), (3, .long (tmU ((σσ29 80).1) ((σσ29 73).1) 0)), (5, .long (tmD ((σσ29 80).1) ((σσ29 73).1) 0)), (8, .int (nI kq))]) (congrArg (fun zz => ([(7, .int zz), (0, .ref (gad G 11)), (1, .int (nI rz.toNatClampNeg)), (2, .int (nI s2z.toNatClampNeg)), (3, .long (tmU ((σσ29 80).1) ((σσ29 73).1) 0)), (5, .long (tmD ((σσ29 80).1) ((σσ29 73).1) 0)), (8, .int (nI kq))] : List (Nat × Value))) (show nI (goM (σσ29 80).1 (σσ29 73).1 kq + 0) = nI (goM (σσ29 80).1 (σσ29 73).1 (kq + 1)) from congrArg nI ((if_pos hlt).symm))) ?_
                refine r_iinc o (v := nI (kq + 1)) (lv' := [(8, .int (nI (kq + 1))), (7, .int (nI (goM (σσ29 80).1 (σσ29 73).1 (kq + 1)))), (0, .ref (gad G 11)), (1, .int (nI rz.toNatClampNeg)), (2, .int (nI s2z.toNatClampNeg)), (3, .long (tmU ((σσ29 80).1) ((σσ29 73).1) 0)), (5, .long (tmD ((σσ29 80).1) ((σσ29 73).1) 0))]) dX10_go_94 6 rfl (nI_inc _) (by decide) rfl ?_
                refine r_goto o (tgt := 54) dX10_go_97 (by decide) ?_
                exact r_to tm_sto [2, 3, 4, 5, 6, 1, 0] rfl (ih54 (kq + 1) (tmU (σσ29 80).1 (σσ29 73).1 kq) (tmD (σσ29 80).1 (σσ29 73).1 kq) (by omega) (by omega))
        exact r_to rfl [4, 5, 6, 3, 2, 1, 0] rfl (L54 _ 0 (tmU (σσ29 80).1 (σσ29 73).1 0) (tmD (σσ29 80).1 (σσ29 73).1 0) (by omega) (Nat.lt_succ_self _))
      · skip
        have hfs := flt_s hb20
        refine r_bipush o (v := (-5)) dX10_go_23 (by decide) ?_
        exact r_ireturn o q dX10_go_25 (⟨by rw [rf_5 (by first | (rw [hb4]; rfl) | (rw [hb4, hb11]; rfl)) rfl hfs, if_neg (by decide)], keepM_rfl⟩)
    · skip
      rw [b01_eq0] at hb11
      refine r_iconst o (v := (-1)) dX10_go_14 (by decide) ?_
      exact r_ireturn o q dX10_go_15 (⟨by rw [rf_1 (by first | (rw [hb4]; rfl) | (rw [hb4, hb11]; rfl)), if_neg (by decide)], keepM_rfl⟩)
set_option maxHeartbeats 4000000 in
set_option maxRecDepth 100000 in
theorem c_X10_smooth (l : Launch) (G : Gl) (σ : Sto) (bq : Nat) (hbq : bq < 4096) (yq : Nat) (hyq : yq < 30) (mq : Nat) (hmq : mq ≤ yq + 1) : CtI l G yX10_smooth cX10_smooth 5 (some .int) 0 0 [.int (nI bq), .int (nI yq), .int (nI mq)] σ (fun r σ' => r = nI (2 * cntW bq yq mq) - nI mq ∧ σ' = σ) := by
  refine CtI.of (by decide +kernel) (Nat.le_of_ble_eq_true rfl) (fun X o q => ?_)
  show WS X G 5 σ 0 [(0, .int (nI bq)), (1, .int (nI yq)), (2, .int (nI mq))] []
  refine r_iconst o (v := nI 0) dX10_smooth_0 (by decide) ?_
  refine r_istore_n o (lv' := [(3, .int (nI 0)), (0, .int (nI bq)), (1, .int (nI yq)), (2, .int (nI mq))]) dX10_smooth_1 (by decide) rfl ?_
  refine r_iconst o (v := nI 0) dX10_smooth_2 (by decide) ?_
  refine r_istore o (lv' := [(4, .int (nI 0)), (3, .int (nI 0)), (0, .int (nI bq)), (1, .int (nI yq)), (2, .int (nI mq))]) dX10_smooth_3 (by decide) rfl ?_
  have L5 : ∀ (n : Nat) (kq : Nat) (hkq : kq ≤ mq), mq - kq < n → WS X G 5 σ 5 [(0, .int (nI bq)), (1, .int (nI yq)), (2, .int (nI mq)), (3, .int (nI (2 * cntW bq yq kq) - nI kq)), (4, .int (nI kq))] [] := by
    intro n
    induction n with
    | zero => intro kq hkq hm; exact absurd hm (Nat.not_lt_zero _)
    | succ n ih5 =>
      intro kq hkq hm
      refine r_iload o dX10_smooth_5 4 rfl ?_
      refine r_iload_n o dX10_smooth_7 2 rfl ?_
      refine r_icmp_ge o (tgt := 32) dX10_smooth_8 (by decide) (fun hb8 => ?_) (fun hb8 => ?_)
      · skip
        rw [nI_leI (by omega) (by omega)] at hb8
        obtain rfl : mq = kq := by omega
        refine r_iload_n o dX10_smooth_32 3 rfl ?_
        exact r_ireturn o q dX10_smooth_33 (⟨rfl, rfl⟩)
      · skip
        rw [nI_leI (by omega) (by omega)] at hb8
        refine r_iload_n o dX10_smooth_11 3 rfl ?_
        refine r_iconst o (v := nI 2) dX10_smooth_12 (by decide) ?_
        refine r_iload_n o dX10_smooth_13 0 rfl ?_
        refine r_iload_n o dX10_smooth_14 1 rfl ?_
        refine r_iload o dX10_smooth_15 4 rfl ?_
        refine r_isub o dX10_smooth_17 ?_
        refine r_topi (y := nI (yq - kq)) (nI_sub' (by omega)) ?_
        refine r_ishr o dX10_smooth_18 ?_
        refine r_topi (y := nI (bq / 2 ^ (yq - kq))) (nI_shr (by omega) (by omega)) ?_
        refine r_iconst o (v := nI 1) dX10_smooth_19 (by decide) ?_
        refine r_iand o dX10_smooth_20 ?_
        refine r_topi (y := nI ((bq / 2 ^ (yq - kq)) &&& 1)) (nI_and _ _) ?_
        refine r_imul o dX10_smooth_21 ?_
        refine r_topi (y := nI (2 * ((bq / 2 ^ (yq - kq)) &&& 1))) (nI_mul' _ _) ?_
        refine r_iconst o (v := nI 1) dX10_smooth_22 (by decide) ?_
        refine r_isub o dX10_smooth_23 ?_
        refine r_iadd o dX10_smooth_24 ?_
        refine r_topi (y := nI (2 * cntW bq yq (kq + 1)) - nI (kq + 1)) smW_s ?_
        refine r_istore_n o (lv' := [(3, .int (nI (2 * cntW bq yq (kq + 1)) - nI (kq + 1))), (0, .int (nI bq)), (1, .int (nI yq)), (2, .int (nI mq)), (4, .int (nI kq))]) dX10_smooth_25 (by decide) rfl ?_
        refine r_iinc o (v := nI (kq + 1)) (lv' := [(4, .int (nI (kq + 1))), (3, .int (nI (2 * cntW bq yq (kq + 1)) - nI (kq + 1))), (0, .int (nI bq)), (1, .int (nI yq)), (2, .int (nI mq))]) dX10_smooth_26 4 rfl (nI_inc _) (by decide) rfl ?_
        refine r_goto o (tgt := 5) dX10_smooth_29 (by decide) ?_
        exact r_to rfl [2, 3, 4, 1, 0] rfl (ih5 (kq + 1) (by omega) (by omega))
  refine r_lv (lv' := [(4, .int (nI 0)), (3, .int (nI (2 * cntW bq yq 0) - nI 0)), (0, .int (nI bq)), (1, .int (nI yq)), (2, .int (nI mq))]) (congrArg (fun zz => ([(4, .int (nI 0)), (3, .int zz), (0, .int (nI bq)), (1, .int (nI yq)), (2, .int (nI mq))] : List (Nat × Value))) (show nI 0 = nI (2 * 0) - nI 0 by decide)) ?_
  exact r_to rfl [2, 3, 4, 1, 0] rfl (L5 _ 0 (by omega) (Nat.lt_succ_self _))
set_option maxHeartbeats 4000000 in
set_option maxRecDepth 100000 in
theorem c_X10_waves (l : Launch) (G : Gl) (σ : Sto) (nz : Int32) (mz : Int32) (pz : Int32) : CtL l G yX10_waves cX10_waves 9 (some .long) 2 45 [.ref (gad G 11), .int nz, .int mz, .int pz] σ (fun r σ' => r = (if (inB (nI 3) (nI 12) nz && (inB (nI 1) (nI 5) mz && inB (nI 0) (nI 1) pz)) = false then -1000000000000000002 else fX (nI (wvS nz.toNatClampNeg mz.toNatClampNeg (2 ^ nz.toNatClampNeg))).toInt64 (nI (1 * 2 ^ nz.toNatClampNeg)).toInt64 pz) ∧ σ' = σ) := by
  refine CtL.of (by decide +kernel) (Nat.le_of_ble_eq_true rfl) (fun X o q => ?_)
  show WS X G 9 σ 0 [(0, .ref (gad G 11)), (1, .int nz), (2, .int mz), (3, .int pz)] []
  refine r_iload_n o dX10_waves_0 1 rfl ?_
  refine r_i2l o dX10_waves_1 rfl ?_
  refine r_ldc2_w o mw_939 dX10_waves_2 ?_
  refine r_ldc2_w o mw_855 dX10_waves_5 ?_
  refine r_callSI o (As := [.long ((nz).toInt64), .long 3, .long 12]) (st := []) (c_X10_in (xl X) G σ ((nz).toInt64) 3 12) om_X10_in mw_783 mw_782 (by decide) rfl rfl (Nat.le_of_ble_eq_true rfl) dX10_waves_8 (fun rr8 σσ8 hp8 => ?_)
  obtain ⟨hp8, hp8b⟩ := hp8; replace hp8 := Eq.symm hp8; replace hp8b := Eq.symm hp8b; subst hp8; subst hp8b
  refine r_topi (y := b01 (inB (nI 3) (nI 12) nz)) (by rw [← inL_w]; rfl) ?_
  refine r_if_eq o (tgt := 33) dX10_waves_11 (by decide) (fun hb11 => ?_) (fun hb11 => ?_)
  · skip
    rw [b01_eq0] at hb11
    refine r_ldc2_w o mw_859 dX10_waves_33 ?_
    exact r_lreturn o q dX10_waves_36 (⟨by rw [if_pos (by first | (rw [hb11]; rfl) | (rw [hb23]; simp; done) | (rw [hb30]; simp; done))], rfl⟩)
  · skip
    rw [b01_ne0] at hb11
    refine r_iload_n o dX10_waves_14 2 rfl ?_
    refine r_i2l o dX10_waves_15 rfl ?_
    refine r_lconst o (v := 1) dX10_waves_16 rfl ?_
    refine r_ldc2_w o mw_781 dX10_waves_17 ?_
    refine r_callSI o (As := [.long ((mz).toInt64), .long 1, .long 5]) (st := []) (c_X10_in (xl X) G σ ((mz).toInt64) 1 5) om_X10_in mw_783 mw_782 (by decide) rfl rfl (Nat.le_of_ble_eq_true rfl) dX10_waves_20 (fun rr20 σσ20 hp20 => ?_)
    obtain ⟨hp20, hp20b⟩ := hp20; replace hp20 := Eq.symm hp20; replace hp20b := Eq.symm hp20b; subst hp20; subst hp20b
    refine r_topi (y := b01 (inB (nI 1) (nI 5) mz)) (by rw [← inL_w]; rfl) ?_
    refine r_if_eq o (tgt := 33) dX10_waves_23 (by decide) (fun hb23 => ?_) (fun hb23 => ?_)
    · skip
      rw [b01_eq0] at hb23
      refine r_ldc2_w o mw_859 dX10_waves_33 ?_
      exact r_lreturn o q dX10_waves_36 (⟨by rw [if_pos (by first | (rw [hb11]; rfl) | (rw [hb23]; simp; done) | (rw [hb30]; simp; done))], rfl⟩)
    · skip
      rw [b01_ne0] at hb23
      refine r_iload_n o dX10_waves_26 3 rfl ?_
      refine r_callSI o (As := [.int pz]) (st := []) (c_X10_isPart (xl X) G σ pz) om_X10_isPart mw_857 mw_856 (by decide) rfl rfl (Nat.le_of_ble_eq_true rfl) dX10_waves_27 (fun rr27 σσ27 hp27 => ?_)
      obtain ⟨hp27, hp27b⟩ := hp27; replace hp27 := Eq.symm hp27; replace hp27b := Eq.symm hp27b; subst hp27; subst hp27b
      refine r_if_ne o (tgt := 37) dX10_waves_30 (by decide) (fun hb30 => ?_) (fun hb30 => ?_)
      · skip
        rw [b01_ne0] at hb30
        obtain ⟨hn1, hn2⟩ := inB_nI (n := 12) (by decide) (inB_wk hb11)
        have hn3 := inB_ge hb11
        obtain ⟨hm1, hm2⟩ := inB_nI (n := 5) (by decide) (inB_wk hb23)
        have hm3 := inB_ge hb23
        have hp1 : 2 ^ nz.toNatClampNeg ≤ 4096 := pow_le2 (jq := 12) hn2
        refine r_lv (lv' := [(0, .ref (gad G 11)), (1, .int (nI nz.toNatClampNeg)), (2, .int mz), (3, .int pz)]) (congrArg (fun zz => ([(0, .ref (gad G 11)), (1, .int zz), (2, .int mz), (3, .int pz)] : List (Nat × Value))) (hn1)) ?_
        refine r_lv (lv' := [(0, .ref (gad G 11)), (1, .int (nI nz.toNatClampNeg)), (2, .int (nI mz.toNatClampNeg)), (3, .int pz)]) (congrArg (fun zz => ([(0, .ref (gad G 11)), (1, .int (nI nz.toNatClampNeg)), (2, .int zz), (3, .int pz)] : List (Nat × Value))) (hm1)) ?_
        refine r_lconst o (v := 0) dX10_waves_37 rfl ?_
        refine r_lstore o (lv' := [(4, .long 0), (0, .ref (gad G 11)), (1, .int (nI nz.toNatClampNeg)), (2, .int (nI mz.toNatClampNeg)), (3, .int pz)]) dX10_waves_38 (by decide) rfl ?_
        refine r_iconst o (v := nI 0) dX10_waves_40 (by decide) ?_
        refine r_istore o (lv' := [(6, .int (nI 0)), (4, .long 0), (0, .ref (gad G 11)), (1, .int (nI nz.toNatClampNeg)), (2, .int (nI mz.toNatClampNeg)), (3, .int pz)]) dX10_waves_41 (by decide) rfl ?_
        have L43 : ∀ (n : Nat) (kq : Nat) (hkq : kq ≤ 2 ^ nz.toNatClampNeg), 2 ^ nz.toNatClampNeg - kq < n → WS X G 9 σ 43 [(0, .ref (gad G 11)), (1, .int (nI nz.toNatClampNeg)), (2, .int (nI mz.toNatClampNeg)), (3, .int pz), (4, .long (lN (wvM nz.toNatClampNeg mz.toNatClampNeg kq))), (6, .int (nI kq))] [] := by
          intro n
          induction n with
          | zero => intro kq hkq hm; exact absurd hm (Nat.not_lt_zero _)
          | succ n ih43 =>
            intro kq hkq hm
            refine r_iload o dX10_waves_43 5 rfl ?_
            refine r_iconst o (v := nI 1) dX10_waves_45 (by decide) ?_
            refine r_iload_n o dX10_waves_46 1 rfl ?_
            refine r_ishl o dX10_waves_47 ?_
            refine r_topi (y := nI (1 * 2 ^ nz.toNatClampNeg)) (nI_shl (by omega)) ?_
            refine r_icmp_ge o (tgt := 138) dX10_waves_48 (by decide) (fun hb48 => ?_) (fun hb48 => ?_)
            · skip
              rw [nI_leI (by omega) (by omega)] at hb48
              have hke : kq = 2 ^ nz.toNatClampNeg := by omega
              have hwl := wvS_le nz.toNatClampNeg mz.toNatClampNeg (2 ^ nz.toNatClampNeg)
              refine r_lv (lv' := [(0, .ref (gad G 11)), (1, .int (nI nz.toNatClampNeg)), (2, .int (nI mz.toNatClampNeg)), (3, .int pz), (4, .long ((nI (wvS nz.toNatClampNeg mz.toNatClampNeg (2 ^ nz.toNatClampNeg))).toInt64)), (6, .int (nI kq))]) (congrArg (fun zz => ([(0, .ref (gad G 11)), (1, .int (nI nz.toNatClampNeg)), (2, .int (nI mz.toNatClampNeg)), (3, .int pz), (4, .long zz), (6, .int (nI kq))] : List (Nat × Value))) (show lN (wvM nz.toNatClampNeg mz.toNatClampNeg kq) = (nI (wvS nz.toNatClampNeg mz.toNatClampNeg (2 ^ nz.toNatClampNeg))).toInt64 by rw [hke, wv_e hm3 (by omega), nI_l (by omega)])) ?_
              refine r_lload o dX10_waves_138 4 rfl ?_
              refine r_lconst o (v := 1) dX10_waves_140 rfl ?_
              refine r_iload_n o dX10_waves_141 1 rfl ?_
              refine r_lshl o dX10_waves_142 rfl ?_
              refine r_topl (y := (nI (1 * 2 ^ nz.toNatClampNeg)).toInt64) (shl_e (by omega)) ?_
              refine r_iload_n o dX10_waves_143 3 rfl ?_
              refine r_callSL o (As := [.long ((nI (wvS nz.toNatClampNeg mz.toNatClampNeg (2 ^ nz.toNatClampNeg))).toInt64), .long ((nI (1 * 2 ^ nz.toNatClampNeg)).toInt64), .int pz]) (st := []) (c_X10_lowF (xl X) G σ ((nI (wvS nz.toNatClampNeg mz.toNatClampNeg (2 ^ nz.toNatClampNeg))).toInt64) ((nI (1 * 2 ^ nz.toNatClampNeg)).toInt64) (by rw [nl_ti (by omega)]; omega) (by rw [nl_ti (by omega)]; omega) (pw_ti (by omega)) pz) om_X10_lowest mw_883 mw_882 (by decide) rfl rfl (Nat.le_of_ble_eq_true rfl) dX10_waves_144 (fun rr144 σσ144 hp144 => ?_)
              obtain ⟨hp144, hp144b⟩ := hp144; replace hp144 := Eq.symm hp144; replace hp144b := Eq.symm hp144b; subst hp144; subst hp144b
              exact r_lreturn o q dX10_waves_147 (⟨by rw [if_neg (by rw [hb11, hb23, hb30]; decide)], rfl⟩)
            · skip
              rw [nI_leI (by omega) (by omega)] at hb48
              have hk12 : kq < 2 ^ nz.toNatClampNeg := by omega
              refine r_iload_n o dX10_waves_51 2 rfl ?_
              refine r_istore o (lv' := [(7, .int (nI mz.toNatClampNeg)), (0, .ref (gad G 11)), (1, .int (nI nz.toNatClampNeg)), (2, .int (nI mz.toNatClampNeg)), (3, .int pz), (4, .long (lN (wvM nz.toNatClampNeg mz.toNatClampNeg kq))), (6, .int (nI kq))]) dX10_waves_52 (by decide) rfl ?_
              have L54 : ∀ (n : Nat) (jq : Nat) (hjq : jq ≤ nz.toNatClampNeg - 1 - mz.toNatClampNeg), nz.toNatClampNeg - 1 - mz.toNatClampNeg - jq < n → WS X G 9 σ 54 [(0, .ref (gad G 11)), (1, .int (nI nz.toNatClampNeg)), (2, .int (nI mz.toNatClampNeg)), (3, .int pz), (4, .long (lN (wvM nz.toNatClampNeg mz.toNatClampNeg kq + wvI mz.toNatClampNeg kq jq))), (6, .int (nI kq)), (7, .int (nI (mz.toNatClampNeg + jq)))] [] := by
                intro n
                induction n with
                | zero => intro jq hjq hm; exact absurd hm (Nat.not_lt_zero _)
                | succ n ih54 =>
                  intro jq hjq hm
                  have hl1 := cntW_le kq (mz.toNatClampNeg + jq) mz.toNatClampNeg
                  have hl2 := cntW_le kq (mz.toNatClampNeg + jq - 1) mz.toNatClampNeg
                  have hl3 := cntW_le kq (mz.toNatClampNeg + jq + 1) mz.toNatClampNeg
                  refine r_iload o dX10_waves_54 6 rfl ?_
                  refine r_iload_n o dX10_waves_56 1 rfl ?_
                  refine r_iconst o (v := nI 1) dX10_waves_57 (by decide) ?_
                  refine r_isub o dX10_waves_58 ?_
                  refine r_topi (y := nI (nz.toNatClampNeg - 1)) (nI_sub' (by omega)) ?_
                  refine r_icmp_ge o (tgt := 132) dX10_waves_59 (by decide) (fun hb59 => ?_) (fun hb59 => ?_)
                  · skip
                    rw [nI_leI (by omega) (by omega)] at hb59
                    have hje : jq = nz.toNatClampNeg - 1 - mz.toNatClampNeg := by omega
                    refine r_lv (lv' := [(0, .ref (gad G 11)), (1, .int (nI nz.toNatClampNeg)), (2, .int (nI mz.toNatClampNeg)), (3, .int pz), (4, .long (lN (wvM nz.toNatClampNeg mz.toNatClampNeg (kq + 1)))), (6, .int (nI kq)), (7, .int (nI (mz.toNatClampNeg + jq)))]) (congrArg (fun zz => ([(0, .ref (gad G 11)), (1, .int (nI nz.toNatClampNeg)), (2, .int (nI mz.toNatClampNeg)), (3, .int pz), (4, .long zz), (6, .int (nI kq)), (7, .int (nI (mz.toNatClampNeg + jq)))] : List (Nat × Value))) (show lN (wvM nz.toNatClampNeg mz.toNatClampNeg kq + wvI mz.toNatClampNeg kq jq) = lN (wvM nz.toNatClampNeg mz.toNatClampNeg (kq + 1)) by rw [hje]; rfl)) ?_
                    refine r_iinc o (v := nI (kq + 1)) (lv' := [(6, .int (nI (kq + 1))), (0, .ref (gad G 11)), (1, .int (nI nz.toNatClampNeg)), (2, .int (nI mz.toNatClampNeg)), (3, .int pz), (4, .long (lN (wvM nz.toNatClampNeg mz.toNatClampNeg (kq + 1)))), (7, .int (nI (mz.toNatClampNeg + jq)))]) dX10_waves_132 5 rfl (nI_inc _) (by decide) rfl ?_
                    refine r_goto o (tgt := 43) dX10_waves_135 (by decide) ?_
                    exact r_to rfl [1, 2, 3, 4, 5, 0] rfl (ih43 (kq + 1) (by omega) (by omega))
                  · skip
                    rw [nI_leI (by omega) (by omega)] at hb59
                    refine r_iload o dX10_waves_62 5 rfl ?_
                    refine r_iload o dX10_waves_64 6 rfl ?_
                    refine r_iload_n o dX10_waves_66 2 rfl ?_
                    refine r_callSI o (As := [.int (nI kq), .int (nI (mz.toNatClampNeg + jq)), .int (nI mz.toNatClampNeg)]) (st := []) (c_X10_smooth (xl X) G σ kq (by omega) (mz.toNatClampNeg + jq) (by omega) mz.toNatClampNeg (by omega)) om_X10_smooth mw_941 mw_940 (by decide) rfl rfl (Nat.le_of_ble_eq_true rfl) dX10_waves_67 (fun rr67 σσ67 hp67 => ?_)
                    obtain ⟨hp67, hp67b⟩ := hp67; replace hp67 := Eq.symm hp67; replace hp67b := Eq.symm hp67b; subst hp67; subst hp67b
                    refine r_iload o dX10_waves_70 5 rfl ?_
                    refine r_iload o dX10_waves_72 6 rfl ?_
                    refine r_iconst o (v := nI 1) dX10_waves_74 (by decide) ?_
                    refine r_isub o dX10_waves_75 ?_
                    refine r_topi (y := nI (mz.toNatClampNeg + jq - 1)) (nI_sub' (by omega)) ?_
                    refine r_iload_n o dX10_waves_76 2 rfl ?_
                    refine r_callSI o (As := [.int (nI kq), .int (nI (mz.toNatClampNeg + jq - 1)), .int (nI mz.toNatClampNeg)]) (st := [.int (nI (2 * cntW kq (mz.toNatClampNeg + jq) mz.toNatClampNeg) - nI mz.toNatClampNeg)]) (c_X10_smooth (xl X) G σ kq (by omega) (mz.toNatClampNeg + jq - 1) (by omega) mz.toNatClampNeg (by omega)) om_X10_smooth mw_941 mw_940 (by decide) rfl rfl (Nat.le_of_ble_eq_true rfl) dX10_waves_77 (fun rr77 σσ77 hp77 => ?_)
                    obtain ⟨hp77, hp77b⟩ := hp77; replace hp77 := Eq.symm hp77; replace hp77b := Eq.symm hp77b; subst hp77; subst hp77b
                    refine r_icmp_le o (tgt := 108) dX10_waves_80 (by decide) (fun hb80 => ?_) (fun hb80 => ?_)
                    · skip
                      rw [smW_c (by omega) (by omega) (by omega)] at hb80
                      refine r_iconst o (v := nI 0) dX10_waves_108 (by decide) ?_
                      refine r_istore o (lv' := [(8, .int (nI 0)), (0, .ref (gad G 11)), (1, .int (nI nz.toNatClampNeg)), (2, .int (nI mz.toNatClampNeg)), (3, .int pz), (4, .long (lN (wvM nz.toNatClampNeg mz.toNatClampNeg kq + wvI mz.toNatClampNeg kq jq))), (6, .int (nI kq)), (7, .int (nI (mz.toNatClampNeg + jq)))]) dX10_waves_109 (by decide) rfl ?_
                      refine r_lload o dX10_waves_111 5 rfl ?_
                      refine r_iload o dX10_waves_113 0 rfl ?_
                      refine r_if_eq o (tgt := 122) dX10_waves_115 (by decide) (fun hb115 => ?_) (fun hb115 => ?_)
                      · skip
                        refine r_lconst o (v := 0) dX10_waves_122 rfl ?_
                        refine r_ladd o dX10_waves_123 ?_
                        refine r_lstore o (lv' := [(4, .long ((lN (wvM nz.toNatClampNeg mz.toNatClampNeg kq + wvI mz.toNatClampNeg kq jq)) + 0)), (8, .int (nI 0)), (0, .ref (gad G 11)), (1, .int (nI nz.toNatClampNeg)), (2, .int (nI mz.toNatClampNeg)), (3, .int pz), (6, .int (nI kq)), (7, .int (nI (mz.toNatClampNeg + jq)))]) dX10_waves_124 (by decide) rfl ?_
                        refine r_lv (lv' := [(4, .long (lN (wvM nz.toNatClampNeg mz.toNatClampNeg kq + wvI mz.toNatClampNeg kq (jq + 1)))), (8, .int (nI 0)), (0, .ref (gad G 11)), (1, .int (nI nz.toNatClampNeg)), (2, .int (nI mz.toNatClampNeg)), (3, .int pz), (6, .int (nI kq)), (7, .int (nI (mz.toNatClampNeg + jq)))]) (congrArg (fun zz => ([(4, .long zz), (8, .int (nI 0)), (0, .ref (gad G 11)), (1, .int (nI nz.toNatClampNeg)), (2, .int (nI mz.toNatClampNeg)), (3, .int pz), (6, .int (nI kq)), (7, .int (nI (mz.toNatClampNeg + jq)))] : List (Nat × Value))) (show lN (wvM nz.toNatClampNeg mz.toNatClampNeg kq + wvI mz.toNatClampNeg kq jq) + 0 = lN (wvM nz.toNatClampNeg mz.toNatClampNeg kq + wvI mz.toNatClampNeg kq (jq + 1)) by rw [Int64.add_zero]; exact congrArg lN (by show _ = wvM nz.toNatClampNeg mz.toNatClampNeg kq + (wvI mz.toNatClampNeg kq jq + (if _ then _ else _)); rw [if_neg (by unfold tpW; rw [Bool.and_eq_true, decide_eq_true_eq, decide_eq_true_eq]; omega), Nat.add_zero]))) ?_
                        refine r_iinc o (v := nI (mz.toNatClampNeg + jq + 1)) (lv' := [(7, .int (nI (mz.toNatClampNeg + jq + 1))), (4, .long (lN (wvM nz.toNatClampNeg mz.toNatClampNeg kq + wvI mz.toNatClampNeg kq (jq + 1)))), (8, .int (nI 0)), (0, .ref (gad G 11)), (1, .int (nI nz.toNatClampNeg)), (2, .int (nI mz.toNatClampNeg)), (3, .int pz), (6, .int (nI kq))]) dX10_waves_126 7 rfl (nI_inc _) (by decide) rfl ?_
                        refine r_goto o (tgt := 54) dX10_waves_129 (by decide) ?_
                        exact r_to rfl [3, 4, 5, 6, 1, 7, 0] rfl (ih54 (jq + 1) (by omega) (by omega))
                      · exact absurd hb115 (by decide)
                    · skip
                      rw [smW_c (by omega) (by omega) (by omega)] at hb80
                      refine r_iload o dX10_waves_83 5 rfl ?_
                      refine r_iload o dX10_waves_85 6 rfl ?_
                      refine r_iload_n o dX10_waves_87 2 rfl ?_
                      refine r_callSI o (As := [.int (nI kq), .int (nI (mz.toNatClampNeg + jq)), .int (nI mz.toNatClampNeg)]) (st := []) (c_X10_smooth (xl X) G σ kq (by omega) (mz.toNatClampNeg + jq) (by omega) mz.toNatClampNeg (by omega)) om_X10_smooth mw_941 mw_940 (by decide) rfl rfl (Nat.le_of_ble_eq_true rfl) dX10_waves_88 (fun rr88 σσ88 hp88 => ?_)
                      obtain ⟨hp88, hp88b⟩ := hp88; replace hp88 := Eq.symm hp88; replace hp88b := Eq.symm hp88b; subst hp88; subst hp88b
                      refine r_iload o dX10_waves_91 5 rfl ?_
                      refine r_iload o dX10_waves_93 6 rfl ?_
                      refine r_iconst o (v := nI 1) dX10_waves_95 (by decide) ?_
                      refine r_iadd o dX10_waves_96 ?_
                      refine r_topi (y := nI (mz.toNatClampNeg + jq + 1)) (nI_add' _ _) ?_
                      refine r_iload_n o dX10_waves_97 2 rfl ?_
                      refine r_callSI o (As := [.int (nI kq), .int (nI (mz.toNatClampNeg + jq + 1)), .int (nI mz.toNatClampNeg)]) (st := [.int (nI (2 * cntW kq (mz.toNatClampNeg + jq) mz.toNatClampNeg) - nI mz.toNatClampNeg)]) (c_X10_smooth (xl X) G σ kq (by omega) (mz.toNatClampNeg + jq + 1) (by omega) mz.toNatClampNeg (by omega)) om_X10_smooth mw_941 mw_940 (by decide) rfl rfl (Nat.le_of_ble_eq_true rfl) dX10_waves_98 (fun rr98 σσ98 hp98 => ?_)
                      obtain ⟨hp98, hp98b⟩ := hp98; replace hp98 := Eq.symm hp98; replace hp98b := Eq.symm hp98b; subst hp98; subst hp98b
                      refine r_icmp_le o (tgt := 108) dX10_waves_101 (by decide) (fun hb101 => ?_) (fun hb101 => ?_)
                      · skip
                        rw [smW_c (by omega) (by omega) (by omega)] at hb101
                        refine r_iconst o (v := nI 0) dX10_waves_108 (by decide) ?_
                        refine r_istore o (lv' := [(8, .int (nI 0)), (0, .ref (gad G 11)), (1, .int (nI nz.toNatClampNeg)), (2, .int (nI mz.toNatClampNeg)), (3, .int pz), (4, .long (lN (wvM nz.toNatClampNeg mz.toNatClampNeg kq + wvI mz.toNatClampNeg kq jq))), (6, .int (nI kq)), (7, .int (nI (mz.toNatClampNeg + jq)))]) dX10_waves_109 (by decide) rfl ?_
                        refine r_lload o dX10_waves_111 5 rfl ?_
                        refine r_iload o dX10_waves_113 0 rfl ?_
                        refine r_if_eq o (tgt := 122) dX10_waves_115 (by decide) (fun hb115 => ?_) (fun hb115 => ?_)
                        · skip
                          refine r_lconst o (v := 0) dX10_waves_122 rfl ?_
                          refine r_ladd o dX10_waves_123 ?_
                          refine r_lstore o (lv' := [(4, .long ((lN (wvM nz.toNatClampNeg mz.toNatClampNeg kq + wvI mz.toNatClampNeg kq jq)) + 0)), (8, .int (nI 0)), (0, .ref (gad G 11)), (1, .int (nI nz.toNatClampNeg)), (2, .int (nI mz.toNatClampNeg)), (3, .int pz), (6, .int (nI kq)), (7, .int (nI (mz.toNatClampNeg + jq)))]) dX10_waves_124 (by decide) rfl ?_
                          refine r_lv (lv' := [(4, .long (lN (wvM nz.toNatClampNeg mz.toNatClampNeg kq + wvI mz.toNatClampNeg kq (jq + 1)))), (8, .int (nI 0)), (0, .ref (gad G 11)), (1, .int (nI nz.toNatClampNeg)), (2, .int (nI mz.toNatClampNeg)), (3, .int pz), (6, .int (nI kq)), (7, .int (nI (mz.toNatClampNeg + jq)))]) (congrArg (fun zz => ([(4, .long zz), (8, .int (nI 0)), (0, .ref (gad G 11)), (1, .int (nI nz.toNatClampNeg)), (2, .int (nI mz.toNatClampNeg)), (3, .int pz), (6, .int (nI kq)), (7, .int (nI (mz.toNatClampNeg + jq)))] : List (Nat × Value))) (show lN (wvM nz.toNatClampNeg mz.toNatClampNeg kq + wvI mz.toNatClampNeg kq jq) + 0 = lN (wvM nz.toNatClampNeg mz.toNatClampNeg kq + wvI mz.toNatClampNeg kq (jq + 1)) by rw [Int64.add_zero]; exact congrArg lN (by show _ = wvM nz.toNatClampNeg mz.toNatClampNeg kq + (wvI mz.toNatClampNeg kq jq + (if _ then _ else _)); rw [if_neg (by unfold tpW; rw [Bool.and_eq_true, decide_eq_true_eq, decide_eq_true_eq]; omega), Nat.add_zero]))) ?_
                          refine r_iinc o (v := nI (mz.toNatClampNeg + jq + 1)) (lv' := [(7, .int (nI (mz.toNatClampNeg + jq + 1))), (4, .long (lN (wvM nz.toNatClampNeg mz.toNatClampNeg kq + wvI mz.toNatClampNeg kq (jq + 1)))), (8, .int (nI 0)), (0, .ref (gad G 11)), (1, .int (nI nz.toNatClampNeg)), (2, .int (nI mz.toNatClampNeg)), (3, .int pz), (6, .int (nI kq))]) dX10_waves_126 7 rfl (nI_inc _) (by decide) rfl ?_
                          refine r_goto o (tgt := 54) dX10_waves_129 (by decide) ?_
                          exact r_to rfl [3, 4, 5, 6, 1, 7, 0] rfl (ih54 (jq + 1) (by omega) (by omega))
                        · exact absurd hb115 (by decide)
                      · skip
                        rw [smW_c (by omega) (by omega) (by omega)] at hb101
                        refine r_iconst o (v := nI 1) dX10_waves_104 (by decide) ?_
                        refine r_goto o (tgt := 109) dX10_waves_105 (by decide) ?_
                        refine r_istore o (lv' := [(8, .int (nI 1)), (0, .ref (gad G 11)), (1, .int (nI nz.toNatClampNeg)), (2, .int (nI mz.toNatClampNeg)), (3, .int pz), (4, .long (lN (wvM nz.toNatClampNeg mz.toNatClampNeg kq + wvI mz.toNatClampNeg kq jq))), (6, .int (nI kq)), (7, .int (nI (mz.toNatClampNeg + jq)))]) dX10_waves_109 (by decide) rfl ?_
                        refine r_lload o dX10_waves_111 5 rfl ?_
                        refine r_iload o dX10_waves_113 0 rfl ?_
                        refine r_if_eq o (tgt := 122) dX10_waves_115 (by decide) (fun hb115 => ?_) (fun hb115 => ?_)
                        · exact absurd hb115 (by decide)
                        · skip
                          refine r_lconst o (v := 1) dX10_waves_118 rfl ?_
                          refine r_goto o (tgt := 123) dX10_waves_119 (by decide) ?_
                          refine r_ladd o dX10_waves_123 ?_
                          refine r_lstore o (lv' := [(4, .long ((lN (wvM nz.toNatClampNeg mz.toNatClampNeg kq + wvI mz.toNatClampNeg kq jq)) + 1)), (8, .int (nI 1)), (0, .ref (gad G 11)), (1, .int (nI nz.toNatClampNeg)), (2, .int (nI mz.toNatClampNeg)), (3, .int pz), (6, .int (nI kq)), (7, .int (nI (mz.toNatClampNeg + jq)))]) dX10_waves_124 (by decide) rfl ?_
                          refine r_lv (lv' := [(4, .long (lN (wvM nz.toNatClampNeg mz.toNatClampNeg kq + wvI mz.toNatClampNeg kq (jq + 1)))), (8, .int (nI 1)), (0, .ref (gad G 11)), (1, .int (nI nz.toNatClampNeg)), (2, .int (nI mz.toNatClampNeg)), (3, .int pz), (6, .int (nI kq)), (7, .int (nI (mz.toNatClampNeg + jq)))]) (congrArg (fun zz => ([(4, .long zz), (8, .int (nI 1)), (0, .ref (gad G 11)), (1, .int (nI nz.toNatClampNeg)), (2, .int (nI mz.toNatClampNeg)), (3, .int pz), (6, .int (nI kq)), (7, .int (nI (mz.toNatClampNeg + jq)))] : List (Nat × Value))) (show lN (wvM nz.toNatClampNeg mz.toNatClampNeg kq + wvI mz.toNatClampNeg kq jq) + 1 = lN (wvM nz.toNatClampNeg mz.toNatClampNeg kq + wvI mz.toNatClampNeg kq (jq + 1)) by rw [lN_1]; exact congrArg lN (by show _ = wvM nz.toNatClampNeg mz.toNatClampNeg kq + (wvI mz.toNatClampNeg kq jq + (if _ then _ else _)); rw [if_pos (by unfold tpW; rw [decide_eq_true (show cntW kq (mz.toNatClampNeg + jq - 1) mz.toNatClampNeg < cntW kq (mz.toNatClampNeg + jq) mz.toNatClampNeg by omega), decide_eq_true (show cntW kq (mz.toNatClampNeg + jq + 1) mz.toNatClampNeg < cntW kq (mz.toNatClampNeg + jq) mz.toNatClampNeg by omega)]; rfl), Nat.add_assoc]))) ?_
                          refine r_iinc o (v := nI (mz.toNatClampNeg + jq + 1)) (lv' := [(7, .int (nI (mz.toNatClampNeg + jq + 1))), (4, .long (lN (wvM nz.toNatClampNeg mz.toNatClampNeg kq + wvI mz.toNatClampNeg kq (jq + 1)))), (8, .int (nI 1)), (0, .ref (gad G 11)), (1, .int (nI nz.toNatClampNeg)), (2, .int (nI mz.toNatClampNeg)), (3, .int pz), (6, .int (nI kq))]) dX10_waves_126 7 rfl (nI_inc _) (by decide) rfl ?_
                          refine r_goto o (tgt := 54) dX10_waves_129 (by decide) ?_
                          exact r_to rfl [3, 4, 5, 6, 1, 7, 0] rfl (ih54 (jq + 1) (by omega) (by omega))
              exact r_to rfl [1, 2, 3, 4, 5, 6, 0] rfl (L54 _ 0 (Nat.zero_le _) (Nat.lt_succ_self _))
        exact r_to rfl [2, 3, 4, 5, 1, 0] rfl (L43 _ 0 (Nat.zero_le _) (Nat.lt_succ_self _))
      · skip
        rw [b01_eq0] at hb30
        refine r_ldc2_w o mw_859 dX10_waves_33 ?_
        exact r_lreturn o q dX10_waves_36 (⟨by rw [if_pos (by first | (rw [hb11]; rfl) | (rw [hb23]; simp; done) | (rw [hb30]; simp; done))], rfl⟩)
set_option maxHeartbeats 4000000 in
set_option maxRecDepth 100000 in
theorem c_X10_choose (l : Launch) (G : Gl) (σ : Sto) (nq : Nat) (hnq : nq ≤ 24) (kq : Nat) (hkq : kq ≤ nq) : CtL l G yX10_choose cX10_choose 5 (some .long) 0 0 [.int (nI nq), .int (nI kq)] σ (fun r σ' => r = chW nq kq kq ∧ σ' = σ) := by
  refine CtL.of (by decide +kernel) (Nat.le_of_ble_eq_true rfl) (fun X o q => ?_)
  show WS X G 5 σ 0 [(0, .int (nI nq)), (1, .int (nI kq))] []
  refine r_lconst o (v := 1) dX10_choose_0 rfl ?_
  refine r_lstore_n o (lv' := [(2, .long 1), (0, .int (nI nq)), (1, .int (nI kq))]) dX10_choose_1 (by decide) rfl ?_
  refine r_iconst o (v := nI 1) dX10_choose_2 (by decide) ?_
  refine r_istore o (lv' := [(4, .int (nI 1)), (2, .long 1), (0, .int (nI nq)), (1, .int (nI kq))]) dX10_choose_3 (by decide) rfl ?_
  have L5 : ∀ (n : Nat) (iq : Nat) (hiq : iq ≤ kq), kq - iq < n → WS X G 5 σ 5 [(0, .int (nI nq)), (1, .int (nI kq)), (2, .long (chW nq kq iq)), (4, .int (nI (iq + 1)))] [] := by
    intro n
    induction n with
    | zero => intro iq hiq hm; exact absurd hm (Nat.not_lt_zero _)
    | succ n ih5 =>
      intro iq hiq hm
      refine r_iload o dX10_choose_5 3 rfl ?_
      refine r_iload_n o dX10_choose_7 1 rfl ?_
      refine r_icmp_gt o (tgt := 31) dX10_choose_8 (by decide) (fun hb8 => ?_) (fun hb8 => ?_)
      · skip
        rw [nI_ltI (by omega) (by omega)] at hb8
        obtain rfl : kq = iq := by omega
        refine r_lload_n o dX10_choose_31 2 rfl ?_
        exact r_lreturn o q dX10_choose_32 (⟨rfl, rfl⟩)
      · skip
        rw [nI_ltI (by omega) (by omega)] at hb8
        refine r_lload_n o dX10_choose_11 2 rfl ?_
        refine r_iload_n o dX10_choose_12 0 rfl ?_
        refine r_iload_n o dX10_choose_13 1 rfl ?_
        refine r_isub o dX10_choose_14 ?_
        refine r_topi (y := nI (nq - kq)) (nI_sub' (by omega)) ?_
        refine r_iload o dX10_choose_15 3 rfl ?_
        refine r_iadd o dX10_choose_17 ?_
        refine r_topi (y := nI (nq - kq + (iq + 1))) (nI_add' _ _) ?_
        refine r_i2l o dX10_choose_18 rfl ?_
        refine r_lmul o dX10_choose_19 ?_
        refine r_iload o dX10_choose_20 3 rfl ?_
        refine r_i2l o dX10_choose_22 rfl ?_
        refine r_ldiv o dX10_choose_23 (i2l_ne (by omega) (by omega)) ?_
        refine r_topl (y := chW nq kq (iq + 1)) rfl ?_
        refine r_lstore_n o (lv' := [(2, .long (chW nq kq (iq + 1))), (0, .int (nI nq)), (1, .int (nI kq)), (4, .int (nI (iq + 1)))]) dX10_choose_24 (by decide) rfl ?_
        refine r_iinc o (v := nI (iq + 1 + 1)) (lv' := [(4, .int (nI (iq + 1 + 1))), (2, .long (chW nq kq (iq + 1))), (0, .int (nI nq)), (1, .int (nI kq))]) dX10_choose_25 3 rfl (nI_inc _) (by decide) rfl ?_
        refine r_goto o (tgt := 5) dX10_choose_28 (by decide) ?_
        exact r_to rfl [2, 3, 1, 0] rfl (ih5 (iq + 1) (by omega) (by omega))
  exact r_to rfl [2, 3, 1, 0] rfl (L5 _ 0 (by omega) (Nat.lt_succ_self _))
set_option maxHeartbeats 4000000 in
set_option maxRecDepth 100000 in
theorem c_X10_findHeld (l : Launch) (G : Gl) (σ : Sto) (sn : Nat → Nat) (cntq : Nat) (hp : PadM σ sn cntq) (hyb : ∀ rq, rq < 6 → BdF (yrF σ rq)) (rq : Nat) (hrq : rq < 6) (y0q : Nat) (hy0 : 4 ≤ y0q ∧ y0q ≤ 22) (hno : fltF sn cntq 21 0 = none) : CtV l G yX10_findHeld cX10_findHeld 13 none 5 115 [.ref (gad G 11), .int (nI rq), .int (nI y0q)] σ (fun σ' => (σ' 11).1 14 = nI (fgS (yeF (dlM σ sn cntq rq) y0q) (gcnt (dlM σ sn cntq rq) y0q) (nuF (dlM σ sn cntq rq) y0q) 2 11).1 ∧ (σ' 11).1 15 = nI (lkS (yeF (dlM σ sn cntq rq) y0q) (gcnt (dlM σ sn cntq rq) y0q) (fgS (yeF (dlM σ sn cntq rq) y0q) (gcnt (dlM σ sn cntq rq) y0q) (nuF (dlM σ sn cntq rq) y0q) 2 11).1 (nuF (dlM σ sn cntq rq) y0q) (dlM σ sn cntq rq) y0q (24 - y0q)).1 ∧ (σ' 11).1 16 = nI (lkS (yeF (dlM σ sn cntq rq) y0q) (gcnt (dlM σ sn cntq rq) y0q) (fgS (yeF (dlM σ sn cntq rq) y0q) (gcnt (dlM σ sn cntq rq) y0q) (nuF (dlM σ sn cntq rq) y0q) 2 11).1 (nuF (dlM σ sn cntq rq) y0q) (dlM σ sn cntq rq) y0q (24 - y0q)).2 ∧ keepM σ σ') := by
  refine CtV.of (by decide +kernel) (Nat.le_of_ble_eq_true rfl) (fun X o q => ?_)
  show WS X G 13 σ 0 [(0, .ref (gad G 11)), (1, .int (nI rq)), (2, .int (nI y0q))] []
  obtain ⟨hcq, hcnt, hsg, hsn⟩ := id hp
  obtain ⟨dq5, hdq5⟩ : ∃ zq, zq = dlM σ sn cntq rq := ⟨_, rfl⟩
  have hbd : BdF dq5 := by rw [hdq5]; exact bd_deal 21 0 (hyb rq hrq)
  have hsm := nu_sm (endq := y0q) hbd (by omega)
  have hgl := gcnt_le dq5 y0q
  obtain ⟨lfq, hlfe⟩ : ∃ zq, zq = (fgS (yeF dq5 y0q) (gcnt dq5 y0q) (nuF dq5 y0q) 2 11).1 := ⟨_, rfl⟩
  have hfr := fgS_in (yrq := (yeF dq5 y0q)) (nq := (gcnt dq5 y0q)) (f1q := 2) (xf := (nuF dq5 y0q)) 11
  rw [← hlfe] at hfr
  refine r_aload_n o dX10_findHeld_0 0 rfl ?_
  refine r_iload_n o dX10_findHeld_1 1 rfl ?_
  refine r_callVV o (As := [.int (nI rq)]) (st := []) (c_X10_deal (xl X) G σ sn cntq hp rq hrq hno (hyb rq hrq)) om_X10_deal mw_831 mw_18 mw_829 (by decide) rfl rfl rfl (by decide) rfl rfl (Nat.le_of_ble_eq_true rfl) dX10_findHeld_2 (fun σσ2 hp2 => ?_)
  obtain ⟨hdd, hkk⟩ := hp2
  rw [← hdq5] at hdd
  refine r_aload_n o dX10_findHeld_5 0 rfl ?_
  refine r_iload_n o dX10_findHeld_6 2 rfl ?_
  refine r_callVV o (As := [.int (nI y0q)]) (st := []) (c_X10_layN (xl X) G σσ2 σ dq5 y0q (by omega) hdd hkk) om_X10_layNumbers mw_863 mw_21 mw_861 (by decide) rfl rfl rfl (by decide) rfl rfl (Nat.le_of_ble_eq_true rfl) dX10_findHeld_7 (fun σσ7 hp7 => ?_)
  have hnm := nm_f hp7 14 (Or.inl rfl) (nI 2)
  refine r_aload_n o dX10_findHeld_10 0 rfl ?_
  refine r_iconst o (v := nI 2) dX10_findHeld_11 (by decide) ?_
  refine pf_11_14 o mw_712 dX10_findHeld_12 ?_
  refine r_aload_n o dX10_findHeld_15 0 rfl ?_
  refine r_callVL o (As := []) (st := []) (c_X10_loN (xl X) G (sti σσ7 11 14 (nI 2)) σ dq5 y0q (by omega) (nuF dq5 y0q) hnm) om_X10_lowerOf mw_867 mw_22 mw_865 (by decide) rfl rfl rfl (by decide) rfl rfl (Nat.le_of_ble_eq_true rfl) dX10_findHeld_16 (fun rr16 σσ16 hp16 => ?_)
  obtain ⟨hp16, hp16b⟩ := hp16; replace hp16 := Eq.symm hp16; replace hp16b := Eq.symm hp16b; subst hp16; subst hp16b
  refine r_lconst o (v := 0) dX10_findHeld_19 rfl ?_
  refine r_lcmp o dX10_findHeld_20 ?_
  refine r_if_ne o (tgt := 28) dX10_findHeld_21 (by decide) (fun hb21 => ?_) (fun hb21 => ?_)
  · skip
    rw [lg_cmp_eq] at hb21
    refine r_aload_n o dX10_findHeld_28 0 rfl ?_
    refine r_iconst o (v := nI 2) dX10_findHeld_29 (by decide) ?_
    refine r_callVL o (As := [.int (nI 2)]) (st := []) (c_X10_upK (xl X) G (sti σσ7 11 14 (nI 2)) σ dq5 y0q (by omega) (nuF dq5 y0q) hnm 2 (by omega)) om_X10_upperOf mw_876 mw_24 mw_874 (by decide) rfl rfl rfl (by decide) rfl rfl (Nat.le_of_ble_eq_true rfl) dX10_findHeld_30 (fun rr30 σσ30 hp30 => ?_)
    obtain ⟨hu2, hnm2, hk30⟩ := hp30
    subst hu2
    have hf2 : (σσ30 11).1 14 = nI 2 := by rw [hk30 11 (by decide) (by decide), sti_eq]
    refine r_lstore_n o (lv' := [(3, .long (upF (yeF dq5 y0q) (gcnt dq5 y0q) (nuF dq5 y0q) 2)), (0, .ref (gad G 11)), (1, .int (nI rq)), (2, .int (nI y0q))]) dX10_findHeld_33 (by decide) rfl ?_
    refine r_iconst o (v := nI 3) dX10_findHeld_34 (by decide) ?_
    refine r_istore o (lv' := [(5, .int (nI 3)), (3, .long (upF (yeF dq5 y0q) (gcnt dq5 y0q) (nuF dq5 y0q) 2)), (0, .ref (gad G 11)), (1, .int (nI rq)), (2, .int (nI y0q))]) dX10_findHeld_35 (by decide) rfl ?_
    have L37 : ∀ (n : Nat) (iq : Nat) (τq : Sto) (hiq : iq ≤ 10) (hnt : NmX σ τq dq5 y0q (nuF dq5 y0q)) (hf14 : (τq 11).1 14 = nI (fdS (yeF dq5 y0q) (gcnt dq5 y0q) (nuF dq5 y0q) iq).1), 10 - iq < n → WS X G 13 τq 37 [(0, .ref (gad G 11)), (1, .int (nI rq)), (2, .int (nI y0q)), (3, .long ((fdS (yeF dq5 y0q) (gcnt dq5 y0q) (nuF dq5 y0q) iq).2)), (5, .int (nI (3 + iq)))] [] := by
      intro n
      induction n with
      | zero => intro iq τq hiq hnt hf14 hm; exact absurd hm (Nat.not_lt_zero _)
      | succ n ih37 =>
        intro iq τq hiq hnt hf14 hm
        refine r_iload o dX10_findHeld_37 4 rfl ?_
        refine r_bipush o (v := nI 12) dX10_findHeld_39 (by decide) ?_
        refine r_icmp_gt o (tgt := 101) dX10_findHeld_41 (by decide) (fun hb41 => ?_) (fun hb41 => ?_)
        · skip
          rw [nI_ltI (by omega) (by omega)] at hb41
          obtain rfl : iq = 10 := by omega
          have hLF := hlfe.trans (found_1 hbd (by omega) hb21)
          refine r_aload_n o dX10_findHeld_101 0 rfl ?_
          refine r_aload_n o dX10_findHeld_102 0 rfl ?_
          refine gf_11_14 o (v := nI lfq) (by rw [hLF]; exact hf14) mw_712 dX10_findHeld_103 ?_
          refine r_callVV o (As := [.int (nI lfq)]) (st := []) (c_X10_heN (xl X) G τq σ dq5 y0q (by omega) (nuF dq5 y0q) hnt lfq (by omega)) om_X10_layHeaps mw_880 mw_25 mw_878 (by decide) rfl rfl rfl (by decide) rfl rfl (Nat.le_of_ble_eq_true rfl) dX10_findHeld_106 (fun σσ106 hp106 => ?_)
          obtain ⟨hhp, hnh, hkh⟩ := hp106
          have hf14h : (σσ106 11).1 14 = nI lfq := by rw [hkh 11 (by decide) (by decide), hLF]; exact hf14
          refine r_aload_n o dX10_findHeld_109 0 rfl ?_
          refine r_callVL o (As := []) (st := []) (c_X10_sumN (xl X) G σσ106 σ dq5 y0q (by omega) (nuF dq5 y0q) hnh) om_X10_sumOf mw_871 mw_23 mw_869 (by decide) rfl rfl rfl (by decide) rfl rfl (Nat.le_of_ble_eq_true rfl) dX10_findHeld_110 (fun rr110 σσ110 hp110 => ?_)
          obtain ⟨hp110, hp110b⟩ := hp110; replace hp110 := Eq.symm hp110; replace hp110b := Eq.symm hp110b; subst hp110; subst hp110b
          refine r_lstore o (lv' := [(5, .long (sumL (nuF dq5 y0q) (gcnt dq5 y0q))), (0, .ref (gad G 11)), (1, .int (nI rq)), (2, .int (nI y0q)), (3, .long ((fdS (yeF dq5 y0q) (gcnt dq5 y0q) (nuF dq5 y0q) 10).2))]) dX10_findHeld_113 (by decide) rfl ?_
          refine r_aload_n o dX10_findHeld_115 1 rfl ?_
          refine r_iconst o (v := nI 0) dX10_findHeld_116 (by decide) ?_
          refine pf_11_15 o mw_713 dX10_findHeld_117 ?_
          refine r_aload_n o dX10_findHeld_120 1 rfl ?_
          refine r_iconst o (v := nI 0) dX10_findHeld_121 (by decide) ?_
          refine pf_11_16 o mw_714 dX10_findHeld_122 ?_
          refine r_iload_n o dX10_findHeld_125 3 rfl ?_
          refine r_istore o (lv' := [(7, .int (nI y0q)), (5, .long (sumL (nuF dq5 y0q) (gcnt dq5 y0q))), (0, .ref (gad G 11)), (1, .int (nI rq)), (2, .int (nI y0q)), (3, .long ((fdS (yeF dq5 y0q) (gcnt dq5 y0q) (nuF dq5 y0q) 10).2))]) dX10_findHeld_126 (by decide) rfl ?_
          have L128 : ∀ (n : Nat) (jq : Nat) (ρq : Sto) (hjq : jq ≤ 24 - y0q) (hnr : NmX σ ρq dq5 y0q (nuF dq5 y0q)) (hhr : ∀ rq, rq < lfq → (ρq 77).2 rq = hsum (yeF dq5 y0q) lfq rq (nuF dq5 y0q) (gcnt dq5 y0q) ∧ (ρq 78).1 rq = nI (cntR (yeF dq5 y0q) lfq rq (gcnt dq5 y0q))) (hr14 : (ρq 11).1 14 = nI lfq) (hr15 : (ρq 11).1 15 = nI (lkS (yeF dq5 y0q) (gcnt dq5 y0q) lfq (nuF dq5 y0q) dq5 y0q jq).1) (hr16 : (ρq 11).1 16 = nI (lkS (yeF dq5 y0q) (gcnt dq5 y0q) lfq (nuF dq5 y0q) dq5 y0q jq).2), 24 - y0q - jq < n → WS X G 13 ρq 128 [(0, .ref (gad G 11)), (1, .int (nI rq)), (2, .int (nI y0q)), (3, .long ((fdS (yeF dq5 y0q) (gcnt dq5 y0q) (nuF dq5 y0q) 10).2)), (5, .long (sumL (nuF dq5 y0q) (gcnt dq5 y0q))), (7, .int (nI (y0q + jq)))] [] := by
            intro n
            induction n with
            | zero => intro jq ρq hjq hnr hhr hr14 hr15 hr16 hm; exact absurd hm (Nat.not_lt_zero _)
            | succ n ih128 =>
              intro jq ρq hjq hnr hhr hr14 hr15 hr16 hm
              have hml : (y0q + jq) % lfq < lfq := Nat.mod_lt _ (by omega)
              have hcl := cntR_le (yeF dq5 y0q) lfq ((y0q + jq) % lfq) (gcnt dq5 y0q)
              refine r_iload o dX10_findHeld_128 5 rfl ?_
              refine r_bipush o (v := nI 24) dX10_findHeld_130 (by decide) ?_
              refine r_icmp_ge o (tgt := 288) dX10_findHeld_132 (by decide) (fun hb132 => ?_) (fun hb132 => ?_)
              · skip
                rw [nI_leI (by omega) (by omega)] at hb132
                obtain rfl : jq = 24 - y0q := by omega
                exact r_return o q dX10_findHeld_288 (by rw [← hdq5, ← hlfe]; exact ⟨hr14, hr15, hr16, hnr.2.2.2.2⟩)
              · skip
                rw [nI_leI (by omega) (by omega)] at hb132
                refine r_iload o dX10_findHeld_135 5 rfl ?_
                refine r_aload_n o dX10_findHeld_137 0 rfl ?_
                refine gf_11_14 o (v := nI lfq) hr14 mw_712 dX10_findHeld_138 ?_
                refine r_irem o dX10_findHeld_141 (nI_z (by omega) (by omega)) ?_
                refine r_topi (y := nI ((y0q + jq) % lfq)) (nI_rem' (by omega) (by omega) (by omega)) ?_
                refine r_istore o (lv' := [(8, .int (nI ((y0q + jq) % lfq))), (0, .ref (gad G 11)), (1, .int (nI rq)), (2, .int (nI y0q)), (3, .long ((fdS (yeF dq5 y0q) (gcnt dq5 y0q) (nuF dq5 y0q) 10).2)), (5, .long (sumL (nuF dq5 y0q) (gcnt dq5 y0q))), (7, .int (nI (y0q + jq)))]) dX10_findHeld_142 (by decide) rfl ?_
                refine r_aload_n o dX10_findHeld_144 1 rfl ?_
                refine gf_11_3 o mw_701 dX10_findHeld_145 ?_
                refine r_iload o dX10_findHeld_148 6 rfl ?_
                refine r_ia o (by decide) ia_73 (f := (ρq 73).1) rfl (y0q + jq) rfl (by omega) (by decide) dX10_findHeld_150 ?_
                refine r_topi (y := dq5 (y0q + jq)) (hnr.2.2.2.1 (y0q + jq) (by omega)) ?_
                refine r_ldc o mw_697 dX10_findHeld_151 ?_
                refine r_icmp_eq o (tgt := 282) dX10_findHeld_153 (by decide) (fun hb153 => ?_) (fun hb153 => ?_)
                · skip
                  have hst := (lkS_g (yrq := (yeF dq5 y0q)) (nq := (gcnt dq5 y0q)) (lq := lfq) (xf := (nuF dq5 y0q)) (bf := dq5) (yq1 := y0q) hb153).symm
                  refine r_iinc o (v := nI (y0q + jq + 1)) (lv' := [(7, .int (nI (y0q + jq + 1))), (8, .int (nI ((y0q + jq) % lfq))), (0, .ref (gad G 11)), (1, .int (nI rq)), (2, .int (nI y0q)), (3, .long ((fdS (yeF dq5 y0q) (gcnt dq5 y0q) (nuF dq5 y0q) 10).2)), (5, .long (sumL (nuF dq5 y0q) (gcnt dq5 y0q)))]) dX10_findHeld_282 6 rfl (nI_inc _) (by decide) rfl ?_
                  refine r_goto o (tgt := 128) dX10_findHeld_285 (by decide) ?_
                  exact r_to rfl [2, 3, 4, 5, 6, 0] rfl (ih128 (jq + 1) ρq (by omega) hnr hhr hr14 (by rw [hr15, hst]) (by rw [hr16, hst]) (by omega))
                · skip
                  have hbv := (hbd (y0q + jq) (by omega)).resolve_left hb153
                  refine r_aload_n o dX10_findHeld_156 1 rfl ?_
                  refine gf_11_9 o mw_707 dX10_findHeld_157 ?_
                  refine r_iload o dX10_findHeld_160 0 rfl ?_
                  refine r_ia o (by decide) ia_78 (f := (ρq 78).1) rfl ((y0q + jq) % lfq) rfl (by omega) (by decide) dX10_findHeld_162 ?_
                  refine r_topi (y := nI (cntR (yeF dq5 y0q) lfq ((y0q + jq) % lfq) (gcnt dq5 y0q))) ((hhr ((y0q + jq) % lfq) hml).2) ?_
                  refine r_if_le o (tgt := 282) dX10_findHeld_163 (by decide) (fun hb163 => ?_) (fun hb163 => ?_)
                  · skip
                    rw [nI_le0 (by omega)] at hb163
                    have hst := (hl_z (yrq := (yeF dq5 y0q)) (nq := (gcnt dq5 y0q)) (lq := lfq) (xf := (nuF dq5 y0q)) (bf := dq5) (yq1 := y0q) hb153 (by omega)).symm
                    refine r_iinc o (v := nI (y0q + jq + 1)) (lv' := [(7, .int (nI (y0q + jq + 1))), (8, .int (nI ((y0q + jq) % lfq))), (0, .ref (gad G 11)), (1, .int (nI rq)), (2, .int (nI y0q)), (3, .long ((fdS (yeF dq5 y0q) (gcnt dq5 y0q) (nuF dq5 y0q) 10).2)), (5, .long (sumL (nuF dq5 y0q) (gcnt dq5 y0q)))]) dX10_findHeld_282 6 rfl (nI_inc _) (by decide) rfl ?_
                    refine r_goto o (tgt := 128) dX10_findHeld_285 (by decide) ?_
                    exact r_to rfl [2, 3, 4, 5, 6, 0] rfl (ih128 (jq + 1) ρq (by omega) hnr hhr hr14 (by rw [hr15, hst]) (by rw [hr16, hst]) (by omega))
                  · skip
                    rw [nI_le0 (by omega)] at hb163
                    have hst := hl_s (yrq := (yeF dq5 y0q)) (nq := (gcnt dq5 y0q)) (lq := lfq) (xf := (nuF dq5 y0q)) (bf := dq5) (yq1 := y0q) hb153 hsm (by omega) hbv.1 hbv.2
                    refine r_aload_n o dX10_findHeld_166 1 rfl ?_
                    refine gf_11_3 o mw_701 dX10_findHeld_167 ?_
                    refine r_iload o dX10_findHeld_170 6 rfl ?_
                    refine r_ia o (by decide) ia_73 (f := (ρq 73).1) rfl (y0q + jq) rfl (by omega) (by decide) dX10_findHeld_172 ?_
                    refine r_topi (y := dq5 (y0q + jq)) (hnr.2.2.2.1 (y0q + jq) (by omega)) ?_
                    refine r_i2l o dX10_findHeld_173 rfl ?_
                    refine r_aload_n o dX10_findHeld_174 1 rfl ?_
                    refine gf_11_7 o (v := nI (gcnt dq5 y0q)) hnr.1 mw_705 dX10_findHeld_175 ?_
                    refine r_i2l o dX10_findHeld_178 rfl ?_
                    refine r_lmul o dX10_findHeld_179 ?_
                    refine r_lload o dX10_findHeld_180 5 rfl ?_
                    refine r_lsub o dX10_findHeld_182 ?_
                    refine r_lstore o (lv' := [(9, .long ((((dq5 (y0q + jq)).toInt64) * ((nI (gcnt dq5 y0q)).toInt64)) - (sumL (nuF dq5 y0q) (gcnt dq5 y0q)))), (8, .int (nI ((y0q + jq) % lfq))), (0, .ref (gad G 11)), (1, .int (nI rq)), (2, .int (nI y0q)), (3, .long ((fdS (yeF dq5 y0q) (gcnt dq5 y0q) (nuF dq5 y0q) 10).2)), (5, .long (sumL (nuF dq5 y0q) (gcnt dq5 y0q))), (7, .int (nI (y0q + jq)))]) dX10_findHeld_183 (by decide) rfl ?_
                    refine r_aload_n o dX10_findHeld_185 2 rfl ?_
                    refine gf_11_8 o mw_706 dX10_findHeld_186 ?_
                    refine r_iload o dX10_findHeld_189 1 rfl ?_
                    refine r_la o (by decide) la_77 (f := (ρq 77).2) rfl ((y0q + jq) % lfq) rfl (by omega) (by decide) dX10_findHeld_191 ?_
                    refine r_topl (y := hsum (yeF dq5 y0q) lfq ((y0q + jq) % lfq) (nuF dq5 y0q) (gcnt dq5 y0q)) ((hhr ((y0q + jq) % lfq) hml).1) ?_
                    refine r_aload_n o dX10_findHeld_192 2 rfl ?_
                    refine gf_11_7 o (v := nI (gcnt dq5 y0q)) hnr.1 mw_705 dX10_findHeld_193 ?_
                    refine r_i2l o dX10_findHeld_196 rfl ?_
                    refine r_lmul o dX10_findHeld_197 ?_
                    refine r_lload o dX10_findHeld_198 6 rfl ?_
                    refine r_aload_n o dX10_findHeld_200 2 rfl ?_
                    refine gf_11_9 o mw_707 dX10_findHeld_201 ?_
                    refine r_iload o dX10_findHeld_204 1 rfl ?_
                    refine r_ia o (by decide) ia_78 (f := (ρq 78).1) rfl ((y0q + jq) % lfq) rfl (by omega) (by decide) dX10_findHeld_206 ?_
                    refine r_topi (y := nI (cntR (yeF dq5 y0q) lfq ((y0q + jq) % lfq) (gcnt dq5 y0q))) ((hhr ((y0q + jq) % lfq) hml).2) ?_
                    refine r_i2l o dX10_findHeld_207 rfl ?_
                    refine r_lmul o dX10_findHeld_208 ?_
                    refine r_lsub o dX10_findHeld_209 ?_
                    refine r_lstore o (lv' := [(11, .long (((hsum (yeF dq5 y0q) lfq ((y0q + jq) % lfq) (nuF dq5 y0q) (gcnt dq5 y0q)) * ((nI (gcnt dq5 y0q)).toInt64)) - ((sumL (nuF dq5 y0q) (gcnt dq5 y0q)) * ((nI (cntR (yeF dq5 y0q) lfq ((y0q + jq) % lfq) (gcnt dq5 y0q))).toInt64)))), (9, .long ((((dq5 (y0q + jq)).toInt64) * ((nI (gcnt dq5 y0q)).toInt64)) - (sumL (nuF dq5 y0q) (gcnt dq5 y0q)))), (8, .int (nI ((y0q + jq) % lfq))), (0, .ref (gad G 11)), (1, .int (nI rq)), (2, .int (nI y0q)), (3, .long ((fdS (yeF dq5 y0q) (gcnt dq5 y0q) (nuF dq5 y0q) 10).2)), (5, .long (sumL (nuF dq5 y0q) (gcnt dq5 y0q))), (7, .int (nI (y0q + jq)))]) dX10_findHeld_210 (by decide) rfl ?_
                    refine r_aload_n o dX10_findHeld_212 3 rfl ?_
                    refine r_dup o dX10_findHeld_213 rfl ?_
                    refine gf_11_16 o (v := nI ((lkS (yeF dq5 y0q) (gcnt dq5 y0q) lfq (nuF dq5 y0q) dq5 y0q jq).2)) hr16 mw_714 dX10_findHeld_214 ?_
                    refine r_lload o dX10_findHeld_217 1 rfl ?_
                    refine r_lconst o (v := 0) dX10_findHeld_219 rfl ?_
                    refine r_lcmp o dX10_findHeld_220 ?_
                    refine r_if_eq o (tgt := 235) dX10_findHeld_221 (by decide) (fun hb221 => ?_) (fun hb221 => ?_)
                    · skip
                      rw [lg_cmp_eq] at hb221
                      refine r_iconst o (v := nI 0) dX10_findHeld_235 (by decide) ?_
                      refine r_topi (y := nI (i2q ((dq5 (y0q + jq)).toInt64 * (nI (gcnt dq5 y0q)).toInt64 - sumL (nuF dq5 y0q) (gcnt dq5 y0q)) (hsum (yeF dq5 y0q) lfq ((y0q + jq) % lfq) (nuF dq5 y0q) (gcnt dq5 y0q) * (nI (gcnt dq5 y0q)).toInt64 - sumL (nuF dq5 y0q) (gcnt dq5 y0q) * (nI (cntR (yeF dq5 y0q) lfq ((y0q + jq) % lfq) (gcnt dq5 y0q))).toInt64))) (by unfold i2q; first | (rw [if_pos hb221]; done) | (rw [if_neg hb221, if_pos hb228]; done) | (rw [if_neg hb221, if_neg hb228]; done)) ?_
                      refine r_iadd o dX10_findHeld_236 ?_
                      refine r_topi (y := nI ((lkS (yeF dq5 y0q) (gcnt dq5 y0q) lfq (nuF dq5 y0q) dq5 y0q jq).2 + (i2q ((dq5 (y0q + jq)).toInt64 * (nI (gcnt dq5 y0q)).toInt64 - sumL (nuF dq5 y0q) (gcnt dq5 y0q)) (hsum (yeF dq5 y0q) lfq ((y0q + jq) % lfq) (nuF dq5 y0q) (gcnt dq5 y0q) * (nI (gcnt dq5 y0q)).toInt64 - sumL (nuF dq5 y0q) (gcnt dq5 y0q) * (nI (cntR (yeF dq5 y0q) lfq ((y0q + jq) % lfq) (gcnt dq5 y0q))).toInt64)))) (nI_add' _ _) ?_
                      refine pf_11_16 o mw_714 dX10_findHeld_237 ?_
                      refine r_aload_n o dX10_findHeld_240 3 rfl ?_
                      refine r_dup o dX10_findHeld_241 rfl ?_
                      refine gf_11_15 (σ := sti ρq 11 16 (nI ((lkS (yeF dq5 y0q) (gcnt dq5 y0q) lfq (nuF dq5 y0q) dq5 y0q jq).2 + (i2q ((dq5 (y0q + jq)).toInt64 * (nI (gcnt dq5 y0q)).toInt64 - sumL (nuF dq5 y0q) (gcnt dq5 y0q)) (hsum (yeF dq5 y0q) lfq ((y0q + jq) % lfq) (nuF dq5 y0q) (gcnt dq5 y0q) * (nI (gcnt dq5 y0q)).toInt64 - sumL (nuF dq5 y0q) (gcnt dq5 y0q) * (nI (cntR (yeF dq5 y0q) lfq ((y0q + jq) % lfq) (gcnt dq5 y0q))).toInt64))))) o (v := nI ((lkS (yeF dq5 y0q) (gcnt dq5 y0q) lfq (nuF dq5 y0q) dq5 y0q jq).1)) hr15 mw_713 dX10_findHeld_242 ?_
                      refine r_lload o dX10_findHeld_245 1 rfl ?_
                      refine r_lconst o (v := 0) dX10_findHeld_247 rfl ?_
                      refine r_lcmp o dX10_findHeld_248 ?_
                      refine r_if_le o (tgt := 259) dX10_findHeld_249 (by decide) (fun hb249 => ?_) (fun hb249 => ?_)
                      · skip
                        rw [lg_cmp_le] at hb249
                        refine r_lload o dX10_findHeld_259 1 rfl ?_
                        refine r_lconst o (v := 0) dX10_findHeld_261 rfl ?_
                        refine r_lcmp o dX10_findHeld_262 ?_
                        refine r_if_ge o (tgt := 277) dX10_findHeld_263 (by decide) (fun hb263 => ?_) (fun hb263 => ?_)
                        · skip
                          rw [lg_cmp_ge] at hb263
                          refine r_iconst o (v := nI 0) dX10_findHeld_277 (by decide) ?_
                          refine r_topi (y := nI (i1q ((dq5 (y0q + jq)).toInt64 * (nI (gcnt dq5 y0q)).toInt64 - sumL (nuF dq5 y0q) (gcnt dq5 y0q)) (hsum (yeF dq5 y0q) lfq ((y0q + jq) % lfq) (nuF dq5 y0q) (gcnt dq5 y0q) * (nI (gcnt dq5 y0q)).toInt64 - sumL (nuF dq5 y0q) (gcnt dq5 y0q) * (nI (cntR (yeF dq5 y0q) lfq ((y0q + jq) % lfq) (gcnt dq5 y0q))).toInt64))) (by unfold i1q; first | (rw [if_pos (Or.inl ⟨l_nle.mp hb249, hb256⟩)]; done) | (rw [if_pos (Or.inr ⟨l_nle.mp hb263, l_nle.mp hb270⟩)]; done) | (rw [if_neg (fun zq => zq.elim (fun z1 => by first | exact l_nle.mpr z1.1 hb249 | exact hb256 z1.2) (fun z1 => by first | exact l_nle.mpr z1.1 hb263 | exact l_nle.mpr z1.2 hb270))]; done)) ?_
                          refine r_iadd o dX10_findHeld_278 ?_
                          refine r_topi (y := nI ((lkS (yeF dq5 y0q) (gcnt dq5 y0q) lfq (nuF dq5 y0q) dq5 y0q jq).1 + (i1q ((dq5 (y0q + jq)).toInt64 * (nI (gcnt dq5 y0q)).toInt64 - sumL (nuF dq5 y0q) (gcnt dq5 y0q)) (hsum (yeF dq5 y0q) lfq ((y0q + jq) % lfq) (nuF dq5 y0q) (gcnt dq5 y0q) * (nI (gcnt dq5 y0q)).toInt64 - sumL (nuF dq5 y0q) (gcnt dq5 y0q) * (nI (cntR (yeF dq5 y0q) lfq ((y0q + jq) % lfq) (gcnt dq5 y0q))).toInt64)))) (nI_add' _ _) ?_
                          refine pf_11_15 o mw_713 dX10_findHeld_279 ?_
                          refine r_iinc o (v := nI (y0q + jq + 1)) (lv' := [(7, .int (nI (y0q + jq + 1))), (11, .long (((hsum (yeF dq5 y0q) lfq ((y0q + jq) % lfq) (nuF dq5 y0q) (gcnt dq5 y0q)) * ((nI (gcnt dq5 y0q)).toInt64)) - ((sumL (nuF dq5 y0q) (gcnt dq5 y0q)) * ((nI (cntR (yeF dq5 y0q) lfq ((y0q + jq) % lfq) (gcnt dq5 y0q))).toInt64)))), (9, .long ((((dq5 (y0q + jq)).toInt64) * ((nI (gcnt dq5 y0q)).toInt64)) - (sumL (nuF dq5 y0q) (gcnt dq5 y0q)))), (8, .int (nI ((y0q + jq) % lfq))), (0, .ref (gad G 11)), (1, .int (nI rq)), (2, .int (nI y0q)), (3, .long ((fdS (yeF dq5 y0q) (gcnt dq5 y0q) (nuF dq5 y0q) 10).2)), (5, .long (sumL (nuF dq5 y0q) (gcnt dq5 y0q)))]) dX10_findHeld_282 8 rfl (nI_inc _) (by decide) rfl ?_
                          refine r_goto o (tgt := 128) dX10_findHeld_285 (by decide) ?_
                          exact r_to rfl [4, 5, 6, 7, 8, 0] rfl (ih128 (jq + 1) (sti (sti ρq 11 16 (nI ((lkS (yeF dq5 y0q) (gcnt dq5 y0q) lfq (nuF dq5 y0q) dq5 y0q jq).2 + (i2q ((dq5 (y0q + jq)).toInt64 * (nI (gcnt dq5 y0q)).toInt64 - sumL (nuF dq5 y0q) (gcnt dq5 y0q)) (hsum (yeF dq5 y0q) lfq ((y0q + jq) % lfq) (nuF dq5 y0q) (gcnt dq5 y0q) * (nI (gcnt dq5 y0q)).toInt64 - sumL (nuF dq5 y0q) (gcnt dq5 y0q) * (nI (cntR (yeF dq5 y0q) lfq ((y0q + jq) % lfq) (gcnt dq5 y0q))).toInt64))))) 11 15 (nI ((lkS (yeF dq5 y0q) (gcnt dq5 y0q) lfq (nuF dq5 y0q) dq5 y0q jq).1 + (i1q ((dq5 (y0q + jq)).toInt64 * (nI (gcnt dq5 y0q)).toInt64 - sumL (nuF dq5 y0q) (gcnt dq5 y0q)) (hsum (yeF dq5 y0q) lfq ((y0q + jq) % lfq) (nuF dq5 y0q) (gcnt dq5 y0q) * (nI (gcnt dq5 y0q)).toInt64 - sumL (nuF dq5 y0q) (gcnt dq5 y0q) * (nI (cntR (yeF dq5 y0q) lfq ((y0q + jq) % lfq) (gcnt dq5 y0q))).toInt64))))) (by omega) (nm_f (nm_f hnr 16 (Or.inr (Or.inr rfl)) _) 15 (Or.inr (Or.inl rfl)) _) (fun rq hr => hhr rq hr) (st_f (st_f hr14 (by decide)) (by decide)) (by rw [sti_eq, hst]) (by rw [st_f sti_eq (by decide), hst]) (by omega))
                        · skip
                          rw [lg_cmp_ge] at hb263
                          refine r_lload o dX10_findHeld_266 0 rfl ?_
                          refine r_lconst o (v := 0) dX10_findHeld_268 rfl ?_
                          refine r_lcmp o dX10_findHeld_269 ?_
                          refine r_if_ge o (tgt := 277) dX10_findHeld_270 (by decide) (fun hb270 => ?_) (fun hb270 => ?_)
                          · skip
                            rw [lg_cmp_ge] at hb270
                            refine r_iconst o (v := nI 0) dX10_findHeld_277 (by decide) ?_
                            refine r_topi (y := nI (i1q ((dq5 (y0q + jq)).toInt64 * (nI (gcnt dq5 y0q)).toInt64 - sumL (nuF dq5 y0q) (gcnt dq5 y0q)) (hsum (yeF dq5 y0q) lfq ((y0q + jq) % lfq) (nuF dq5 y0q) (gcnt dq5 y0q) * (nI (gcnt dq5 y0q)).toInt64 - sumL (nuF dq5 y0q) (gcnt dq5 y0q) * (nI (cntR (yeF dq5 y0q) lfq ((y0q + jq) % lfq) (gcnt dq5 y0q))).toInt64))) (by unfold i1q; first | (rw [if_pos (Or.inl ⟨l_nle.mp hb249, hb256⟩)]; done) | (rw [if_pos (Or.inr ⟨l_nle.mp hb263, l_nle.mp hb270⟩)]; done) | (rw [if_neg (fun zq => zq.elim (fun z1 => by first | exact l_nle.mpr z1.1 hb249 | exact hb256 z1.2) (fun z1 => by first | exact l_nle.mpr z1.1 hb263 | exact l_nle.mpr z1.2 hb270))]; done)) ?_
                            refine r_iadd o dX10_findHeld_278 ?_
                            refine r_topi (y := nI ((lkS (yeF dq5 y0q) (gcnt dq5 y0q) lfq (nuF dq5 y0q) dq5 y0q jq).1 + (i1q ((dq5 (y0q + jq)).toInt64 * (nI (gcnt dq5 y0q)).toInt64 - sumL (nuF dq5 y0q) (gcnt dq5 y0q)) (hsum (yeF dq5 y0q) lfq ((y0q + jq) % lfq) (nuF dq5 y0q) (gcnt dq5 y0q) * (nI (gcnt dq5 y0q)).toInt64 - sumL (nuF dq5 y0q) (gcnt dq5 y0q) * (nI (cntR (yeF dq5 y0q) lfq ((y0q + jq) % lfq) (gcnt dq5 y0q))).toInt64)))) (nI_add' _ _) ?_
                            refine pf_11_15 o mw_713 dX10_findHeld_279 ?_
                            refine r_iinc o (v := nI (y0q + jq + 1)) (lv' := [(7, .int (nI (y0q + jq + 1))), (11, .long (((hsum (yeF dq5 y0q) lfq ((y0q + jq) % lfq) (nuF dq5 y0q) (gcnt dq5 y0q)) * ((nI (gcnt dq5 y0q)).toInt64)) - ((sumL (nuF dq5 y0q) (gcnt dq5 y0q)) * ((nI (cntR (yeF dq5 y0q) lfq ((y0q + jq) % lfq) (gcnt dq5 y0q))).toInt64)))), (9, .long ((((dq5 (y0q + jq)).toInt64) * ((nI (gcnt dq5 y0q)).toInt64)) - (sumL (nuF dq5 y0q) (gcnt dq5 y0q)))), (8, .int (nI ((y0q + jq) % lfq))), (0, .ref (gad G 11)), (1, .int (nI rq)), (2, .int (nI y0q)), (3, .long ((fdS (yeF dq5 y0q) (gcnt dq5 y0q) (nuF dq5 y0q) 10).2)), (5, .long (sumL (nuF dq5 y0q) (gcnt dq5 y0q)))]) dX10_findHeld_282 8 rfl (nI_inc _) (by decide) rfl ?_
                            refine r_goto o (tgt := 128) dX10_findHeld_285 (by decide) ?_
                            exact r_to rfl [4, 5, 6, 7, 8, 0] rfl (ih128 (jq + 1) (sti (sti ρq 11 16 (nI ((lkS (yeF dq5 y0q) (gcnt dq5 y0q) lfq (nuF dq5 y0q) dq5 y0q jq).2 + (i2q ((dq5 (y0q + jq)).toInt64 * (nI (gcnt dq5 y0q)).toInt64 - sumL (nuF dq5 y0q) (gcnt dq5 y0q)) (hsum (yeF dq5 y0q) lfq ((y0q + jq) % lfq) (nuF dq5 y0q) (gcnt dq5 y0q) * (nI (gcnt dq5 y0q)).toInt64 - sumL (nuF dq5 y0q) (gcnt dq5 y0q) * (nI (cntR (yeF dq5 y0q) lfq ((y0q + jq) % lfq) (gcnt dq5 y0q))).toInt64))))) 11 15 (nI ((lkS (yeF dq5 y0q) (gcnt dq5 y0q) lfq (nuF dq5 y0q) dq5 y0q jq).1 + (i1q ((dq5 (y0q + jq)).toInt64 * (nI (gcnt dq5 y0q)).toInt64 - sumL (nuF dq5 y0q) (gcnt dq5 y0q)) (hsum (yeF dq5 y0q) lfq ((y0q + jq) % lfq) (nuF dq5 y0q) (gcnt dq5 y0q) * (nI (gcnt dq5 y0q)).toInt64 - sumL (nuF dq5 y0q) (gcnt dq5 y0q) * (nI (cntR (yeF dq5 y0q) lfq ((y0q + jq) % lfq) (gcnt dq5 y0q))).toInt64))))) (by omega) (nm_f (nm_f hnr 16 (Or.inr (Or.inr rfl)) _) 15 (Or.inr (Or.inl rfl)) _) (fun rq hr => hhr rq hr) (st_f (st_f hr14 (by decide)) (by decide)) (by rw [sti_eq, hst]) (by rw [st_f sti_eq (by decide), hst]) (by omega))
                          · skip
                            rw [lg_cmp_ge] at hb270
                            refine r_iconst o (v := nI 1) dX10_findHeld_273 (by decide) ?_
                            refine r_goto o (tgt := 278) dX10_findHeld_274 (by decide) ?_
                            refine r_topi (y := nI (i1q ((dq5 (y0q + jq)).toInt64 * (nI (gcnt dq5 y0q)).toInt64 - sumL (nuF dq5 y0q) (gcnt dq5 y0q)) (hsum (yeF dq5 y0q) lfq ((y0q + jq) % lfq) (nuF dq5 y0q) (gcnt dq5 y0q) * (nI (gcnt dq5 y0q)).toInt64 - sumL (nuF dq5 y0q) (gcnt dq5 y0q) * (nI (cntR (yeF dq5 y0q) lfq ((y0q + jq) % lfq) (gcnt dq5 y0q))).toInt64))) (by unfold i1q; first | (rw [if_pos (Or.inl ⟨l_nle.mp hb249, hb256⟩)]; done) | (rw [if_pos (Or.inr ⟨l_nle.mp hb263, l_nle.mp hb270⟩)]; done) | (rw [if_neg (fun zq => zq.elim (fun z1 => by first | exact l_nle.mpr z1.1 hb249 | exact hb256 z1.2) (fun z1 => by first | exact l_nle.mpr z1.1 hb263 | exact l_nle.mpr z1.2 hb270))]; done)) ?_
                            refine r_iadd o dX10_findHeld_278 ?_
                            refine r_topi (y := nI ((lkS (yeF dq5 y0q) (gcnt dq5 y0q) lfq (nuF dq5 y0q) dq5 y0q jq).1 + (i1q ((dq5 (y0q + jq)).toInt64 * (nI (gcnt dq5 y0q)).toInt64 - sumL (nuF dq5 y0q) (gcnt dq5 y0q)) (hsum (yeF dq5 y0q) lfq ((y0q + jq) % lfq) (nuF dq5 y0q) (gcnt dq5 y0q) * (nI (gcnt dq5 y0q)).toInt64 - sumL (nuF dq5 y0q) (gcnt dq5 y0q) * (nI (cntR (yeF dq5 y0q) lfq ((y0q + jq) % lfq) (gcnt dq5 y0q))).toInt64)))) (nI_add' _ _) ?_
                            refine pf_11_15 o mw_713 dX10_findHeld_279 ?_
                            refine r_iinc o (v := nI (y0q + jq + 1)) (lv' := [(7, .int (nI (y0q + jq + 1))), (11, .long (((hsum (yeF dq5 y0q) lfq ((y0q + jq) % lfq) (nuF dq5 y0q) (gcnt dq5 y0q)) * ((nI (gcnt dq5 y0q)).toInt64)) - ((sumL (nuF dq5 y0q) (gcnt dq5 y0q)) * ((nI (cntR (yeF dq5 y0q) lfq ((y0q + jq) % lfq) (gcnt dq5 y0q))).toInt64)))), (9, .long ((((dq5 (y0q + jq)).toInt64) * ((nI (gcnt dq5 y0q)).toInt64)) - (sumL (nuF dq5 y0q) (gcnt dq5 y0q)))), (8, .int (nI ((y0q + jq) % lfq))), (0, .ref (gad G 11)), (1, .int (nI rq)), (2, .int (nI y0q)), (3, .long ((fdS (yeF dq5 y0q) (gcnt dq5 y0q) (nuF dq5 y0q) 10).2)), (5, .long (sumL (nuF dq5 y0q) (gcnt dq5 y0q)))]) dX10_findHeld_282 8 rfl (nI_inc _) (by decide) rfl ?_
                            refine r_goto o (tgt := 128) dX10_findHeld_285 (by decide) ?_
                            exact r_to rfl [4, 5, 6, 7, 8, 0] rfl (ih128 (jq + 1) (sti (sti ρq 11 16 (nI ((lkS (yeF dq5 y0q) (gcnt dq5 y0q) lfq (nuF dq5 y0q) dq5 y0q jq).2 + (i2q ((dq5 (y0q + jq)).toInt64 * (nI (gcnt dq5 y0q)).toInt64 - sumL (nuF dq5 y0q) (gcnt dq5 y0q)) (hsum (yeF dq5 y0q) lfq ((y0q + jq) % lfq) (nuF dq5 y0q) (gcnt dq5 y0q) * (nI (gcnt dq5 y0q)).toInt64 - sumL (nuF dq5 y0q) (gcnt dq5 y0q) * (nI (cntR (yeF dq5 y0q) lfq ((y0q + jq) % lfq) (gcnt dq5 y0q))).toInt64))))) 11 15 (nI ((lkS (yeF dq5 y0q) (gcnt dq5 y0q) lfq (nuF dq5 y0q) dq5 y0q jq).1 + (i1q ((dq5 (y0q + jq)).toInt64 * (nI (gcnt dq5 y0q)).toInt64 - sumL (nuF dq5 y0q) (gcnt dq5 y0q)) (hsum (yeF dq5 y0q) lfq ((y0q + jq) % lfq) (nuF dq5 y0q) (gcnt dq5 y0q) * (nI (gcnt dq5 y0q)).toInt64 - sumL (nuF dq5 y0q) (gcnt dq5 y0q) * (nI (cntR (yeF dq5 y0q) lfq ((y0q + jq) % lfq) (gcnt dq5 y0q))).toInt64))))) (by omega) (nm_f (nm_f hnr 16 (Or.inr (Or.inr rfl)) _) 15 (Or.inr (Or.inl rfl)) _) (fun rq hr => hhr rq hr) (st_f (st_f hr14 (by decide)) (by decide)) (by rw [sti_eq, hst]) (by rw [st_f sti_eq (by decide), hst]) (by omega))
                      · skip
                        rw [lg_cmp_le] at hb249
                        refine r_lload o dX10_findHeld_252 0 rfl ?_
                        refine r_lconst o (v := 0) dX10_findHeld_254 rfl ?_
                        refine r_lcmp o dX10_findHeld_255 ?_
                        refine r_if_gt o (tgt := 273) dX10_findHeld_256 (by decide) (fun hb256 => ?_) (fun hb256 => ?_)
                        · skip
                          rw [lg_cmp_gt] at hb256
                          refine r_iconst o (v := nI 1) dX10_findHeld_273 (by decide) ?_
                          refine r_goto o (tgt := 278) dX10_findHeld_274 (by decide) ?_
                          refine r_topi (y := nI (i1q ((dq5 (y0q + jq)).toInt64 * (nI (gcnt dq5 y0q)).toInt64 - sumL (nuF dq5 y0q) (gcnt dq5 y0q)) (hsum (yeF dq5 y0q) lfq ((y0q + jq) % lfq) (nuF dq5 y0q) (gcnt dq5 y0q) * (nI (gcnt dq5 y0q)).toInt64 - sumL (nuF dq5 y0q) (gcnt dq5 y0q) * (nI (cntR (yeF dq5 y0q) lfq ((y0q + jq) % lfq) (gcnt dq5 y0q))).toInt64))) (by unfold i1q; first | (rw [if_pos (Or.inl ⟨l_nle.mp hb249, hb256⟩)]; done) | (rw [if_pos (Or.inr ⟨l_nle.mp hb263, l_nle.mp hb270⟩)]; done) | (rw [if_neg (fun zq => zq.elim (fun z1 => by first | exact l_nle.mpr z1.1 hb249 | exact hb256 z1.2) (fun z1 => by first | exact l_nle.mpr z1.1 hb263 | exact l_nle.mpr z1.2 hb270))]; done)) ?_
                          refine r_iadd o dX10_findHeld_278 ?_
                          refine r_topi (y := nI ((lkS (yeF dq5 y0q) (gcnt dq5 y0q) lfq (nuF dq5 y0q) dq5 y0q jq).1 + (i1q ((dq5 (y0q + jq)).toInt64 * (nI (gcnt dq5 y0q)).toInt64 - sumL (nuF dq5 y0q) (gcnt dq5 y0q)) (hsum (yeF dq5 y0q) lfq ((y0q + jq) % lfq) (nuF dq5 y0q) (gcnt dq5 y0q) * (nI (gcnt dq5 y0q)).toInt64 - sumL (nuF dq5 y0q) (gcnt dq5 y0q) * (nI (cntR (yeF dq5 y0q) lfq ((y0q + jq) % lfq) (gcnt dq5 y0q))).toInt64)))) (nI_add' _ _) ?_
                          refine pf_11_15 o mw_713 dX10_findHeld_279 ?_
                          refine r_iinc o (v := nI (y0q + jq + 1)) (lv' := [(7, .int (nI (y0q + jq + 1))), (11, .long (((hsum (yeF dq5 y0q) lfq ((y0q + jq) % lfq) (nuF dq5 y0q) (gcnt dq5 y0q)) * ((nI (gcnt dq5 y0q)).toInt64)) - ((sumL (nuF dq5 y0q) (gcnt dq5 y0q)) * ((nI (cntR (yeF dq5 y0q) lfq ((y0q + jq) % lfq) (gcnt dq5 y0q))).toInt64)))), (9, .long ((((dq5 (y0q + jq)).toInt64) * ((nI (gcnt dq5 y0q)).toInt64)) - (sumL (nuF dq5 y0q) (gcnt dq5 y0q)))), (8, .int (nI ((y0q + jq) % lfq))), (0, .ref (gad G 11)), (1, .int (nI rq)), (2, .int (nI y0q)), (3, .long ((fdS (yeF dq5 y0q) (gcnt dq5 y0q) (nuF dq5 y0q) 10).2)), (5, .long (sumL (nuF dq5 y0q) (gcnt dq5 y0q)))]) dX10_findHeld_282 8 rfl (nI_inc _) (by decide) rfl ?_
                          refine r_goto o (tgt := 128) dX10_findHeld_285 (by decide) ?_
                          exact r_to rfl [4, 5, 6, 7, 8, 0] rfl (ih128 (jq + 1) (sti (sti ρq 11 16 (nI ((lkS (yeF dq5 y0q) (gcnt dq5 y0q) lfq (nuF dq5 y0q) dq5 y0q jq).2 + (i2q ((dq5 (y0q + jq)).toInt64 * (nI (gcnt dq5 y0q)).toInt64 - sumL (nuF dq5 y0q) (gcnt dq5 y0q)) (hsum (yeF dq5 y0q) lfq ((y0q + jq) % lfq) (nuF dq5 y0q) (gcnt dq5 y0q) * (nI (gcnt dq5 y0q)).toInt64 - sumL (nuF dq5 y0q) (gcnt dq5 y0q) * (nI (cntR (yeF dq5 y0q) lfq ((y0q + jq) % lfq) (gcnt dq5 y0q))).toInt64))))) 11 15 (nI ((lkS (yeF dq5 y0q) (gcnt dq5 y0q) lfq (nuF dq5 y0q) dq5 y0q jq).1 + (i1q ((dq5 (y0q + jq)).toInt64 * (nI (gcnt dq5 y0q)).toInt64 - sumL (nuF dq5 y0q) (gcnt dq5 y0q)) (hsum (yeF dq5 y0q) lfq ((y0q + jq) % lfq) (nuF dq5 y0q) (gcnt dq5 y0q) * (nI (gcnt dq5 y0q)).toInt64 - sumL (nuF dq5 y0q) (gcnt dq5 y0q) * (nI (cntR (yeF dq5 y0q) lfq ((y0q + jq) % lfq) (gcnt dq5 y0q))).toInt64))))) (by omega) (nm_f (nm_f hnr 16 (Or.inr (Or.inr rfl)) _) 15 (Or.inr (Or.inl rfl)) _) (fun rq hr => hhr rq hr) (st_f (st_f hr14 (by decide)) (by decide)) (by rw [sti_eq, hst]) (by rw [st_f sti_eq (by decide), hst]) (by omega))
                        · skip
                          rw [lg_cmp_gt] at hb256
                          refine r_lload o dX10_findHeld_259 1 rfl ?_
                          refine r_lconst o (v := 0) dX10_findHeld_261 rfl ?_
                          refine r_lcmp o dX10_findHeld_262 ?_
                          refine r_if_ge o (tgt := 277) dX10_findHeld_263 (by decide) (fun hb263 => ?_) (fun hb263 => ?_)
                          · skip
                            rw [lg_cmp_ge] at hb263
                            refine r_iconst o (v := nI 0) dX10_findHeld_277 (by decide) ?_
                            refine r_topi (y := nI (i1q ((dq5 (y0q + jq)).toInt64 * (nI (gcnt dq5 y0q)).toInt64 - sumL (nuF dq5 y0q) (gcnt dq5 y0q)) (hsum (yeF dq5 y0q) lfq ((y0q + jq) % lfq) (nuF dq5 y0q) (gcnt dq5 y0q) * (nI (gcnt dq5 y0q)).toInt64 - sumL (nuF dq5 y0q) (gcnt dq5 y0q) * (nI (cntR (yeF dq5 y0q) lfq ((y0q + jq) % lfq) (gcnt dq5 y0q))).toInt64))) (by unfold i1q; first | (rw [if_pos (Or.inl ⟨l_nle.mp hb249, hb256⟩)]; done) | (rw [if_pos (Or.inr ⟨l_nle.mp hb263, l_nle.mp hb270⟩)]; done) | (rw [if_neg (fun zq => zq.elim (fun z1 => by first | exact l_nle.mpr z1.1 hb249 | exact hb256 z1.2) (fun z1 => by first | exact l_nle.mpr z1.1 hb263 | exact l_nle.mpr z1.2 hb270))]; done)) ?_
                            refine r_iadd o dX10_findHeld_278 ?_
                            refine r_topi (y := nI ((lkS (yeF dq5 y0q) (gcnt dq5 y0q) lfq (nuF dq5 y0q) dq5 y0q jq).1 + (i1q ((dq5 (y0q + jq)).toInt64 * (nI (gcnt dq5 y0q)).toInt64 - sumL (nuF dq5 y0q) (gcnt dq5 y0q)) (hsum (yeF dq5 y0q) lfq ((y0q + jq) % lfq) (nuF dq5 y0q) (gcnt dq5 y0q) * (nI (gcnt dq5 y0q)).toInt64 - sumL (nuF dq5 y0q) (gcnt dq5 y0q) * (nI (cntR (yeF dq5 y0q) lfq ((y0q + jq) % lfq) (gcnt dq5 y0q))).toInt64)))) (nI_add' _ _) ?_
                            refine pf_11_15 o mw_713 dX10_findHeld_279 ?_
                            refine r_iinc o (v := nI (y0q + jq + 1)) (lv' := [(7, .int (nI (y0q + jq + 1))), (11, .long (((hsum (yeF dq5 y0q) lfq ((y0q + jq) % lfq) (nuF dq5 y0q) (gcnt dq5 y0q)) * ((nI (gcnt dq5 y0q)).toInt64)) - ((sumL (nuF dq5 y0q) (gcnt dq5 y0q)) * ((nI (cntR (yeF dq5 y0q) lfq ((y0q + jq) % lfq) (gcnt dq5 y0q))).toInt64)))), (9, .long ((((dq5 (y0q + jq)).toInt64) * ((nI (gcnt dq5 y0q)).toInt64)) - (sumL (nuF dq5 y0q) (gcnt dq5 y0q)))), (8, .int (nI ((y0q + jq) % lfq))), (0, .ref (gad G 11)), (1, .int (nI rq)), (2, .int (nI y0q)), (3, .long ((fdS (yeF dq5 y0q) (gcnt dq5 y0q) (nuF dq5 y0q) 10).2)), (5, .long (sumL (nuF dq5 y0q) (gcnt dq5 y0q)))]) dX10_findHeld_282 8 rfl (nI_inc _) (by decide) rfl ?_
                            refine r_goto o (tgt := 128) dX10_findHeld_285 (by decide) ?_
                            exact r_to rfl [4, 5, 6, 7, 8, 0] rfl (ih128 (jq + 1) (sti (sti ρq 11 16 (nI ((lkS (yeF dq5 y0q) (gcnt dq5 y0q) lfq (nuF dq5 y0q) dq5 y0q jq).2 + (i2q ((dq5 (y0q + jq)).toInt64 * (nI (gcnt dq5 y0q)).toInt64 - sumL (nuF dq5 y0q) (gcnt dq5 y0q)) (hsum (yeF dq5 y0q) lfq ((y0q + jq) % lfq) (nuF dq5 y0q) (gcnt dq5 y0q) * (nI (gcnt dq5 y0q)).toInt64 - sumL (nuF dq5 y0q) (gcnt dq5 y0q) * (nI (cntR (yeF dq5 y0q) lfq ((y0q + jq) % lfq) (gcnt dq5 y0q))).toInt64))))) 11 15 (nI ((lkS (yeF dq5 y0q) (gcnt dq5 y0q) lfq (nuF dq5 y0q) dq5 y0q jq).1 + (i1q ((dq5 (y0q + jq)).toInt64 * (nI (gcnt dq5 y0q)).toInt64 - sumL (nuF dq5 y0q) (gcnt dq5 y0q)) (hsum (yeF dq5 y0q) lfq ((y0q + jq) % lfq) (nuF dq5 y0q) (gcnt dq5 y0q) * (nI (gcnt dq5 y0q)).toInt64 - sumL (nuF dq5 y0q) (gcnt dq5 y0q) * (nI (cntR (yeF dq5 y0q) lfq ((y0q + jq) % lfq) (gcnt dq5 y0q))).toInt64))))) (by omega) (nm_f (nm_f hnr 16 (Or.inr (Or.inr rfl)) _) 15 (Or.inr (Or.inl rfl)) _) (fun rq hr => hhr rq hr) (st_f (st_f hr14 (by decide)) (by decide)) (by rw [sti_eq, hst]) (by rw [st_f sti_eq (by decide), hst]) (by omega))
                          · skip
                            rw [lg_cmp_ge] at hb263
                            refine r_lload o dX10_findHeld_266 0 rfl ?_
                            refine r_lconst o (v := 0) dX10_findHeld_268 rfl ?_
                            refine r_lcmp o dX10_findHeld_269 ?_
                            refine r_if_ge o (tgt := 277) dX10_findHeld_270 (by decide) (fun hb270 => ?_) (fun hb270 => ?_)
                            · skip
                              rw [lg_cmp_ge] at hb270
                              refine r_iconst o (v := nI 0) dX10_findHeld_277 (by decide) ?_
                              refine r_topi (y := nI (i1q ((dq5 (y0q + jq)).toInt64 * (nI (gcnt dq5 y0q)).toInt64 - sumL (nuF dq5 y0q) (gcnt dq5 y0q)) (hsum (yeF dq5 y0q) lfq ((y0q + jq) % lfq) (nuF dq5 y0q) (gcnt dq5 y0q) * (nI (gcnt dq5 y0q)).toInt64 - sumL (nuF dq5 y0q) (gcnt dq5 y0q) * (nI (cntR (yeF dq5 y0q) lfq ((y0q + jq) % lfq) (gcnt dq5 y0q))).toInt64))) (by unfold i1q; first | (rw [if_pos (Or.inl ⟨l_nle.mp hb249, hb256⟩)]; done) | (rw [if_pos (Or.inr ⟨l_nle.mp hb263, l_nle.mp hb270⟩)]; done) | (rw [if_neg (fun zq => zq.elim (fun z1 => by first | exact l_nle.mpr z1.1 hb249 | exact hb256 z1.2) (fun z1 => by first | exact l_nle.mpr z1.1 hb263 | exact l_nle.mpr z1.2 hb270))]; done)) ?_
                              refine r_iadd o dX10_findHeld_278 ?_
                              refine r_topi (y := nI ((lkS (yeF dq5 y0q) (gcnt dq5 y0q) lfq (nuF dq5 y0q) dq5 y0q jq).1 + (i1q ((dq5 (y0q + jq)).toInt64 * (nI (gcnt dq5 y0q)).toInt64 - sumL (nuF dq5 y0q) (gcnt dq5 y0q)) (hsum (yeF dq5 y0q) lfq ((y0q + jq) % lfq) (nuF dq5 y0q) (gcnt dq5 y0q) * (nI (gcnt dq5 y0q)).toInt64 - sumL (nuF dq5 y0q) (gcnt dq5 y0q) * (nI (cntR (yeF dq5 y0q) lfq ((y0q + jq) % lfq) (gcnt dq5 y0q))).toInt64)))) (nI_add' _ _) ?_
                              refine pf_11_15 o mw_713 dX10_findHeld_279 ?_
                              refine r_iinc o (v := nI (y0q + jq + 1)) (lv' := [(7, .int (nI (y0q + jq + 1))), (11, .long (((hsum (yeF dq5 y0q) lfq ((y0q + jq) % lfq) (nuF dq5 y0q) (gcnt dq5 y0q)) * ((nI (gcnt dq5 y0q)).toInt64)) - ((sumL (nuF dq5 y0q) (gcnt dq5 y0q)) * ((nI (cntR (yeF dq5 y0q) lfq ((y0q + jq) % lfq) (gcnt dq5 y0q))).toInt64)))), (9, .long ((((dq5 (y0q + jq)).toInt64) * ((nI (gcnt dq5 y0q)).toInt64)) - (sumL (nuF dq5 y0q) (gcnt dq5 y0q)))), (8, .int (nI ((y0q + jq) % lfq))), (0, .ref (gad G 11)), (1, .int (nI rq)), (2, .int (nI y0q)), (3, .long ((fdS (yeF dq5 y0q) (gcnt dq5 y0q) (nuF dq5 y0q) 10).2)), (5, .long (sumL (nuF dq5 y0q) (gcnt dq5 y0q)))]) dX10_findHeld_282 8 rfl (nI_inc _) (by decide) rfl ?_
                              refine r_goto o (tgt := 128) dX10_findHeld_285 (by decide) ?_
                              exact r_to rfl [4, 5, 6, 7, 8, 0] rfl (ih128 (jq + 1) (sti (sti ρq 11 16 (nI ((lkS (yeF dq5 y0q) (gcnt dq5 y0q) lfq (nuF dq5 y0q) dq5 y0q jq).2 + (i2q ((dq5 (y0q + jq)).toInt64 * (nI (gcnt dq5 y0q)).toInt64 - sumL (nuF dq5 y0q) (gcnt dq5 y0q)) (hsum (yeF dq5 y0q) lfq ((y0q + jq) % lfq) (nuF dq5 y0q) (gcnt dq5 y0q) * (nI (gcnt dq5 y0q)).toInt64 - sumL (nuF dq5 y0q) (gcnt dq5 y0q) * (nI (cntR (yeF dq5 y0q) lfq ((y0q + jq) % lfq) (gcnt dq5 y0q))).toInt64))))) 11 15 (nI ((lkS (yeF dq5 y0q) (gcnt dq5 y0q) lfq (nuF dq5 y0q) dq5 y0q jq).1 + (i1q ((dq5 (y0q + jq)).toInt64 * (nI (gcnt dq5 y0q)).toInt64 - sumL (nuF dq5 y0q) (gcnt dq5 y0q)) (hsum (yeF dq5 y0q) lfq ((y0q + jq) % lfq) (nuF dq5 y0q) (gcnt dq5 y0q) * (nI (gcnt dq5 y0q)).toInt64 - sumL (nuF dq5 y0q) (gcnt dq5 y0q) * (nI (cntR (yeF dq5 y0q) lfq ((y0q + jq) % lfq) (gcnt dq5 y0q))).toInt64))))) (by omega) (nm_f (nm_f hnr 16 (Or.inr (Or.inr rfl)) _) 15 (Or.inr (Or.inl rfl)) _) (fun rq hr => hhr rq hr) (st_f (st_f hr14 (by decide)) (by decide)) (by rw [sti_eq, hst]) (by rw [st_f sti_eq (by decide), hst]) (by omega))
                            · skip
                              rw [lg_cmp_ge] at hb270
                              refine r_iconst o (v := nI 1) dX10_findHeld_273 (by decide) ?_
                              refine r_goto o (tgt := 278) dX10_findHeld_274 (by decide) ?_
                              refine r_topi (y := nI (i1q ((dq5 (y0q + jq)).toInt64 * (nI (gcnt dq5 y0q)).toInt64 - sumL (nuF dq5 y0q) (gcnt dq5 y0q)) (hsum (yeF dq5 y0q) lfq ((y0q + jq) % lfq) (nuF dq5 y0q) (gcnt dq5 y0q) * (nI (gcnt dq5 y0q)).toInt64 - sumL (nuF dq5 y0q) (gcnt dq5 y0q) * (nI (cntR (yeF dq5 y0q) lfq ((y0q + jq) % lfq) (gcnt dq5 y0q))).toInt64))) (by unfold i1q; first | (rw [if_pos (Or.inl ⟨l_nle.mp hb249, hb256⟩)]; done) | (rw [if_pos (Or.inr ⟨l_nle.mp hb263, l_nle.mp hb270⟩)]; done) | (rw [if_neg (fun zq => zq.elim (fun z1 => by first | exact l_nle.mpr z1.1 hb249 | exact hb256 z1.2) (fun z1 => by first | exact l_nle.mpr z1.1 hb263 | exact l_nle.mpr z1.2 hb270))]; done)) ?_
                              refine r_iadd o dX10_findHeld_278 ?_
                              refine r_topi (y := nI ((lkS (yeF dq5 y0q) (gcnt dq5 y0q) lfq (nuF dq5 y0q) dq5 y0q jq).1 + (i1q ((dq5 (y0q + jq)).toInt64 * (nI (gcnt dq5 y0q)).toInt64 - sumL (nuF dq5 y0q) (gcnt dq5 y0q)) (hsum (yeF dq5 y0q) lfq ((y0q + jq) % lfq) (nuF dq5 y0q) (gcnt dq5 y0q) * (nI (gcnt dq5 y0q)).toInt64 - sumL (nuF dq5 y0q) (gcnt dq5 y0q) * (nI (cntR (yeF dq5 y0q) lfq ((y0q + jq) % lfq) (gcnt dq5 y0q))).toInt64)))) (nI_add' _ _) ?_
                              refine pf_11_15 o mw_713 dX10_findHeld_279 ?_
                              refine r_iinc o (v := nI (y0q + jq + 1)) (lv' := [(7, .int (nI (y0q + jq + 1))), (11, .long (((hsum (yeF dq5 y0q) lfq ((y0q + jq) % lfq) (nuF dq5 y0q) (gcnt dq5 y0q)) * ((nI (gcnt dq5 y0q)).toInt64)) - ((sumL (nuF dq5 y0q) (gcnt dq5 y0q)) * ((nI (cntR (yeF dq5 y0q) lfq ((y0q + jq) % lfq) (gcnt dq5 y0q))).toInt64)))), (9, .long ((((dq5 (y0q + jq)).toInt64) * ((nI (gcnt dq5 y0q)).toInt64)) - (sumL (nuF dq5 y0q) (gcnt dq5 y0q)))), (8, .int (nI ((y0q + jq) % lfq))), (0, .ref (gad G 11)), (1, .int (nI rq)), (2, .int (nI y0q)), (3, .long ((fdS (yeF dq5 y0q) (gcnt dq5 y0q) (nuF dq5 y0q) 10).2)), (5, .long (sumL (nuF dq5 y0q) (gcnt dq5 y0q)))]) dX10_findHeld_282 8 rfl (nI_inc _) (by decide) rfl ?_
                              refine r_goto o (tgt := 128) dX10_findHeld_285 (by decide) ?_
                              exact r_to rfl [4, 5, 6, 7, 8, 0] rfl (ih128 (jq + 1) (sti (sti ρq 11 16 (nI ((lkS (yeF dq5 y0q) (gcnt dq5 y0q) lfq (nuF dq5 y0q) dq5 y0q jq).2 + (i2q ((dq5 (y0q + jq)).toInt64 * (nI (gcnt dq5 y0q)).toInt64 - sumL (nuF dq5 y0q) (gcnt dq5 y0q)) (hsum (yeF dq5 y0q) lfq ((y0q + jq) % lfq) (nuF dq5 y0q) (gcnt dq5 y0q) * (nI (gcnt dq5 y0q)).toInt64 - sumL (nuF dq5 y0q) (gcnt dq5 y0q) * (nI (cntR (yeF dq5 y0q) lfq ((y0q + jq) % lfq) (gcnt dq5 y0q))).toInt64))))) 11 15 (nI ((lkS (yeF dq5 y0q) (gcnt dq5 y0q) lfq (nuF dq5 y0q) dq5 y0q jq).1 + (i1q ((dq5 (y0q + jq)).toInt64 * (nI (gcnt dq5 y0q)).toInt64 - sumL (nuF dq5 y0q) (gcnt dq5 y0q)) (hsum (yeF dq5 y0q) lfq ((y0q + jq) % lfq) (nuF dq5 y0q) (gcnt dq5 y0q) * (nI (gcnt dq5 y0q)).toInt64 - sumL (nuF dq5 y0q) (gcnt dq5 y0q) * (nI (cntR (yeF dq5 y0q) lfq ((y0q + jq) % lfq) (gcnt dq5 y0q))).toInt64))))) (by omega) (nm_f (nm_f hnr 16 (Or.inr (Or.inr rfl)) _) 15 (Or.inr (Or.inl rfl)) _) (fun rq hr => hhr rq hr) (st_f (st_f hr14 (by decide)) (by decide)) (by rw [sti_eq, hst]) (by rw [st_f sti_eq (by decide), hst]) (by omega))
                    · skip
                      rw [lg_cmp_eq] at hb221
                      refine r_lload o dX10_findHeld_224 0 rfl ?_
                      refine r_lconst o (v := 0) dX10_findHeld_226 rfl ?_
                      refine r_lcmp o dX10_findHeld_227 ?_
                      refine r_if_eq o (tgt := 235) dX10_findHeld_228 (by decide) (fun hb228 => ?_) (fun hb228 => ?_)
                      · skip
                        rw [lg_cmp_eq] at hb228
                        refine r_iconst o (v := nI 0) dX10_findHeld_235 (by decide) ?_
                        refine r_topi (y := nI (i2q ((dq5 (y0q + jq)).toInt64 * (nI (gcnt dq5 y0q)).toInt64 - sumL (nuF dq5 y0q) (gcnt dq5 y0q)) (hsum (yeF dq5 y0q) lfq ((y0q + jq) % lfq) (nuF dq5 y0q) (gcnt dq5 y0q) * (nI (gcnt dq5 y0q)).toInt64 - sumL (nuF dq5 y0q) (gcnt dq5 y0q) * (nI (cntR (yeF dq5 y0q) lfq ((y0q + jq) % lfq) (gcnt dq5 y0q))).toInt64))) (by unfold i2q; first | (rw [if_pos hb221]; done) | (rw [if_neg hb221, if_pos hb228]; done) | (rw [if_neg hb221, if_neg hb228]; done)) ?_
                        refine r_iadd o dX10_findHeld_236 ?_
                        refine r_topi (y := nI ((lkS (yeF dq5 y0q) (gcnt dq5 y0q) lfq (nuF dq5 y0q) dq5 y0q jq).2 + (i2q ((dq5 (y0q + jq)).toInt64 * (nI (gcnt dq5 y0q)).toInt64 - sumL (nuF dq5 y0q) (gcnt dq5 y0q)) (hsum (yeF dq5 y0q) lfq ((y0q + jq) % lfq) (nuF dq5 y0q) (gcnt dq5 y0q) * (nI (gcnt dq5 y0q)).toInt64 - sumL (nuF dq5 y0q) (gcnt dq5 y0q) * (nI (cntR (yeF dq5 y0q) lfq ((y0q + jq) % lfq) (gcnt dq5 y0q))).toInt64)))) (nI_add' _ _) ?_
                        refine pf_11_16 o mw_714 dX10_findHeld_237 ?_
                        refine r_aload_n o dX10_findHeld_240 3 rfl ?_
                        refine r_dup o dX10_findHeld_241 rfl ?_
                        refine gf_11_15 (σ := sti ρq 11 16 (nI ((lkS (yeF dq5 y0q) (gcnt dq5 y0q) lfq (nuF dq5 y0q) dq5 y0q jq).2 + (i2q ((dq5 (y0q + jq)).toInt64 * (nI (gcnt dq5 y0q)).toInt64 - sumL (nuF dq5 y0q) (gcnt dq5 y0q)) (hsum (yeF dq5 y0q) lfq ((y0q + jq) % lfq) (nuF dq5 y0q) (gcnt dq5 y0q) * (nI (gcnt dq5 y0q)).toInt64 - sumL (nuF dq5 y0q) (gcnt dq5 y0q) * (nI (cntR (yeF dq5 y0q) lfq ((y0q + jq) % lfq) (gcnt dq5 y0q))).toInt64))))) o (v := nI ((lkS (yeF dq5 y0q) (gcnt dq5 y0q) lfq (nuF dq5 y0q) dq5 y0q jq).1)) hr15 mw_713 dX10_findHeld_242 ?_
                        refine r_lload o dX10_findHeld_245 1 rfl ?_
                        refine r_lconst o (v := 0) dX10_findHeld_247 rfl ?_
                        refine r_lcmp o dX10_findHeld_248 ?_
                        refine r_if_le o (tgt := 259) dX10_findHeld_249 (by decide) (fun hb249 => ?_) (fun hb249 => ?_)
                        · skip
                          rw [lg_cmp_le] at hb249
                          refine r_lload o dX10_findHeld_259 1 rfl ?_
                          refine r_lconst o (v := 0) dX10_findHeld_261 rfl ?_
                          refine r_lcmp o dX10_findHeld_262 ?_
                          refine r_if_ge o (tgt := 277) dX10_findHeld_263 (by decide) (fun hb263 => ?_) (fun hb263 => ?_)
                          · skip
                            rw [lg_cmp_ge] at hb263
                            refine r_iconst o (v := nI 0) dX10_findHeld_277 (by decide) ?_
                            refine r_topi (y := nI (i1q ((dq5 (y0q + jq)).toInt64 * (nI (gcnt dq5 y0q)).toInt64 - sumL (nuF dq5 y0q) (gcnt dq5 y0q)) (hsum (yeF dq5 y0q) lfq ((y0q + jq) % lfq) (nuF dq5 y0q) (gcnt dq5 y0q) * (nI (gcnt dq5 y0q)).toInt64 - sumL (nuF dq5 y0q) (gcnt dq5 y0q) * (nI (cntR (yeF dq5 y0q) lfq ((y0q + jq) % lfq) (gcnt dq5 y0q))).toInt64))) (by unfold i1q; first | (rw [if_pos (Or.inl ⟨l_nle.mp hb249, hb256⟩)]; done) | (rw [if_pos (Or.inr ⟨l_nle.mp hb263, l_nle.mp hb270⟩)]; done) | (rw [if_neg (fun zq => zq.elim (fun z1 => by first | exact l_nle.mpr z1.1 hb249 | exact hb256 z1.2) (fun z1 => by first | exact l_nle.mpr z1.1 hb263 | exact l_nle.mpr z1.2 hb270))]; done)) ?_
                            refine r_iadd o dX10_findHeld_278 ?_
                            refine r_topi (y := nI ((lkS (yeF dq5 y0q) (gcnt dq5 y0q) lfq (nuF dq5 y0q) dq5 y0q jq).1 + (i1q ((dq5 (y0q + jq)).toInt64 * (nI (gcnt dq5 y0q)).toInt64 - sumL (nuF dq5 y0q) (gcnt dq5 y0q)) (hsum (yeF dq5 y0q) lfq ((y0q + jq) % lfq) (nuF dq5 y0q) (gcnt dq5 y0q) * (nI (gcnt dq5 y0q)).toInt64 - sumL (nuF dq5 y0q) (gcnt dq5 y0q) * (nI (cntR (yeF dq5 y0q) lfq ((y0q + jq) % lfq) (gcnt dq5 y0q))).toInt64)))) (nI_add' _ _) ?_
                            refine pf_11_15 o mw_713 dX10_findHeld_279 ?_
                            refine r_iinc o (v := nI (y0q + jq + 1)) (lv' := [(7, .int (nI (y0q + jq + 1))), (11, .long (((hsum (yeF dq5 y0q) lfq ((y0q + jq) % lfq) (nuF dq5 y0q) (gcnt dq5 y0q)) * ((nI (gcnt dq5 y0q)).toInt64)) - ((sumL (nuF dq5 y0q) (gcnt dq5 y0q)) * ((nI (cntR (yeF dq5 y0q) lfq ((y0q + jq) % lfq) (gcnt dq5 y0q))).toInt64)))), (9, .long ((((dq5 (y0q + jq)).toInt64) * ((nI (gcnt dq5 y0q)).toInt64)) - (sumL (nuF dq5 y0q) (gcnt dq5 y0q)))), (8, .int (nI ((y0q + jq) % lfq))), (0, .ref (gad G 11)), (1, .int (nI rq)), (2, .int (nI y0q)), (3, .long ((fdS (yeF dq5 y0q) (gcnt dq5 y0q) (nuF dq5 y0q) 10).2)), (5, .long (sumL (nuF dq5 y0q) (gcnt dq5 y0q)))]) dX10_findHeld_282 8 rfl (nI_inc _) (by decide) rfl ?_
                            refine r_goto o (tgt := 128) dX10_findHeld_285 (by decide) ?_
                            exact r_to rfl [4, 5, 6, 7, 8, 0] rfl (ih128 (jq + 1) (sti (sti ρq 11 16 (nI ((lkS (yeF dq5 y0q) (gcnt dq5 y0q) lfq (nuF dq5 y0q) dq5 y0q jq).2 + (i2q ((dq5 (y0q + jq)).toInt64 * (nI (gcnt dq5 y0q)).toInt64 - sumL (nuF dq5 y0q) (gcnt dq5 y0q)) (hsum (yeF dq5 y0q) lfq ((y0q + jq) % lfq) (nuF dq5 y0q) (gcnt dq5 y0q) * (nI (gcnt dq5 y0q)).toInt64 - sumL (nuF dq5 y0q) (gcnt dq5 y0q) * (nI (cntR (yeF dq5 y0q) lfq ((y0q + jq) % lfq) (gcnt dq5 y0q))).toInt64))))) 11 15 (nI ((lkS (yeF dq5 y0q) (gcnt dq5 y0q) lfq (nuF dq5 y0q) dq5 y0q jq).1 + (i1q ((dq5 (y0q + jq)).toInt64 * (nI (gcnt dq5 y0q)).toInt64 - sumL (nuF dq5 y0q) (gcnt dq5 y0q)) (hsum (yeF dq5 y0q) lfq ((y0q + jq) % lfq) (nuF dq5 y0q) (gcnt dq5 y0q) * (nI (gcnt dq5 y0q)).toInt64 - sumL (nuF dq5 y0q) (gcnt dq5 y0q) * (nI (cntR (yeF dq5 y0q) lfq ((y0q + jq) % lfq) (gcnt dq5 y0q))).toInt64))))) (by omega) (nm_f (nm_f hnr 16 (Or.inr (Or.inr rfl)) _) 15 (Or.inr (Or.inl rfl)) _) (fun rq hr => hhr rq hr) (st_f (st_f hr14 (by decide)) (by decide)) (by rw [sti_eq, hst]) (by rw [st_f sti_eq (by decide), hst]) (by omega))
                          · skip
                            rw [lg_cmp_ge] at hb263
                            refine r_lload o dX10_findHeld_266 0 rfl ?_
                            refine r_lconst o (v := 0) dX10_findHeld_268 rfl ?_
                            refine r_lcmp o dX10_findHeld_269 ?_
                            refine r_if_ge o (tgt := 277) dX10_findHeld_270 (by decide) (fun hb270 => ?_) (fun hb270 => ?_)
                            · skip
                              rw [lg_cmp_ge] at hb270
                              refine r_iconst o (v := nI 0) dX10_findHeld_277 (by decide) ?_
                              refine r_topi (y := nI (i1q ((dq5 (y0q + jq)).toInt64 * (nI (gcnt dq5 y0q)).toInt64 - sumL (nuF dq5 y0q) (gcnt dq5 y0q)) (hsum (yeF dq5 y0q) lfq ((y0q + jq) % lfq) (nuF dq5 y0q) (gcnt dq5 y0q) * (nI (gcnt dq5 y0q)).toInt64 - sumL (nuF dq5 y0q) (gcnt dq5 y0q) * (nI (cntR (yeF dq5 y0q) lfq ((y0q + jq) % lfq) (gcnt dq5 y0q))).toInt64))) (by unfold i1q; first | (rw [if_pos (Or.inl ⟨l_nle.mp hb249, hb256⟩)]; done) | (rw [if_pos (Or.inr ⟨l_nle.mp hb263, l_nle.mp hb270⟩)]; done) | (rw [if_neg (fun zq => zq.elim (fun z1 => by first | exact l_nle.mpr z1.1 hb249 | exact hb256 z1.2) (fun z1 => by first | exact l_nle.mpr z1.1 hb263 | exact l_nle.mpr z1.2 hb270))]; done)) ?_
                              refine r_iadd o dX10_findHeld_278 ?_
                              refine r_topi (y := nI ((lkS (yeF dq5 y0q) (gcnt dq5 y0q) lfq (nuF dq5 y0q) dq5 y0q jq).1 + (i1q ((dq5 (y0q + jq)).toInt64 * (nI (gcnt dq5 y0q)).toInt64 - sumL (nuF dq5 y0q) (gcnt dq5 y0q)) (hsum (yeF dq5 y0q) lfq ((y0q + jq) % lfq) (nuF dq5 y0q) (gcnt dq5 y0q) * (nI (gcnt dq5 y0q)).toInt64 - sumL (nuF dq5 y0q) (gcnt dq5 y0q) * (nI (cntR (yeF dq5 y0q) lfq ((y0q + jq) % lfq) (gcnt dq5 y0q))).toInt64)))) (nI_add' _ _) ?_
                              refine pf_11_15 o mw_713 dX10_findHeld_279 ?_
                              refine r_iinc o (v := nI (y0q + jq + 1)) (lv' := [(7, .int (nI (y0q + jq + 1))), (11, .long (((hsum (yeF dq5 y0q) lfq ((y0q + jq) % lfq) (nuF dq5 y0q) (gcnt dq5 y0q)) * ((nI (gcnt dq5 y0q)).toInt64)) - ((sumL (nuF dq5 y0q) (gcnt dq5 y0q)) * ((nI (cntR (yeF dq5 y0q) lfq ((y0q + jq) % lfq) (gcnt dq5 y0q))).toInt64)))), (9, .long ((((dq5 (y0q + jq)).toInt64) * ((nI (gcnt dq5 y0q)).toInt64)) - (sumL (nuF dq5 y0q) (gcnt dq5 y0q)))), (8, .int (nI ((y0q + jq) % lfq))), (0, .ref (gad G 11)), (1, .int (nI rq)), (2, .int (nI y0q)), (3, .long ((fdS (yeF dq5 y0q) (gcnt dq5 y0q) (nuF dq5 y0q) 10).2)), (5, .long (sumL (nuF dq5 y0q) (gcnt dq5 y0q)))]) dX10_findHeld_282 8 rfl (nI_inc _) (by decide) rfl ?_
                              refine r_goto o (tgt := 128) dX10_findHeld_285 (by decide) ?_
                              exact r_to rfl [4, 5, 6, 7, 8, 0] rfl (ih128 (jq + 1) (sti (sti ρq 11 16 (nI ((lkS (yeF dq5 y0q) (gcnt dq5 y0q) lfq (nuF dq5 y0q) dq5 y0q jq).2 + (i2q ((dq5 (y0q + jq)).toInt64 * (nI (gcnt dq5 y0q)).toInt64 - sumL (nuF dq5 y0q) (gcnt dq5 y0q)) (hsum (yeF dq5 y0q) lfq ((y0q + jq) % lfq) (nuF dq5 y0q) (gcnt dq5 y0q) * (nI (gcnt dq5 y0q)).toInt64 - sumL (nuF dq5 y0q) (gcnt dq5 y0q) * (nI (cntR (yeF dq5 y0q) lfq ((y0q + jq) % lfq) (gcnt dq5 y0q))).toInt64))))) 11 15 (nI ((lkS (yeF dq5 y0q) (gcnt dq5 y0q) lfq (nuF dq5 y0q) dq5 y0q jq).1 + (i1q ((dq5 (y0q + jq)).toInt64 * (nI (gcnt dq5 y0q)).toInt64 - sumL (nuF dq5 y0q) (gcnt dq5 y0q)) (hsum (yeF dq5 y0q) lfq ((y0q + jq) % lfq) (nuF dq5 y0q) (gcnt dq5 y0q) * (nI (gcnt dq5 y0q)).toInt64 - sumL (nuF dq5 y0q) (gcnt dq5 y0q) * (nI (cntR (yeF dq5 y0q) lfq ((y0q + jq) % lfq) (gcnt dq5 y0q))).toInt64))))) (by omega) (nm_f (nm_f hnr 16 (Or.inr (Or.inr rfl)) _) 15 (Or.inr (Or.inl rfl)) _) (fun rq hr => hhr rq hr) (st_f (st_f hr14 (by decide)) (by decide)) (by rw [sti_eq, hst]) (by rw [st_f sti_eq (by decide), hst]) (by omega))
                            · skip
                              rw [lg_cmp_ge] at hb270
                              refine r_iconst o (v := nI 1) dX10_findHeld_273 (by decide) ?_
                              refine r_goto o (tgt := 278) dX10_findHeld_274 (by decide) ?_
                              refine r_topi (y := nI (i1q ((dq5 (y0q + jq)).toInt64 * (nI (gcnt dq5 y0q)).toInt64 - sumL (nuF dq5 y0q) (gcnt dq5 y0q)) (hsum (yeF dq5 y0q) lfq ((y0q + jq) % lfq) (nuF dq5 y0q) (gcnt dq5 y0q) * (nI (gcnt dq5 y0q)).toInt64 - sumL (nuF dq5 y0q) (gcnt dq5 y0q) * (nI (cntR (yeF dq5 y0q) lfq ((y0q + jq) % lfq) (gcnt dq5 y0q))).toInt64))) (by unfold i1q; first | (rw [if_pos (Or.inl ⟨l_nle.mp hb249, hb256⟩)]; done) | (rw [if_pos (Or.inr ⟨l_nle.mp hb263, l_nle.mp hb270⟩)]; done) | (rw [if_neg (fun zq => zq.elim (fun z1 => by first | exact l_nle.mpr z1.1 hb249 | exact hb256 z1.2) (fun z1 => by first | exact l_nle.mpr z1.1 hb263 | exact l_nle.mpr z1.2 hb270))]; done)) ?_
                              refine r_iadd o dX10_findHeld_278 ?_
                              refine r_topi (y := nI ((lkS (yeF dq5 y0q) (gcnt dq5 y0q) lfq (nuF dq5 y0q) dq5 y0q jq).1 + (i1q ((dq5 (y0q + jq)).toInt64 * (nI (gcnt dq5 y0q)).toInt64 - sumL (nuF dq5 y0q) (gcnt dq5 y0q)) (hsum (yeF dq5 y0q) lfq ((y0q + jq) % lfq) (nuF dq5 y0q) (gcnt dq5 y0q) * (nI (gcnt dq5 y0q)).toInt64 - sumL (nuF dq5 y0q) (gcnt dq5 y0q) * (nI (cntR (yeF dq5 y0q) lfq ((y0q + jq) % lfq) (gcnt dq5 y0q))).toInt64)))) (nI_add' _ _) ?_
                              refine pf_11_15 o mw_713 dX10_findHeld_279 ?_
                              refine r_iinc o (v := nI (y0q + jq + 1)) (lv' := [(7, .int (nI (y0q + jq + 1))), (11, .long (((hsum (yeF dq5 y0q) lfq ((y0q + jq) % lfq) (nuF dq5 y0q) (gcnt dq5 y0q)) * ((nI (gcnt dq5 y0q)).toInt64)) - ((sumL (nuF dq5 y0q) (gcnt dq5 y0q)) * ((nI (cntR (yeF dq5 y0q) lfq ((y0q + jq) % lfq) (gcnt dq5 y0q))).toInt64)))), (9, .long ((((dq5 (y0q + jq)).toInt64) * ((nI (gcnt dq5 y0q)).toInt64)) - (sumL (nuF dq5 y0q) (gcnt dq5 y0q)))), (8, .int (nI ((y0q + jq) % lfq))), (0, .ref (gad G 11)), (1, .int (nI rq)), (2, .int (nI y0q)), (3, .long ((fdS (yeF dq5 y0q) (gcnt dq5 y0q) (nuF dq5 y0q) 10).2)), (5, .long (sumL (nuF dq5 y0q) (gcnt dq5 y0q)))]) dX10_findHeld_282 8 rfl (nI_inc _) (by decide) rfl ?_
                              refine r_goto o (tgt := 128) dX10_findHeld_285 (by decide) ?_
                              exact r_to rfl [4, 5, 6, 7, 8, 0] rfl (ih128 (jq + 1) (sti (sti ρq 11 16 (nI ((lkS (yeF dq5 y0q) (gcnt dq5 y0q) lfq (nuF dq5 y0q) dq5 y0q jq).2 + (i2q ((dq5 (y0q + jq)).toInt64 * (nI (gcnt dq5 y0q)).toInt64 - sumL (nuF dq5 y0q) (gcnt dq5 y0q)) (hsum (yeF dq5 y0q) lfq ((y0q + jq) % lfq) (nuF dq5 y0q) (gcnt dq5 y0q) * (nI (gcnt dq5 y0q)).toInt64 - sumL (nuF dq5 y0q) (gcnt dq5 y0q) * (nI (cntR (yeF dq5 y0q) lfq ((y0q + jq) % lfq) (gcnt dq5 y0q))).toInt64))))) 11 15 (nI ((lkS (yeF dq5 y0q) (gcnt dq5 y0q) lfq (nuF dq5 y0q) dq5 y0q jq).1 + (i1q ((dq5 (y0q + jq)).toInt64 * (nI (gcnt dq5 y0q)).toInt64 - sumL (nuF dq5 y0q) (gcnt dq5 y0q)) (hsum (yeF dq5 y0q) lfq ((y0q + jq) % lfq) (nuF dq5 y0q) (gcnt dq5 y0q) * (nI (gcnt dq5 y0q)).toInt64 - sumL (nuF dq5 y0q) (gcnt dq5 y0q) * (nI (cntR (yeF dq5 y0q) lfq ((y0q + jq) % lfq) (gcnt dq5 y0q))).toInt64))))) (by omega) (nm_f (nm_f hnr 16 (Or.inr (Or.inr rfl)) _) 15 (Or.inr (Or.inl rfl)) _) (fun rq hr => hhr rq hr) (st_f (st_f hr14 (by decide)) (by decide)) (by rw [sti_eq, hst]) (by rw [st_f sti_eq (by decide), hst]) (by omega))
                        · skip
                          rw [lg_cmp_le] at hb249
                          refine r_lload o dX10_findHeld_252 0 rfl ?_
                          refine r_lconst o (v := 0) dX10_findHeld_254 rfl ?_
                          refine r_lcmp o dX10_findHeld_255 ?_
                          refine r_if_gt o (tgt := 273) dX10_findHeld_256 (by decide) (fun hb256 => ?_) (fun hb256 => ?_)
                          · skip
                            rw [lg_cmp_gt] at hb256
                            refine r_iconst o (v := nI 1) dX10_findHeld_273 (by decide) ?_
                            refine r_goto o (tgt := 278) dX10_findHeld_274 (by decide) ?_
                            refine r_topi (y := nI (i1q ((dq5 (y0q + jq)).toInt64 * (nI (gcnt dq5 y0q)).toInt64 - sumL (nuF dq5 y0q) (gcnt dq5 y0q)) (hsum (yeF dq5 y0q) lfq ((y0q + jq) % lfq) (nuF dq5 y0q) (gcnt dq5 y0q) * (nI (gcnt dq5 y0q)).toInt64 - sumL (nuF dq5 y0q) (gcnt dq5 y0q) * (nI (cntR (yeF dq5 y0q) lfq ((y0q + jq) % lfq) (gcnt dq5 y0q))).toInt64))) (by unfold i1q; first | (rw [if_pos (Or.inl ⟨l_nle.mp hb249, hb256⟩)]; done) | (rw [if_pos (Or.inr ⟨l_nle.mp hb263, l_nle.mp hb270⟩)]; done) | (rw [if_neg (fun zq => zq.elim (fun z1 => by first | exact l_nle.mpr z1.1 hb249 | exact hb256 z1.2) (fun z1 => by first | exact l_nle.mpr z1.1 hb263 | exact l_nle.mpr z1.2 hb270))]; done)) ?_
                            refine r_iadd o dX10_findHeld_278 ?_
                            refine r_topi (y := nI ((lkS (yeF dq5 y0q) (gcnt dq5 y0q) lfq (nuF dq5 y0q) dq5 y0q jq).1 + (i1q ((dq5 (y0q + jq)).toInt64 * (nI (gcnt dq5 y0q)).toInt64 - sumL (nuF dq5 y0q) (gcnt dq5 y0q)) (hsum (yeF dq5 y0q) lfq ((y0q + jq) % lfq) (nuF dq5 y0q) (gcnt dq5 y0q) * (nI (gcnt dq5 y0q)).toInt64 - sumL (nuF dq5 y0q) (gcnt dq5 y0q) * (nI (cntR (yeF dq5 y0q) lfq ((y0q + jq) % lfq) (gcnt dq5 y0q))).toInt64)))) (nI_add' _ _) ?_
                            refine pf_11_15 o mw_713 dX10_findHeld_279 ?_
                            refine r_iinc o (v := nI (y0q + jq + 1)) (lv' := [(7, .int (nI (y0q + jq + 1))), (11, .long (((hsum (yeF dq5 y0q) lfq ((y0q + jq) % lfq) (nuF dq5 y0q) (gcnt dq5 y0q)) * ((nI (gcnt dq5 y0q)).toInt64)) - ((sumL (nuF dq5 y0q) (gcnt dq5 y0q)) * ((nI (cntR (yeF dq5 y0q) lfq ((y0q + jq) % lfq) (gcnt dq5 y0q))).toInt64)))), (9, .long ((((dq5 (y0q + jq)).toInt64) * ((nI (gcnt dq5 y0q)).toInt64)) - (sumL (nuF dq5 y0q) (gcnt dq5 y0q)))), (8, .int (nI ((y0q + jq) % lfq))), (0, .ref (gad G 11)), (1, .int (nI rq)), (2, .int (nI y0q)), (3, .long ((fdS (yeF dq5 y0q) (gcnt dq5 y0q) (nuF dq5 y0q) 10).2)), (5, .long (sumL (nuF dq5 y0q) (gcnt dq5 y0q)))]) dX10_findHeld_282 8 rfl (nI_inc _) (by decide) rfl ?_
                            refine r_goto o (tgt := 128) dX10_findHeld_285 (by decide) ?_
                            exact r_to rfl [4, 5, 6, 7, 8, 0] rfl (ih128 (jq + 1) (sti (sti ρq 11 16 (nI ((lkS (yeF dq5 y0q) (gcnt dq5 y0q) lfq (nuF dq5 y0q) dq5 y0q jq).2 + (i2q ((dq5 (y0q + jq)).toInt64 * (nI (gcnt dq5 y0q)).toInt64 - sumL (nuF dq5 y0q) (gcnt dq5 y0q)) (hsum (yeF dq5 y0q) lfq ((y0q + jq) % lfq) (nuF dq5 y0q) (gcnt dq5 y0q) * (nI (gcnt dq5 y0q)).toInt64 - sumL (nuF dq5 y0q) (gcnt dq5 y0q) * (nI (cntR (yeF dq5 y0q) lfq ((y0q + jq) % lfq) (gcnt dq5 y0q))).toInt64))))) 11 15 (nI ((lkS (yeF dq5 y0q) (gcnt dq5 y0q) lfq (nuF dq5 y0q) dq5 y0q jq).1 + (i1q ((dq5 (y0q + jq)).toInt64 * (nI (gcnt dq5 y0q)).toInt64 - sumL (nuF dq5 y0q) (gcnt dq5 y0q)) (hsum (yeF dq5 y0q) lfq ((y0q + jq) % lfq) (nuF dq5 y0q) (gcnt dq5 y0q) * (nI (gcnt dq5 y0q)).toInt64 - sumL (nuF dq5 y0q) (gcnt dq5 y0q) * (nI (cntR (yeF dq5 y0q) lfq ((y0q + jq) % lfq) (gcnt dq5 y0q))).toInt64))))) (by omega) (nm_f (nm_f hnr 16 (Or.inr (Or.inr rfl)) _) 15 (Or.inr (Or.inl rfl)) _) (fun rq hr => hhr rq hr) (st_f (st_f hr14 (by decide)) (by decide)) (by rw [sti_eq, hst]) (by rw [st_f sti_eq (by decide), hst]) (by omega))
                          · skip
                            rw [lg_cmp_gt] at hb256
                            refine r_lload o dX10_findHeld_259 1 rfl ?_
                            refine r_lconst o (v := 0) dX10_findHeld_261 rfl ?_
                            refine r_lcmp o dX10_findHeld_262 ?_
                            refine r_if_ge o (tgt := 277) dX10_findHeld_263 (by decide) (fun hb263 => ?_) (fun hb263 => ?_)
                            · skip
                              rw [lg_cmp_ge] at hb263
                              refine r_iconst o (v := nI 0) dX10_findHeld_277 (by decide) ?_
                              refine r_topi (y := nI (i1q ((dq5 (y0q + jq)).toInt64 * (nI (gcnt dq5 y0q)).toInt64 - sumL (nuF dq5 y0q) (gcnt dq5 y0q)) (hsum (yeF dq5 y0q) lfq ((y0q + jq) % lfq) (nuF dq5 y0q) (gcnt dq5 y0q) * (nI (gcnt dq5 y0q)).toInt64 - sumL (nuF dq5 y0q) (gcnt dq5 y0q) * (nI (cntR (yeF dq5 y0q) lfq ((y0q + jq) % lfq) (gcnt dq5 y0q))).toInt64))) (by unfold i1q; first | (rw [if_pos (Or.inl ⟨l_nle.mp hb249, hb256⟩)]; done) | (rw [if_pos (Or.inr ⟨l_nle.mp hb263, l_nle.mp hb270⟩)]; done) | (rw [if_neg (fun zq => zq.elim (fun z1 => by first | exact l_nle.mpr z1.1 hb249 | exact hb256 z1.2) (fun z1 => by first | exact l_nle.mpr z1.1 hb263 | exact l_nle.mpr z1.2 hb270))]; done)) ?_
                              refine r_iadd o dX10_findHeld_278 ?_
                              refine r_topi (y := nI ((lkS (yeF dq5 y0q) (gcnt dq5 y0q) lfq (nuF dq5 y0q) dq5 y0q jq).1 + (i1q ((dq5 (y0q + jq)).toInt64 * (nI (gcnt dq5 y0q)).toInt64 - sumL (nuF dq5 y0q) (gcnt dq5 y0q)) (hsum (yeF dq5 y0q) lfq ((y0q + jq) % lfq) (nuF dq5 y0q) (gcnt dq5 y0q) * (nI (gcnt dq5 y0q)).toInt64 - sumL (nuF dq5 y0q) (gcnt dq5 y0q) * (nI (cntR (yeF dq5 y0q) lfq ((y0q + jq) % lfq) (gcnt dq5 y0q))).toInt64)))) (nI_add' _ _) ?_
                              refine pf_11_15 o mw_713 dX10_findHeld_279 ?_
                              refine r_iinc o (v := nI (y0q + jq + 1)) (lv' := [(7, .int (nI (y0q + jq + 1))), (11, .long (((hsum (yeF dq5 y0q) lfq ((y0q + jq) % lfq) (nuF dq5 y0q) (gcnt dq5 y0q)) * ((nI (gcnt dq5 y0q)).toInt64)) - ((sumL (nuF dq5 y0q) (gcnt dq5 y0q)) * ((nI (cntR (yeF dq5 y0q) lfq ((y0q + jq) % lfq) (gcnt dq5 y0q))).toInt64)))), (9, .long ((((dq5 (y0q + jq)).toInt64) * ((nI (gcnt dq5 y0q)).toInt64)) - (sumL (nuF dq5 y0q) (gcnt dq5 y0q)))), (8, .int (nI ((y0q + jq) % lfq))), (0, .ref (gad G 11)), (1, .int (nI rq)), (2, .int (nI y0q)), (3, .long ((fdS (yeF dq5 y0q) (gcnt dq5 y0q) (nuF dq5 y0q) 10).2)), (5, .long (sumL (nuF dq5 y0q) (gcnt dq5 y0q)))]) dX10_findHeld_282 8 rfl (nI_inc _) (by decide) rfl ?_
                              refine r_goto o (tgt := 128) dX10_findHeld_285 (by decide) ?_
                              exact r_to rfl [4, 5, 6, 7, 8, 0] rfl (ih128 (jq + 1) (sti (sti ρq 11 16 (nI ((lkS (yeF dq5 y0q) (gcnt dq5 y0q) lfq (nuF dq5 y0q) dq5 y0q jq).2 + (i2q ((dq5 (y0q + jq)).toInt64 * (nI (gcnt dq5 y0q)).toInt64 - sumL (nuF dq5 y0q) (gcnt dq5 y0q)) (hsum (yeF dq5 y0q) lfq ((y0q + jq) % lfq) (nuF dq5 y0q) (gcnt dq5 y0q) * (nI (gcnt dq5 y0q)).toInt64 - sumL (nuF dq5 y0q) (gcnt dq5 y0q) * (nI (cntR (yeF dq5 y0q) lfq ((y0q + jq) % lfq) (gcnt dq5 y0q))).toInt64))))) 11 15 (nI ((lkS (yeF dq5 y0q) (gcnt dq5 y0q) lfq (nuF dq5 y0q) dq5 y0q jq).1 + (i1q ((dq5 (y0q + jq)).toInt64 * (nI (gcnt dq5 y0q)).toInt64 - sumL (nuF dq5 y0q) (gcnt dq5 y0q)) (hsum (yeF dq5 y0q) lfq ((y0q + jq) % lfq) (nuF dq5 y0q) (gcnt dq5 y0q) * (nI (gcnt dq5 y0q)).toInt64 - sumL (nuF dq5 y0q) (gcnt dq5 y0q) * (nI (cntR (yeF dq5 y0q) lfq ((y0q + jq) % lfq) (gcnt dq5 y0q))).toInt64))))) (by omega) (nm_f (nm_f hnr 16 (Or.inr (Or.inr rfl)) _) 15 (Or.inr (Or.inl rfl)) _) (fun rq hr => hhr rq hr) (st_f (st_f hr14 (by decide)) (by decide)) (by rw [sti_eq, hst]) (by rw [st_f sti_eq (by decide), hst]) (by omega))
                            · skip
                              rw [lg_cmp_ge] at hb263
                              refine r_lload o dX10_findHeld_266 0 rfl ?_
                              refine r_lconst o (v := 0) dX10_findHeld_268 rfl ?_
                              refine r_lcmp o dX10_findHeld_269 ?_
                              refine r_if_ge o (tgt := 277) dX10_findHeld_270 (by decide) (fun hb270 => ?_) (fun hb270 => ?_)
                              · skip
                                rw [lg_cmp_ge] at hb270
                                refine r_iconst o (v := nI 0) dX10_findHeld_277 (by decide) ?_
                                refine r_topi (y := nI (i1q ((dq5 (y0q + jq)).toInt64 * (nI (gcnt dq5 y0q)).toInt64 - sumL (nuF dq5 y0q) (gcnt dq5 y0q)) (hsum (yeF dq5 y0q) lfq ((y0q + jq) % lfq) (nuF dq5 y0q) (gcnt dq5 y0q) * (nI (gcnt dq5 y0q)).toInt64 - sumL (nuF dq5 y0q) (gcnt dq5 y0q) * (nI (cntR (yeF dq5 y0q) lfq ((y0q + jq) % lfq) (gcnt dq5 y0q))).toInt64))) (by unfold i1q; first | (rw [if_pos (Or.inl ⟨l_nle.mp hb249, hb256⟩)]; done) | (rw [if_pos (Or.inr ⟨l_nle.mp hb263, l_nle.mp hb270⟩)]; done) | (rw [if_neg (fun zq => zq.elim (fun z1 => by first | exact l_nle.mpr z1.1 hb249 | exact hb256 z1.2) (fun z1 => by first | exact l_nle.mpr z1.1 hb263 | exact l_nle.mpr z1.2 hb270))]; done)) ?_
                                refine r_iadd o dX10_findHeld_278 ?_
                                refine r_topi (y := nI ((lkS (yeF dq5 y0q) (gcnt dq5 y0q) lfq (nuF dq5 y0q) dq5 y0q jq).1 + (i1q ((dq5 (y0q + jq)).toInt64 * (nI (gcnt dq5 y0q)).toInt64 - sumL (nuF dq5 y0q) (gcnt dq5 y0q)) (hsum (yeF dq5 y0q) lfq ((y0q + jq) % lfq) (nuF dq5 y0q) (gcnt dq5 y0q) * (nI (gcnt dq5 y0q)).toInt64 - sumL (nuF dq5 y0q) (gcnt dq5 y0q) * (nI (cntR (yeF dq5 y0q) lfq ((y0q + jq) % lfq) (gcnt dq5 y0q))).toInt64)))) (nI_add' _ _) ?_
                                refine pf_11_15 o mw_713 dX10_findHeld_279 ?_
                                refine r_iinc o (v := nI (y0q + jq + 1)) (lv' := [(7, .int (nI (y0q + jq + 1))), (11, .long (((hsum (yeF dq5 y0q) lfq ((y0q + jq) % lfq) (nuF dq5 y0q) (gcnt dq5 y0q)) * ((nI (gcnt dq5 y0q)).toInt64)) - ((sumL (nuF dq5 y0q) (gcnt dq5 y0q)) * ((nI (cntR (yeF dq5 y0q) lfq ((y0q + jq) % lfq) (gcnt dq5 y0q))).toInt64)))), (9, .long ((((dq5 (y0q + jq)).toInt64) * ((nI (gcnt dq5 y0q)).toInt64)) - (sumL (nuF dq5 y0q) (gcnt dq5 y0q)))), (8, .int (nI ((y0q + jq) % lfq))), (0, .ref (gad G 11)), (1, .int (nI rq)), (2, .int (nI y0q)), (3, .long ((fdS (yeF dq5 y0q) (gcnt dq5 y0q) (nuF dq5 y0q) 10).2)), (5, .long (sumL (nuF dq5 y0q) (gcnt dq5 y0q)))]) dX10_findHeld_282 8 rfl (nI_inc _) (by decide) rfl ?_
                                refine r_goto o (tgt := 128) dX10_findHeld_285 (by decide) ?_
                                exact r_to rfl [4, 5, 6, 7, 8, 0] rfl (ih128 (jq + 1) (sti (sti ρq 11 16 (nI ((lkS (yeF dq5 y0q) (gcnt dq5 y0q) lfq (nuF dq5 y0q) dq5 y0q jq).2 + (i2q ((dq5 (y0q + jq)).toInt64 * (nI (gcnt dq5 y0q)).toInt64 - sumL (nuF dq5 y0q) (gcnt dq5 y0q)) (hsum (yeF dq5 y0q) lfq ((y0q + jq) % lfq) (nuF dq5 y0q) (gcnt dq5 y0q) * (nI (gcnt dq5 y0q)).toInt64 - sumL (nuF dq5 y0q) (gcnt dq5 y0q) * (nI (cntR (yeF dq5 y0q) lfq ((y0q + jq) % lfq) (gcnt dq5 y0q))).toInt64))))) 11 15 (nI ((lkS (yeF dq5 y0q) (gcnt dq5 y0q) lfq (nuF dq5 y0q) dq5 y0q jq).1 + (i1q ((dq5 (y0q + jq)).toInt64 * (nI (gcnt dq5 y0q)).toInt64 - sumL (nuF dq5 y0q) (gcnt dq5 y0q)) (hsum (yeF dq5 y0q) lfq ((y0q + jq) % lfq) (nuF dq5 y0q) (gcnt dq5 y0q) * (nI (gcnt dq5 y0q)).toInt64 - sumL (nuF dq5 y0q) (gcnt dq5 y0q) * (nI (cntR (yeF dq5 y0q) lfq ((y0q + jq) % lfq) (gcnt dq5 y0q))).toInt64))))) (by omega) (nm_f (nm_f hnr 16 (Or.inr (Or.inr rfl)) _) 15 (Or.inr (Or.inl rfl)) _) (fun rq hr => hhr rq hr) (st_f (st_f hr14 (by decide)) (by decide)) (by rw [sti_eq, hst]) (by rw [st_f sti_eq (by decide), hst]) (by omega))
                              · skip
                                rw [lg_cmp_ge] at hb270
                                refine r_iconst o (v := nI 1) dX10_findHeld_273 (by decide) ?_
                                refine r_goto o (tgt := 278) dX10_findHeld_274 (by decide) ?_
                                refine r_topi (y := nI (i1q ((dq5 (y0q + jq)).toInt64 * (nI (gcnt dq5 y0q)).toInt64 - sumL (nuF dq5 y0q) (gcnt dq5 y0q)) (hsum (yeF dq5 y0q) lfq ((y0q + jq) % lfq) (nuF dq5 y0q) (gcnt dq5 y0q) * (nI (gcnt dq5 y0q)).toInt64 - sumL (nuF dq5 y0q) (gcnt dq5 y0q) * (nI (cntR (yeF dq5 y0q) lfq ((y0q + jq) % lfq) (gcnt dq5 y0q))).toInt64))) (by unfold i1q; first | (rw [if_pos (Or.inl ⟨l_nle.mp hb249, hb256⟩)]; done) | (rw [if_pos (Or.inr ⟨l_nle.mp hb263, l_nle.mp hb270⟩)]; done) | (rw [if_neg (fun zq => zq.elim (fun z1 => by first | exact l_nle.mpr z1.1 hb249 | exact hb256 z1.2) (fun z1 => by first | exact l_nle.mpr z1.1 hb263 | exact l_nle.mpr z1.2 hb270))]; done)) ?_
                                refine r_iadd o dX10_findHeld_278 ?_
                                refine r_topi (y := nI ((lkS (yeF dq5 y0q) (gcnt dq5 y0q) lfq (nuF dq5 y0q) dq5 y0q jq).1 + (i1q ((dq5 (y0q + jq)).toInt64 * (nI (gcnt dq5 y0q)).toInt64 - sumL (nuF dq5 y0q) (gcnt dq5 y0q)) (hsum (yeF dq5 y0q) lfq ((y0q + jq) % lfq) (nuF dq5 y0q) (gcnt dq5 y0q) * (nI (gcnt dq5 y0q)).toInt64 - sumL (nuF dq5 y0q) (gcnt dq5 y0q) * (nI (cntR (yeF dq5 y0q) lfq ((y0q + jq) % lfq) (gcnt dq5 y0q))).toInt64)))) (nI_add' _ _) ?_
                                refine pf_11_15 o mw_713 dX10_findHeld_279 ?_
                                refine r_iinc o (v := nI (y0q + jq + 1)) (lv' := [(7, .int (nI (y0q + jq + 1))), (11, .long (((hsum (yeF dq5 y0q) lfq ((y0q + jq) % lfq) (nuF dq5 y0q) (gcnt dq5 y0q)) * ((nI (gcnt dq5 y0q)).toInt64)) - ((sumL (nuF dq5 y0q) (gcnt dq5 y0q)) * ((nI (cntR (yeF dq5 y0q) lfq ((y0q + jq) % lfq) (gcnt dq5 y0q))).toInt64)))), (9, .long ((((dq5 (y0q + jq)).toInt64) * ((nI (gcnt dq5 y0q)).toInt64)) - (sumL (nuF dq5 y0q) (gcnt dq5 y0q)))), (8, .int (nI ((y0q + jq) % lfq))), (0, .ref (gad G 11)), (1, .int (nI rq)), (2, .int (nI y0q)), (3, .long ((fdS (yeF dq5 y0q) (gcnt dq5 y0q) (nuF dq5 y0q) 10).2)), (5, .long (sumL (nuF dq5 y0q) (gcnt dq5 y0q)))]) dX10_findHeld_282 8 rfl (nI_inc _) (by decide) rfl ?_
                                refine r_goto o (tgt := 128) dX10_findHeld_285 (by decide) ?_
                                exact r_to rfl [4, 5, 6, 7, 8, 0] rfl (ih128 (jq + 1) (sti (sti ρq 11 16 (nI ((lkS (yeF dq5 y0q) (gcnt dq5 y0q) lfq (nuF dq5 y0q) dq5 y0q jq).2 + (i2q ((dq5 (y0q + jq)).toInt64 * (nI (gcnt dq5 y0q)).toInt64 - sumL (nuF dq5 y0q) (gcnt dq5 y0q)) (hsum (yeF dq5 y0q) lfq ((y0q + jq) % lfq) (nuF dq5 y0q) (gcnt dq5 y0q) * (nI (gcnt dq5 y0q)).toInt64 - sumL (nuF dq5 y0q) (gcnt dq5 y0q) * (nI (cntR (yeF dq5 y0q) lfq ((y0q + jq) % lfq) (gcnt dq5 y0q))).toInt64))))) 11 15 (nI ((lkS (yeF dq5 y0q) (gcnt dq5 y0q) lfq (nuF dq5 y0q) dq5 y0q jq).1 + (i1q ((dq5 (y0q + jq)).toInt64 * (nI (gcnt dq5 y0q)).toInt64 - sumL (nuF dq5 y0q) (gcnt dq5 y0q)) (hsum (yeF dq5 y0q) lfq ((y0q + jq) % lfq) (nuF dq5 y0q) (gcnt dq5 y0q) * (nI (gcnt dq5 y0q)).toInt64 - sumL (nuF dq5 y0q) (gcnt dq5 y0q) * (nI (cntR (yeF dq5 y0q) lfq ((y0q + jq) % lfq) (gcnt dq5 y0q))).toInt64))))) (by omega) (nm_f (nm_f hnr 16 (Or.inr (Or.inr rfl)) _) 15 (Or.inr (Or.inl rfl)) _) (fun rq hr => hhr rq hr) (st_f (st_f hr14 (by decide)) (by decide)) (by rw [sti_eq, hst]) (by rw [st_f sti_eq (by decide), hst]) (by omega))
                      · skip
                        rw [lg_cmp_eq] at hb228
                        refine r_iconst o (v := nI 1) dX10_findHeld_231 (by decide) ?_
                        refine r_goto o (tgt := 236) dX10_findHeld_232 (by decide) ?_
                        refine r_topi (y := nI (i2q ((dq5 (y0q + jq)).toInt64 * (nI (gcnt dq5 y0q)).toInt64 - sumL (nuF dq5 y0q) (gcnt dq5 y0q)) (hsum (yeF dq5 y0q) lfq ((y0q + jq) % lfq) (nuF dq5 y0q) (gcnt dq5 y0q) * (nI (gcnt dq5 y0q)).toInt64 - sumL (nuF dq5 y0q) (gcnt dq5 y0q) * (nI (cntR (yeF dq5 y0q) lfq ((y0q + jq) % lfq) (gcnt dq5 y0q))).toInt64))) (by unfold i2q; first | (rw [if_pos hb221]; done) | (rw [if_neg hb221, if_pos hb228]; done) | (rw [if_neg hb221, if_neg hb228]; done)) ?_
                        refine r_iadd o dX10_findHeld_236 ?_
                        refine r_topi (y := nI ((lkS (yeF dq5 y0q) (gcnt dq5 y0q) lfq (nuF dq5 y0q) dq5 y0q jq).2 + (i2q ((dq5 (y0q + jq)).toInt64 * (nI (gcnt dq5 y0q)).toInt64 - sumL (nuF dq5 y0q) (gcnt dq5 y0q)) (hsum (yeF dq5 y0q) lfq ((y0q + jq) % lfq) (nuF dq5 y0q) (gcnt dq5 y0q) * (nI (gcnt dq5 y0q)).toInt64 - sumL (nuF dq5 y0q) (gcnt dq5 y0q) * (nI (cntR (yeF dq5 y0q) lfq ((y0q + jq) % lfq) (gcnt dq5 y0q))).toInt64)))) (nI_add' _ _) ?_
                        refine pf_11_16 o mw_714 dX10_findHeld_237 ?_
                        refine r_aload_n o dX10_findHeld_240 3 rfl ?_
                        refine r_dup o dX10_findHeld_241 rfl ?_
                        refine gf_11_15 (σ := sti ρq 11 16 (nI ((lkS (yeF dq5 y0q) (gcnt dq5 y0q) lfq (nuF dq5 y0q) dq5 y0q jq).2 + (i2q ((dq5 (y0q + jq)).toInt64 * (nI (gcnt dq5 y0q)).toInt64 - sumL (nuF dq5 y0q) (gcnt dq5 y0q)) (hsum (yeF dq5 y0q) lfq ((y0q + jq) % lfq) (nuF dq5 y0q) (gcnt dq5 y0q) * (nI (gcnt dq5 y0q)).toInt64 - sumL (nuF dq5 y0q) (gcnt dq5 y0q) * (nI (cntR (yeF dq5 y0q) lfq ((y0q + jq) % lfq) (gcnt dq5 y0q))).toInt64))))) o (v := nI ((lkS (yeF dq5 y0q) (gcnt dq5 y0q) lfq (nuF dq5 y0q) dq5 y0q jq).1)) hr15 mw_713 dX10_findHeld_242 ?_
                        refine r_lload o dX10_findHeld_245 1 rfl ?_
                        refine r_lconst o (v := 0) dX10_findHeld_247 rfl ?_
                        refine r_lcmp o dX10_findHeld_248 ?_
                        refine r_if_le o (tgt := 259) dX10_findHeld_249 (by decide) (fun hb249 => ?_) (fun hb249 => ?_)
                        · skip
                          rw [lg_cmp_le] at hb249
                          refine r_lload o dX10_findHeld_259 1 rfl ?_
                          refine r_lconst o (v := 0) dX10_findHeld_261 rfl ?_
                          refine r_lcmp o dX10_findHeld_262 ?_
                          refine r_if_ge o (tgt := 277) dX10_findHeld_263 (by decide) (fun hb263 => ?_) (fun hb263 => ?_)
                          · skip
                            rw [lg_cmp_ge] at hb263
                            refine r_iconst o (v := nI 0) dX10_findHeld_277 (by decide) ?_
                            refine r_topi (y := nI (i1q ((dq5 (y0q + jq)).toInt64 * (nI (gcnt dq5 y0q)).toInt64 - sumL (nuF dq5 y0q) (gcnt dq5 y0q)) (hsum (yeF dq5 y0q) lfq ((y0q + jq) % lfq) (nuF dq5 y0q) (gcnt dq5 y0q) * (nI (gcnt dq5 y0q)).toInt64 - sumL (nuF dq5 y0q) (gcnt dq5 y0q) * (nI (cntR (yeF dq5 y0q) lfq ((y0q + jq) % lfq) (gcnt dq5 y0q))).toInt64))) (by unfold i1q; first | (rw [if_pos (Or.inl ⟨l_nle.mp hb249, hb256⟩)]; done) | (rw [if_pos (Or.inr ⟨l_nle.mp hb263, l_nle.mp hb270⟩)]; done) | (rw [if_neg (fun zq => zq.elim (fun z1 => by first | exact l_nle.mpr z1.1 hb249 | exact hb256 z1.2) (fun z1 => by first | exact l_nle.mpr z1.1 hb263 | exact l_nle.mpr z1.2 hb270))]; done)) ?_
                            refine r_iadd o dX10_findHeld_278 ?_
                            refine r_topi (y := nI ((lkS (yeF dq5 y0q) (gcnt dq5 y0q) lfq (nuF dq5 y0q) dq5 y0q jq).1 + (i1q ((dq5 (y0q + jq)).toInt64 * (nI (gcnt dq5 y0q)).toInt64 - sumL (nuF dq5 y0q) (gcnt dq5 y0q)) (hsum (yeF dq5 y0q) lfq ((y0q + jq) % lfq) (nuF dq5 y0q) (gcnt dq5 y0q) * (nI (gcnt dq5 y0q)).toInt64 - sumL (nuF dq5 y0q) (gcnt dq5 y0q) * (nI (cntR (yeF dq5 y0q) lfq ((y0q + jq) % lfq) (gcnt dq5 y0q))).toInt64)))) (nI_add' _ _) ?_
                            refine pf_11_15 o mw_713 dX10_findHeld_279 ?_
                            refine r_iinc o (v := nI (y0q + jq + 1)) (lv' := [(7, .int (nI (y0q + jq + 1))), (11, .long (((hsum (yeF dq5 y0q) lfq ((y0q + jq) % lfq) (nuF dq5 y0q) (gcnt dq5 y0q)) * ((nI (gcnt dq5 y0q)).toInt64)) - ((sumL (nuF dq5 y0q) (gcnt dq5 y0q)) * ((nI (cntR (yeF dq5 y0q) lfq ((y0q + jq) % lfq) (gcnt dq5 y0q))).toInt64)))), (9, .long ((((dq5 (y0q + jq)).toInt64) * ((nI (gcnt dq5 y0q)).toInt64)) - (sumL (nuF dq5 y0q) (gcnt dq5 y0q)))), (8, .int (nI ((y0q + jq) % lfq))), (0, .ref (gad G 11)), (1, .int (nI rq)), (2, .int (nI y0q)), (3, .long ((fdS (yeF dq5 y0q) (gcnt dq5 y0q) (nuF dq5 y0q) 10).2)), (5, .long (sumL (nuF dq5 y0q) (gcnt dq5 y0q)))]) dX10_findHeld_282 8 rfl (nI_inc _) (by decide) rfl ?_
                            refine r_goto o (tgt := 128) dX10_findHeld_285 (by decide) ?_
                            exact r_to rfl [4, 5, 6, 7, 8, 0] rfl (ih128 (jq + 1) (sti (sti ρq 11 16 (nI ((lkS (yeF dq5 y0q) (gcnt dq5 y0q) lfq (nuF dq5 y0q) dq5 y0q jq).2 + (i2q ((dq5 (y0q + jq)).toInt64 * (nI (gcnt dq5 y0q)).toInt64 - sumL (nuF dq5 y0q) (gcnt dq5 y0q)) (hsum (yeF dq5 y0q) lfq ((y0q + jq) % lfq) (nuF dq5 y0q) (gcnt dq5 y0q) * (nI (gcnt dq5 y0q)).toInt64 - sumL (nuF dq5 y0q) (gcnt dq5 y0q) * (nI (cntR (yeF dq5 y0q) lfq ((y0q + jq) % lfq) (gcnt dq5 y0q))).toInt64))))) 11 15 (nI ((lkS (yeF dq5 y0q) (gcnt dq5 y0q) lfq (nuF dq5 y0q) dq5 y0q jq).1 + (i1q ((dq5 (y0q + jq)).toInt64 * (nI (gcnt dq5 y0q)).toInt64 - sumL (nuF dq5 y0q) (gcnt dq5 y0q)) (hsum (yeF dq5 y0q) lfq ((y0q + jq) % lfq) (nuF dq5 y0q) (gcnt dq5 y0q) * (nI (gcnt dq5 y0q)).toInt64 - sumL (nuF dq5 y0q) (gcnt dq5 y0q) * (nI (cntR (yeF dq5 y0q) lfq ((y0q + jq) % lfq) (gcnt dq5 y0q))).toInt64))))) (by omega) (nm_f (nm_f hnr 16 (Or.inr (Or.inr rfl)) _) 15 (Or.inr (Or.inl rfl)) _) (fun rq hr => hhr rq hr) (st_f (st_f hr14 (by decide)) (by decide)) (by rw [sti_eq, hst]) (by rw [st_f sti_eq (by decide), hst]) (by omega))
                          · skip
                            rw [lg_cmp_ge] at hb263
                            refine r_lload o dX10_findHeld_266 0 rfl ?_
                            refine r_lconst o (v := 0) dX10_findHeld_268 rfl ?_
                            refine r_lcmp o dX10_findHeld_269 ?_
                            refine r_if_ge o (tgt := 277) dX10_findHeld_270 (by decide) (fun hb270 => ?_) (fun hb270 => ?_)
                            · skip
                              rw [lg_cmp_ge] at hb270
                              refine r_iconst o (v := nI 0) dX10_findHeld_277 (by decide) ?_
                              refine r_topi (y := nI (i1q ((dq5 (y0q + jq)).toInt64 * (nI (gcnt dq5 y0q)).toInt64 - sumL (nuF dq5 y0q) (gcnt dq5 y0q)) (hsum (yeF dq5 y0q) lfq ((y0q + jq) % lfq) (nuF dq5 y0q) (gcnt dq5 y0q) * (nI (gcnt dq5 y0q)).toInt64 - sumL (nuF dq5 y0q) (gcnt dq5 y0q) * (nI (cntR (yeF dq5 y0q) lfq ((y0q + jq) % lfq) (gcnt dq5 y0q))).toInt64))) (by unfold i1q; first | (rw [if_pos (Or.inl ⟨l_nle.mp hb249, hb256⟩)]; done) | (rw [if_pos (Or.inr ⟨l_nle.mp hb263, l_nle.mp hb270⟩)]; done) | (rw [if_neg (fun zq => zq.elim (fun z1 => by first | exact l_nle.mpr z1.1 hb249 | exact hb256 z1.2) (fun z1 => by first | exact l_nle.mpr z1.1 hb263 | exact l_nle.mpr z1.2 hb270))]; done)) ?_
                              refine r_iadd o dX10_findHeld_278 ?_
                              refine r_topi (y := nI ((lkS (yeF dq5 y0q) (gcnt dq5 y0q) lfq (nuF dq5 y0q) dq5 y0q jq).1 + (i1q ((dq5 (y0q + jq)).toInt64 * (nI (gcnt dq5 y0q)).toInt64 - sumL (nuF dq5 y0q) (gcnt dq5 y0q)) (hsum (yeF dq5 y0q) lfq ((y0q + jq) % lfq) (nuF dq5 y0q) (gcnt dq5 y0q) * (nI (gcnt dq5 y0q)).toInt64 - sumL (nuF dq5 y0q) (gcnt dq5 y0q) * (nI (cntR (yeF dq5 y0q) lfq ((y0q + jq) % lfq) (gcnt dq5 y0q))).toInt64)))) (nI_add' _ _) ?_
                              refine pf_11_15 o mw_713 dX10_findHeld_279 ?_
                              refine r_iinc o (v := nI (y0q + jq + 1)) (lv' := [(7, .int (nI (y0q + jq + 1))), (11, .long (((hsum (yeF dq5 y0q) lfq ((y0q + jq) % lfq) (nuF dq5 y0q) (gcnt dq5 y0q)) * ((nI (gcnt dq5 y0q)).toInt64)) - ((sumL (nuF dq5 y0q) (gcnt dq5 y0q)) * ((nI (cntR (yeF dq5 y0q) lfq ((y0q + jq) % lfq) (gcnt dq5 y0q))).toInt64)))), (9, .long ((((dq5 (y0q + jq)).toInt64) * ((nI (gcnt dq5 y0q)).toInt64)) - (sumL (nuF dq5 y0q) (gcnt dq5 y0q)))), (8, .int (nI ((y0q + jq) % lfq))), (0, .ref (gad G 11)), (1, .int (nI rq)), (2, .int (nI y0q)), (3, .long ((fdS (yeF dq5 y0q) (gcnt dq5 y0q) (nuF dq5 y0q) 10).2)), (5, .long (sumL (nuF dq5 y0q) (gcnt dq5 y0q)))]) dX10_findHeld_282 8 rfl (nI_inc _) (by decide) rfl ?_
                              refine r_goto o (tgt := 128) dX10_findHeld_285 (by decide) ?_
                              exact r_to rfl [4, 5, 6, 7, 8, 0] rfl (ih128 (jq + 1) (sti (sti ρq 11 16 (nI ((lkS (yeF dq5 y0q) (gcnt dq5 y0q) lfq (nuF dq5 y0q) dq5 y0q jq).2 + (i2q ((dq5 (y0q + jq)).toInt64 * (nI (gcnt dq5 y0q)).toInt64 - sumL (nuF dq5 y0q) (gcnt dq5 y0q)) (hsum (yeF dq5 y0q) lfq ((y0q + jq) % lfq) (nuF dq5 y0q) (gcnt dq5 y0q) * (nI (gcnt dq5 y0q)).toInt64 - sumL (nuF dq5 y0q) (gcnt dq5 y0q) * (nI (cntR (yeF dq5 y0q) lfq ((y0q + jq) % lfq) (gcnt dq5 y0q))).toInt64))))) 11 15 (nI ((lkS (yeF dq5 y0q) (gcnt dq5 y0q) lfq (nuF dq5 y0q) dq5 y0q jq).1 + (i1q ((dq5 (y0q + jq)).toInt64 * (nI (gcnt dq5 y0q)).toInt64 - sumL (nuF dq5 y0q) (gcnt dq5 y0q)) (hsum (yeF dq5 y0q) lfq ((y0q + jq) % lfq) (nuF dq5 y0q) (gcnt dq5 y0q) * (nI (gcnt dq5 y0q)).toInt64 - sumL (nuF dq5 y0q) (gcnt dq5 y0q) * (nI (cntR (yeF dq5 y0q) lfq ((y0q + jq) % lfq) (gcnt dq5 y0q))).toInt64))))) (by omega) (nm_f (nm_f hnr 16 (Or.inr (Or.inr rfl)) _) 15 (Or.inr (Or.inl rfl)) _) (fun rq hr => hhr rq hr) (st_f (st_f hr14 (by decide)) (by decide)) (by rw [sti_eq, hst]) (by rw [st_f sti_eq (by decide), hst]) (by omega))
                            · skip
                              rw [lg_cmp_ge] at hb270
                              refine r_iconst o (v := nI 1) dX10_findHeld_273 (by decide) ?_
                              refine r_goto o (tgt := 278) dX10_findHeld_274 (by decide) ?_
                              refine r_topi (y := nI (i1q ((dq5 (y0q + jq)).toInt64 * (nI (gcnt dq5 y0q)).toInt64 - sumL (nuF dq5 y0q) (gcnt dq5 y0q)) (hsum (yeF dq5 y0q) lfq ((y0q + jq) % lfq) (nuF dq5 y0q) (gcnt dq5 y0q) * (nI (gcnt dq5 y0q)).toInt64 - sumL (nuF dq5 y0q) (gcnt dq5 y0q) * (nI (cntR (yeF dq5 y0q) lfq ((y0q + jq) % lfq) (gcnt dq5 y0q))).toInt64))) (by unfold i1q; first | (rw [if_pos (Or.inl ⟨l_nle.mp hb249, hb256⟩)]; done) | (rw [if_pos (Or.inr ⟨l_nle.mp hb263, l_nle.mp hb270⟩)]; done) | (rw [if_neg (fun zq => zq.elim (fun z1 => by first | exact l_nle.mpr z1.1 hb249 | exact hb256 z1.2) (fun z1 => by first | exact l_nle.mpr z1.1 hb263 | exact l_nle.mpr z1.2 hb270))]; done)) ?_
                              refine r_iadd o dX10_findHeld_278 ?_
                              refine r_topi (y := nI ((lkS (yeF dq5 y0q) (gcnt dq5 y0q) lfq (nuF dq5 y0q) dq5 y0q jq).1 + (i1q ((dq5 (y0q + jq)).toInt64 * (nI (gcnt dq5 y0q)).toInt64 - sumL (nuF dq5 y0q) (gcnt dq5 y0q)) (hsum (yeF dq5 y0q) lfq ((y0q + jq) % lfq) (nuF dq5 y0q) (gcnt dq5 y0q) * (nI (gcnt dq5 y0q)).toInt64 - sumL (nuF dq5 y0q) (gcnt dq5 y0q) * (nI (cntR (yeF dq5 y0q) lfq ((y0q + jq) % lfq) (gcnt dq5 y0q))).toInt64)))) (nI_add' _ _) ?_
                              refine pf_11_15 o mw_713 dX10_findHeld_279 ?_
                              refine r_iinc o (v := nI (y0q + jq + 1)) (lv' := [(7, .int (nI (y0q + jq + 1))), (11, .long (((hsum (yeF dq5 y0q) lfq ((y0q + jq) % lfq) (nuF dq5 y0q) (gcnt dq5 y0q)) * ((nI (gcnt dq5 y0q)).toInt64)) - ((sumL (nuF dq5 y0q) (gcnt dq5 y0q)) * ((nI (cntR (yeF dq5 y0q) lfq ((y0q + jq) % lfq) (gcnt dq5 y0q))).toInt64)))), (9, .long ((((dq5 (y0q + jq)).toInt64) * ((nI (gcnt dq5 y0q)).toInt64)) - (sumL (nuF dq5 y0q) (gcnt dq5 y0q)))), (8, .int (nI ((y0q + jq) % lfq))), (0, .ref (gad G 11)), (1, .int (nI rq)), (2, .int (nI y0q)), (3, .long ((fdS (yeF dq5 y0q) (gcnt dq5 y0q) (nuF dq5 y0q) 10).2)), (5, .long (sumL (nuF dq5 y0q) (gcnt dq5 y0q)))]) dX10_findHeld_282 8 rfl (nI_inc _) (by decide) rfl ?_
                              refine r_goto o (tgt := 128) dX10_findHeld_285 (by decide) ?_
                              exact r_to rfl [4, 5, 6, 7, 8, 0] rfl (ih128 (jq + 1) (sti (sti ρq 11 16 (nI ((lkS (yeF dq5 y0q) (gcnt dq5 y0q) lfq (nuF dq5 y0q) dq5 y0q jq).2 + (i2q ((dq5 (y0q + jq)).toInt64 * (nI (gcnt dq5 y0q)).toInt64 - sumL (nuF dq5 y0q) (gcnt dq5 y0q)) (hsum (yeF dq5 y0q) lfq ((y0q + jq) % lfq) (nuF dq5 y0q) (gcnt dq5 y0q) * (nI (gcnt dq5 y0q)).toInt64 - sumL (nuF dq5 y0q) (gcnt dq5 y0q) * (nI (cntR (yeF dq5 y0q) lfq ((y0q + jq) % lfq) (gcnt dq5 y0q))).toInt64))))) 11 15 (nI ((lkS (yeF dq5 y0q) (gcnt dq5 y0q) lfq (nuF dq5 y0q) dq5 y0q jq).1 + (i1q ((dq5 (y0q + jq)).toInt64 * (nI (gcnt dq5 y0q)).toInt64 - sumL (nuF dq5 y0q) (gcnt dq5 y0q)) (hsum (yeF dq5 y0q) lfq ((y0q + jq) % lfq) (nuF dq5 y0q) (gcnt dq5 y0q) * (nI (gcnt dq5 y0q)).toInt64 - sumL (nuF dq5 y0q) (gcnt dq5 y0q) * (nI (cntR (yeF dq5 y0q) lfq ((y0q + jq) % lfq) (gcnt dq5 y0q))).toInt64))))) (by omega) (nm_f (nm_f hnr 16 (Or.inr (Or.inr rfl)) _) 15 (Or.inr (Or.inl rfl)) _) (fun rq hr => hhr rq hr) (st_f (st_f hr14 (by decide)) (by decide)) (by rw [sti_eq, hst]) (by rw [st_f sti_eq (by decide), hst]) (by omega))
                        · skip
                          rw [lg_cmp_le] at hb249
                          refine r_lload o dX10_findHeld_252 0 rfl ?_
                          refine r_lconst o (v := 0) dX10_findHeld_254 rfl ?_
                          refine r_lcmp o dX10_findHeld_255 ?_
                          refine r_if_gt o (tgt := 273) dX10_findHeld_256 (by decide) (fun hb256 => ?_) (fun hb256 => ?_)
                          · skip
                            rw [lg_cmp_gt] at hb256
                            refine r_iconst o (v := nI 1) dX10_findHeld_273 (by decide) ?_
                            refine r_goto o (tgt := 278) dX10_findHeld_274 (by decide) ?_
                            refine r_topi (y := nI (i1q ((dq5 (y0q + jq)).toInt64 * (nI (gcnt dq5 y0q)).toInt64 - sumL (nuF dq5 y0q) (gcnt dq5 y0q)) (hsum (yeF dq5 y0q) lfq ((y0q + jq) % lfq) (nuF dq5 y0q) (gcnt dq5 y0q) * (nI (gcnt dq5 y0q)).toInt64 - sumL (nuF dq5 y0q) (gcnt dq5 y0q) * (nI (cntR (yeF dq5 y0q) lfq ((y0q + jq) % lfq) (gcnt dq5 y0q))).toInt64))) (by unfold i1q; first | (rw [if_pos (Or.inl ⟨l_nle.mp hb249, hb256⟩)]; done) | (rw [if_pos (Or.inr ⟨l_nle.mp hb263, l_nle.mp hb270⟩)]; done) | (rw [if_neg (fun zq => zq.elim (fun z1 => by first | exact l_nle.mpr z1.1 hb249 | exact hb256 z1.2) (fun z1 => by first | exact l_nle.mpr z1.1 hb263 | exact l_nle.mpr z1.2 hb270))]; done)) ?_
                            refine r_iadd o dX10_findHeld_278 ?_
                            refine r_topi (y := nI ((lkS (yeF dq5 y0q) (gcnt dq5 y0q) lfq (nuF dq5 y0q) dq5 y0q jq).1 + (i1q ((dq5 (y0q + jq)).toInt64 * (nI (gcnt dq5 y0q)).toInt64 - sumL (nuF dq5 y0q) (gcnt dq5 y0q)) (hsum (yeF dq5 y0q) lfq ((y0q + jq) % lfq) (nuF dq5 y0q) (gcnt dq5 y0q) * (nI (gcnt dq5 y0q)).toInt64 - sumL (nuF dq5 y0q) (gcnt dq5 y0q) * (nI (cntR (yeF dq5 y0q) lfq ((y0q + jq) % lfq) (gcnt dq5 y0q))).toInt64)))) (nI_add' _ _) ?_
                            refine pf_11_15 o mw_713 dX10_findHeld_279 ?_
                            refine r_iinc o (v := nI (y0q + jq + 1)) (lv' := [(7, .int (nI (y0q + jq + 1))), (11, .long (((hsum (yeF dq5 y0q) lfq ((y0q + jq) % lfq) (nuF dq5 y0q) (gcnt dq5 y0q)) * ((nI (gcnt dq5 y0q)).toInt64)) - ((sumL (nuF dq5 y0q) (gcnt dq5 y0q)) * ((nI (cntR (yeF dq5 y0q) lfq ((y0q + jq) % lfq) (gcnt dq5 y0q))).toInt64)))), (9, .long ((((dq5 (y0q + jq)).toInt64) * ((nI (gcnt dq5 y0q)).toInt64)) - (sumL (nuF dq5 y0q) (gcnt dq5 y0q)))), (8, .int (nI ((y0q + jq) % lfq))), (0, .ref (gad G 11)), (1, .int (nI rq)), (2, .int (nI y0q)), (3, .long ((fdS (yeF dq5 y0q) (gcnt dq5 y0q) (nuF dq5 y0q) 10).2)), (5, .long (sumL (nuF dq5 y0q) (gcnt dq5 y0q)))]) dX10_findHeld_282 8 rfl (nI_inc _) (by decide) rfl ?_
                            refine r_goto o (tgt := 128) dX10_findHeld_285 (by decide) ?_
                            exact r_to rfl [4, 5, 6, 7, 8, 0] rfl (ih128 (jq + 1) (sti (sti ρq 11 16 (nI ((lkS (yeF dq5 y0q) (gcnt dq5 y0q) lfq (nuF dq5 y0q) dq5 y0q jq).2 + (i2q ((dq5 (y0q + jq)).toInt64 * (nI (gcnt dq5 y0q)).toInt64 - sumL (nuF dq5 y0q) (gcnt dq5 y0q)) (hsum (yeF dq5 y0q) lfq ((y0q + jq) % lfq) (nuF dq5 y0q) (gcnt dq5 y0q) * (nI (gcnt dq5 y0q)).toInt64 - sumL (nuF dq5 y0q) (gcnt dq5 y0q) * (nI (cntR (yeF dq5 y0q) lfq ((y0q + jq) % lfq) (gcnt dq5 y0q))).toInt64))))) 11 15 (nI ((lkS (yeF dq5 y0q) (gcnt dq5 y0q) lfq (nuF dq5 y0q) dq5 y0q jq).1 + (i1q ((dq5 (y0q + jq)).toInt64 * (nI (gcnt dq5 y0q)).toInt64 - sumL (nuF dq5 y0q) (gcnt dq5 y0q)) (hsum (yeF dq5 y0q) lfq ((y0q + jq) % lfq) (nuF dq5 y0q) (gcnt dq5 y0q) * (nI (gcnt dq5 y0q)).toInt64 - sumL (nuF dq5 y0q) (gcnt dq5 y0q) * (nI (cntR (yeF dq5 y0q) lfq ((y0q + jq) % lfq) (gcnt dq5 y0q))).toInt64))))) (by omega) (nm_f (nm_f hnr 16 (Or.inr (Or.inr rfl)) _) 15 (Or.inr (Or.inl rfl)) _) (fun rq hr => hhr rq hr) (st_f (st_f hr14 (by decide)) (by decide)) (by rw [sti_eq, hst]) (by rw [st_f sti_eq (by decide), hst]) (by omega))
                          · skip
                            rw [lg_cmp_gt] at hb256
                            refine r_lload o dX10_findHeld_259 1 rfl ?_
                            refine r_lconst o (v := 0) dX10_findHeld_261 rfl ?_
                            refine r_lcmp o dX10_findHeld_262 ?_
                            refine r_if_ge o (tgt := 277) dX10_findHeld_263 (by decide) (fun hb263 => ?_) (fun hb263 => ?_)
                            · skip
                              rw [lg_cmp_ge] at hb263
                              refine r_iconst o (v := nI 0) dX10_findHeld_277 (by decide) ?_
                              refine r_topi (y := nI (i1q ((dq5 (y0q + jq)).toInt64 * (nI (gcnt dq5 y0q)).toInt64 - sumL (nuF dq5 y0q) (gcnt dq5 y0q)) (hsum (yeF dq5 y0q) lfq ((y0q + jq) % lfq) (nuF dq5 y0q) (gcnt dq5 y0q) * (nI (gcnt dq5 y0q)).toInt64 - sumL (nuF dq5 y0q) (gcnt dq5 y0q) * (nI (cntR (yeF dq5 y0q) lfq ((y0q + jq) % lfq) (gcnt dq5 y0q))).toInt64))) (by unfold i1q; first | (rw [if_pos (Or.inl ⟨l_nle.mp hb249, hb256⟩)]; done) | (rw [if_pos (Or.inr ⟨l_nle.mp hb263, l_nle.mp hb270⟩)]; done) | (rw [if_neg (fun zq => zq.elim (fun z1 => by first | exact l_nle.mpr z1.1 hb249 | exact hb256 z1.2) (fun z1 => by first | exact l_nle.mpr z1.1 hb263 | exact l_nle.mpr z1.2 hb270))]; done)) ?_
                              refine r_iadd o dX10_findHeld_278 ?_
                              refine r_topi (y := nI ((lkS (yeF dq5 y0q) (gcnt dq5 y0q) lfq (nuF dq5 y0q) dq5 y0q jq).1 + (i1q ((dq5 (y0q + jq)).toInt64 * (nI (gcnt dq5 y0q)).toInt64 - sumL (nuF dq5 y0q) (gcnt dq5 y0q)) (hsum (yeF dq5 y0q) lfq ((y0q + jq) % lfq) (nuF dq5 y0q) (gcnt dq5 y0q) * (nI (gcnt dq5 y0q)).toInt64 - sumL (nuF dq5 y0q) (gcnt dq5 y0q) * (nI (cntR (yeF dq5 y0q) lfq ((y0q + jq) % lfq) (gcnt dq5 y0q))).toInt64)))) (nI_add' _ _) ?_
                              refine pf_11_15 o mw_713 dX10_findHeld_279 ?_
                              refine r_iinc o (v := nI (y0q + jq + 1)) (lv' := [(7, .int (nI (y0q + jq + 1))), (11, .long (((hsum (yeF dq5 y0q) lfq ((y0q + jq) % lfq) (nuF dq5 y0q) (gcnt dq5 y0q)) * ((nI (gcnt dq5 y0q)).toInt64)) - ((sumL (nuF dq5 y0q) (gcnt dq5 y0q)) * ((nI (cntR (yeF dq5 y0q) lfq ((y0q + jq) % lfq) (gcnt dq5 y0q))).toInt64)))), (9, .long ((((dq5 (y0q + jq)).toInt64) * ((nI (gcnt dq5 y0q)).toInt64)) - (sumL (nuF dq5 y0q) (gcnt dq5 y0q)))), (8, .int (nI ((y0q + jq) % lfq))), (0, .ref (gad G 11)), (1, .int (nI rq)), (2, .int (nI y0q)), (3, .long ((fdS (yeF dq5 y0q) (gcnt dq5 y0q) (nuF dq5 y0q) 10).2)), (5, .long (sumL (nuF dq5 y0q) (gcnt dq5 y0q)))]) dX10_findHeld_282 8 rfl (nI_inc _) (by decide) rfl ?_
                              refine r_goto o (tgt := 128) dX10_findHeld_285 (by decide) ?_
                              exact r_to rfl [4, 5, 6, 7, 8, 0] rfl (ih128 (jq + 1) (sti (sti ρq 11 16 (nI ((lkS (yeF dq5 y0q) (gcnt dq5 y0q) lfq (nuF dq5 y0q) dq5 y0q jq).2 + (i2q ((dq5 (y0q + jq)).toInt64 * (nI (gcnt dq5 y0q)).toInt64 - sumL (nuF dq5 y0q) (gcnt dq5 y0q)) (hsum (yeF dq5 y0q) lfq ((y0q + jq) % lfq) (nuF dq5 y0q) (gcnt dq5 y0q) * (nI (gcnt dq5 y0q)).toInt64 - sumL (nuF dq5 y0q) (gcnt dq5 y0q) * (nI (cntR (yeF dq5 y0q) lfq ((y0q + jq) % lfq) (gcnt dq5 y0q))).toInt64))))) 11 15 (nI ((lkS (yeF dq5 y0q) (gcnt dq5 y0q) lfq (nuF dq5 y0q) dq5 y0q jq).1 + (i1q ((dq5 (y0q + jq)).toInt64 * (nI (gcnt dq5 y0q)).toInt64 - sumL (nuF dq5 y0q) (gcnt dq5 y0q)) (hsum (yeF dq5 y0q) lfq ((y0q + jq) % lfq) (nuF dq5 y0q) (gcnt dq5 y0q) * (nI (gcnt dq5 y0q)).toInt64 - sumL (nuF dq5 y0q) (gcnt dq5 y0q) * (nI (cntR (yeF dq5 y0q) lfq ((y0q + jq) % lfq) (gcnt dq5 y0q))).toInt64))))) (by omega) (nm_f (nm_f hnr 16 (Or.inr (Or.inr rfl)) _) 15 (Or.inr (Or.inl rfl)) _) (fun rq hr => hhr rq hr) (st_f (st_f hr14 (by decide)) (by decide)) (by rw [sti_eq, hst]) (by rw [st_f sti_eq (by decide), hst]) (by omega))
                            · skip
                              rw [lg_cmp_ge] at hb263
                              refine r_lload o dX10_findHeld_266 0 rfl ?_
                              refine r_lconst o (v := 0) dX10_findHeld_268 rfl ?_
                              refine r_lcmp o dX10_findHeld_269 ?_
                              refine r_if_ge o (tgt := 277) dX10_findHeld_270 (by decide) (fun hb270 => ?_) (fun hb270 => ?_)
                              · skip
                                rw [lg_cmp_ge] at hb270
                                refine r_iconst o (v := nI 0) dX10_findHeld_277 (by decide) ?_
                                refine r_topi (y := nI (i1q ((dq5 (y0q + jq)).toInt64 * (nI (gcnt dq5 y0q)).toInt64 - sumL (nuF dq5 y0q) (gcnt dq5 y0q)) (hsum (yeF dq5 y0q) lfq ((y0q + jq) % lfq) (nuF dq5 y0q) (gcnt dq5 y0q) * (nI (gcnt dq5 y0q)).toInt64 - sumL (nuF dq5 y0q) (gcnt dq5 y0q) * (nI (cntR (yeF dq5 y0q) lfq ((y0q + jq) % lfq) (gcnt dq5 y0q))).toInt64))) (by unfold i1q; first | (rw [if_pos (Or.inl ⟨l_nle.mp hb249, hb256⟩)]; done) | (rw [if_pos (Or.inr ⟨l_nle.mp hb263, l_nle.mp hb270⟩)]; done) | (rw [if_neg (fun zq => zq.elim (fun z1 => by first | exact l_nle.mpr z1.1 hb249 | exact hb256 z1.2) (fun z1 => by first | exact l_nle.mpr z1.1 hb263 | exact l_nle.mpr z1.2 hb270))]; done)) ?_
                                refine r_iadd o dX10_findHeld_278 ?_
                                refine r_topi (y := nI ((lkS (yeF dq5 y0q) (gcnt dq5 y0q) lfq (nuF dq5 y0q) dq5 y0q jq).1 + (i1q ((dq5 (y0q + jq)).toInt64 * (nI (gcnt dq5 y0q)).toInt64 - sumL (nuF dq5 y0q) (gcnt dq5 y0q)) (hsum (yeF dq5 y0q) lfq ((y0q + jq) % lfq) (nuF dq5 y0q) (gcnt dq5 y0q) * (nI (gcnt dq5 y0q)).toInt64 - sumL (nuF dq5 y0q) (gcnt dq5 y0q) * (nI (cntR (yeF dq5 y0q) lfq ((y0q + jq) % lfq) (gcnt dq5 y0q))).toInt64)))) (nI_add' _ _) ?_
                                refine pf_11_15 o mw_713 dX10_findHeld_279 ?_
                                refine r_iinc o (v := nI (y0q + jq + 1)) (lv' := [(7, .int (nI (y0q + jq + 1))), (11, .long (((hsum (yeF dq5 y0q) lfq ((y0q + jq) % lfq) (nuF dq5 y0q) (gcnt dq5 y0q)) * ((nI (gcnt dq5 y0q)).toInt64)) - ((sumL (nuF dq5 y0q) (gcnt dq5 y0q)) * ((nI (cntR (yeF dq5 y0q) lfq ((y0q + jq) % lfq) (gcnt dq5 y0q))).toInt64)))), (9, .long ((((dq5 (y0q + jq)).toInt64) * ((nI (gcnt dq5 y0q)).toInt64)) - (sumL (nuF dq5 y0q) (gcnt dq5 y0q)))), (8, .int (nI ((y0q + jq) % lfq))), (0, .ref (gad G 11)), (1, .int (nI rq)), (2, .int (nI y0q)), (3, .long ((fdS (yeF dq5 y0q) (gcnt dq5 y0q) (nuF dq5 y0q) 10).2)), (5, .long (sumL (nuF dq5 y0q) (gcnt dq5 y0q)))]) dX10_findHeld_282 8 rfl (nI_inc _) (by decide) rfl ?_
                                refine r_goto o (tgt := 128) dX10_findHeld_285 (by decide) ?_
                                exact r_to rfl [4, 5, 6, 7, 8, 0] rfl (ih128 (jq + 1) (sti (sti ρq 11 16 (nI ((lkS (yeF dq5 y0q) (gcnt dq5 y0q) lfq (nuF dq5 y0q) dq5 y0q jq).2 + (i2q ((dq5 (y0q + jq)).toInt64 * (nI (gcnt dq5 y0q)).toInt64 - sumL (nuF dq5 y0q) (gcnt dq5 y0q)) (hsum (yeF dq5 y0q) lfq ((y0q + jq) % lfq) (nuF dq5 y0q) (gcnt dq5 y0q) * (nI (gcnt dq5 y0q)).toInt64 - sumL (nuF dq5 y0q) (gcnt dq5 y0q) * (nI (cntR (yeF dq5 y0q) lfq ((y0q + jq) % lfq) (gcnt dq5 y0q))).toInt64))))) 11 15 (nI ((lkS (yeF dq5 y0q) (gcnt dq5 y0q) lfq (nuF dq5 y0q) dq5 y0q jq).1 + (i1q ((dq5 (y0q + jq)).toInt64 * (nI (gcnt dq5 y0q)).toInt64 - sumL (nuF dq5 y0q) (gcnt dq5 y0q)) (hsum (yeF dq5 y0q) lfq ((y0q + jq) % lfq) (nuF dq5 y0q) (gcnt dq5 y0q) * (nI (gcnt dq5 y0q)).toInt64 - sumL (nuF dq5 y0q) (gcnt dq5 y0q) * (nI (cntR (yeF dq5 y0q) lfq ((y0q + jq) % lfq) (gcnt dq5 y0q))).toInt64))))) (by omega) (nm_f (nm_f hnr 16 (Or.inr (Or.inr rfl)) _) 15 (Or.inr (Or.inl rfl)) _) (fun rq hr => hhr rq hr) (st_f (st_f hr14 (by decide)) (by decide)) (by rw [sti_eq, hst]) (by rw [st_f sti_eq (by decide), hst]) (by omega))
                              · skip
                                rw [lg_cmp_ge] at hb270
                                refine r_iconst o (v := nI 1) dX10_findHeld_273 (by decide) ?_
                                refine r_goto o (tgt := 278) dX10_findHeld_274 (by decide) ?_
                                refine r_topi (y := nI (i1q ((dq5 (y0q + jq)).toInt64 * (nI (gcnt dq5 y0q)).toInt64 - sumL (nuF dq5 y0q) (gcnt dq5 y0q)) (hsum (yeF dq5 y0q) lfq ((y0q + jq) % lfq) (nuF dq5 y0q) (gcnt dq5 y0q) * (nI (gcnt dq5 y0q)).toInt64 - sumL (nuF dq5 y0q) (gcnt dq5 y0q) * (nI (cntR (yeF dq5 y0q) lfq ((y0q + jq) % lfq) (gcnt dq5 y0q))).toInt64))) (by unfold i1q; first | (rw [if_pos (Or.inl ⟨l_nle.mp hb249, hb256⟩)]; done) | (rw [if_pos (Or.inr ⟨l_nle.mp hb263, l_nle.mp hb270⟩)]; done) | (rw [if_neg (fun zq => zq.elim (fun z1 => by first | exact l_nle.mpr z1.1 hb249 | exact hb256 z1.2) (fun z1 => by first | exact l_nle.mpr z1.1 hb263 | exact l_nle.mpr z1.2 hb270))]; done)) ?_
                                refine r_iadd o dX10_findHeld_278 ?_
                                refine r_topi (y := nI ((lkS (yeF dq5 y0q) (gcnt dq5 y0q) lfq (nuF dq5 y0q) dq5 y0q jq).1 + (i1q ((dq5 (y0q + jq)).toInt64 * (nI (gcnt dq5 y0q)).toInt64 - sumL (nuF dq5 y0q) (gcnt dq5 y0q)) (hsum (yeF dq5 y0q) lfq ((y0q + jq) % lfq) (nuF dq5 y0q) (gcnt dq5 y0q) * (nI (gcnt dq5 y0q)).toInt64 - sumL (nuF dq5 y0q) (gcnt dq5 y0q) * (nI (cntR (yeF dq5 y0q) lfq ((y0q + jq) % lfq) (gcnt dq5 y0q))).toInt64)))) (nI_add' _ _) ?_
                                refine pf_11_15 o mw_713 dX10_findHeld_279 ?_
                                refine r_iinc o (v := nI (y0q + jq + 1)) (lv' := [(7, .int (nI (y0q + jq + 1))), (11, .long (((hsum (yeF dq5 y0q) lfq ((y0q + jq) % lfq) (nuF dq5 y0q) (gcnt dq5 y0q)) * ((nI (gcnt dq5 y0q)).toInt64)) - ((sumL (nuF dq5 y0q) (gcnt dq5 y0q)) * ((nI (cntR (yeF dq5 y0q) lfq ((y0q + jq) % lfq) (gcnt dq5 y0q))).toInt64)))), (9, .long ((((dq5 (y0q + jq)).toInt64) * ((nI (gcnt dq5 y0q)).toInt64)) - (sumL (nuF dq5 y0q) (gcnt dq5 y0q)))), (8, .int (nI ((y0q + jq) % lfq))), (0, .ref (gad G 11)), (1, .int (nI rq)), (2, .int (nI y0q)), (3, .long ((fdS (yeF dq5 y0q) (gcnt dq5 y0q) (nuF dq5 y0q) 10).2)), (5, .long (sumL (nuF dq5 y0q) (gcnt dq5 y0q)))]) dX10_findHeld_282 8 rfl (nI_inc _) (by decide) rfl ?_
                                refine r_goto o (tgt := 128) dX10_findHeld_285 (by decide) ?_
                                exact r_to rfl [4, 5, 6, 7, 8, 0] rfl (ih128 (jq + 1) (sti (sti ρq 11 16 (nI ((lkS (yeF dq5 y0q) (gcnt dq5 y0q) lfq (nuF dq5 y0q) dq5 y0q jq).2 + (i2q ((dq5 (y0q + jq)).toInt64 * (nI (gcnt dq5 y0q)).toInt64 - sumL (nuF dq5 y0q) (gcnt dq5 y0q)) (hsum (yeF dq5 y0q) lfq ((y0q + jq) % lfq) (nuF dq5 y0q) (gcnt dq5 y0q) * (nI (gcnt dq5 y0q)).toInt64 - sumL (nuF dq5 y0q) (gcnt dq5 y0q) * (nI (cntR (yeF dq5 y0q) lfq ((y0q + jq) % lfq) (gcnt dq5 y0q))).toInt64))))) 11 15 (nI ((lkS (yeF dq5 y0q) (gcnt dq5 y0q) lfq (nuF dq5 y0q) dq5 y0q jq).1 + (i1q ((dq5 (y0q + jq)).toInt64 * (nI (gcnt dq5 y0q)).toInt64 - sumL (nuF dq5 y0q) (gcnt dq5 y0q)) (hsum (yeF dq5 y0q) lfq ((y0q + jq) % lfq) (nuF dq5 y0q) (gcnt dq5 y0q) * (nI (gcnt dq5 y0q)).toInt64 - sumL (nuF dq5 y0q) (gcnt dq5 y0q) * (nI (cntR (yeF dq5 y0q) lfq ((y0q + jq) % lfq) (gcnt dq5 y0q))).toInt64))))) (by omega) (nm_f (nm_f hnr 16 (Or.inr (Or.inr rfl)) _) 15 (Or.inr (Or.inl rfl)) _) (fun rq hr => hhr rq hr) (st_f (st_f hr14 (by decide)) (by decide)) (by rw [sti_eq, hst]) (by rw [st_f sti_eq (by decide), hst]) (by omega))
          exact r_to rfl [2, 3, 4, 5, 1, 0] rfl (L128 _ 0 (sti (sti σσ106 11 15 (nI 0)) 11 16 (nI 0)) (by omega) (nm_f (nm_f hnh 15 (Or.inr (Or.inl rfl)) _) 16 (Or.inr (Or.inr rfl)) _) (fun rq hr => hhp rq hr) (st_f (st_f hf14h (by decide)) (by decide)) rfl rfl (Nat.lt_succ_self _))
        · skip
          rw [nI_ltI (by omega) (by omega)] at hb41
          refine r_aload_n o dX10_findHeld_44 0 rfl ?_
          refine r_callVL o (As := []) (st := []) (c_X10_loN (xl X) G τq σ dq5 y0q (by omega) (nuF dq5 y0q) hnt) om_X10_lowerOf mw_867 mw_22 mw_865 (by decide) rfl rfl rfl (by decide) rfl rfl (Nat.le_of_ble_eq_true rfl) dX10_findHeld_45 (fun rr45 σσ45 hp45 => ?_)
          obtain ⟨hp45, hp45b⟩ := hp45; replace hp45 := Eq.symm hp45; replace hp45b := Eq.symm hp45b; subst hp45; subst hp45b
          refine r_lconst o (v := 0) dX10_findHeld_48 rfl ?_
          refine r_lcmp o dX10_findHeld_49 ?_
          refine r_if_eq o (tgt := 101) dX10_findHeld_50 (by decide) (fun hb50 => ?_) (fun hb50 => ?_)
          · skip
            rw [lg_cmp_eq] at hb50
            exact absurd hb50 hb21
          · skip
            rw [lg_cmp_eq] at hb50
            refine r_aload_n o dX10_findHeld_53 0 rfl ?_
            refine r_iload o dX10_findHeld_54 4 rfl ?_
            refine r_callVL o (As := [.int (nI (3 + iq))]) (st := []) (c_X10_upK (xl X) G τq σ dq5 y0q (by omega) (nuF dq5 y0q) hnt (3 + iq) (by omega)) om_X10_upperOf mw_876 mw_24 mw_874 (by decide) rfl rfl rfl (by decide) rfl rfl (Nat.le_of_ble_eq_true rfl) dX10_findHeld_56 (fun rr56 σσ56 hp56 => ?_)
            obtain ⟨hu56, hnt2, hk56⟩ := hp56
            subst hu56
            have hg14 : (σσ56 11).1 14 = nI (fdS (yeF dq5 y0q) (gcnt dq5 y0q) (nuF dq5 y0q) iq).1 := by rw [hk56 11 (by decide) (by decide)]; exact hf14
            refine r_lstore o (lv' := [(6, .long (upF (yeF dq5 y0q) (gcnt dq5 y0q) (nuF dq5 y0q) (3 + iq))), (0, .ref (gad G 11)), (1, .int (nI rq)), (2, .int (nI y0q)), (3, .long ((fdS (yeF dq5 y0q) (gcnt dq5 y0q) (nuF dq5 y0q) iq).2)), (5, .int (nI (3 + iq)))]) dX10_findHeld_59 (by decide) rfl ?_
            refine r_aload_n o dX10_findHeld_61 1 rfl ?_
            refine r_lload o dX10_findHeld_62 0 rfl ?_
            refine r_lload_n o dX10_findHeld_64 4 rfl ?_
            refine r_lcmp o dX10_findHeld_65 ?_
            refine r_if_le o (tgt := 74) dX10_findHeld_66 (by decide) (fun hb66 => ?_) (fun hb66 => ?_)
            · skip
              rw [lg_cmp_le] at hb66
              have hb66x : ¬ (fdS (yeF dq5 y0q) (gcnt dq5 y0q) (nuF dq5 y0q) iq).2 < upF (yeF dq5 y0q) (gcnt dq5 y0q) (nuF dq5 y0q) (3 + iq) := fun zq => l_nle.mpr zq hb66
              refine r_aload_n o dX10_findHeld_74 1 rfl ?_
              refine gf_11_14 o (v := nI ((fdS (yeF dq5 y0q) (gcnt dq5 y0q) (nuF dq5 y0q) iq).1)) hg14 mw_712 dX10_findHeld_75 ?_
              refine pf_11_14 o mw_712 dX10_findHeld_78 ?_
              refine r_lload o dX10_findHeld_81 0 rfl ?_
              refine r_lload_n o dX10_findHeld_83 4 rfl ?_
              refine r_lcmp o dX10_findHeld_84 ?_
              refine r_if_le o (tgt := 93) dX10_findHeld_85 (by decide) (fun hb85 => ?_) (fun hb85 => ?_)
              · skip
                rw [lg_cmp_le] at hb85
                refine r_lload_n o dX10_findHeld_93 4 rfl ?_
                refine r_lstore_n o (lv' := [(3, .long ((fdS (yeF dq5 y0q) (gcnt dq5 y0q) (nuF dq5 y0q) iq).2)), (6, .long (upF (yeF dq5 y0q) (gcnt dq5 y0q) (nuF dq5 y0q) (3 + iq))), (0, .ref (gad G 11)), (1, .int (nI rq)), (2, .int (nI y0q)), (5, .int (nI (3 + iq)))]) dX10_findHeld_94 (by decide) rfl ?_
                refine r_lv (lv' := [(3, .long ((fdS (yeF dq5 y0q) (gcnt dq5 y0q) (nuF dq5 y0q) (iq + 1)).2)), (6, .long (upF (yeF dq5 y0q) (gcnt dq5 y0q) (nuF dq5 y0q) (3 + iq))), (0, .ref (gad G 11)), (1, .int (nI rq)), (2, .int (nI y0q)), (5, .int (nI (3 + iq)))]) (congrArg (fun zz => ([(3, .long zz), (6, .long (upF (yeF dq5 y0q) (gcnt dq5 y0q) (nuF dq5 y0q) (3 + iq))), (0, .ref (gad G 11)), (1, .int (nI rq)), (2, .int (nI y0q)), (5, .int (nI (3 + iq)))] : List (Nat × Value))) (congrArg Prod.snd (fd_n hb66x).symm)) ?_
                refine r_iinc o (v := nI (3 + iq + 1)) (lv' := [(5, .int (nI (3 + iq + 1))), (3, .long ((fdS (yeF dq5 y0q) (gcnt dq5 y0q) (nuF dq5 y0q) (iq + 1)).2)), (6, .long (upF (yeF dq5 y0q) (gcnt dq5 y0q) (nuF dq5 y0q) (3 + iq))), (0, .ref (gad G 11)), (1, .int (nI rq)), (2, .int (nI y0q))]) dX10_findHeld_95 5 rfl (nI_inc _) (by decide) rfl ?_
                refine r_goto o (tgt := 37) dX10_findHeld_98 (by decide) ?_
                exact r_to rfl [3, 4, 5, 1, 0] rfl (ih37 (iq + 1) (sti σσ56 11 14 (nI ((fdS (yeF dq5 y0q) (gcnt dq5 y0q) (nuF dq5 y0q) iq).1))) (by omega) (nm_f hnt2 14 (Or.inl rfl) _) (by rw [sti_eq]; exact congrArg nI (congrArg Prod.fst (fd_n hb66x).symm)) (by omega))
              · skip
                rw [lg_cmp_le] at hb85
                exact absurd hb66 hb85
            · skip
              rw [lg_cmp_le] at hb66
              refine r_iload o dX10_findHeld_69 5 rfl ?_
              refine r_goto o (tgt := 78) dX10_findHeld_71 (by decide) ?_
              refine pf_11_14 o mw_712 dX10_findHeld_78 ?_
              refine r_lload o dX10_findHeld_81 0 rfl ?_
              refine r_lload_n o dX10_findHeld_83 4 rfl ?_
              refine r_lcmp o dX10_findHeld_84 ?_
              refine r_if_le o (tgt := 93) dX10_findHeld_85 (by decide) (fun hb85 => ?_) (fun hb85 => ?_)
              · skip
                rw [lg_cmp_le] at hb85
                exact absurd hb85 hb66
              · skip
                rw [lg_cmp_le] at hb85
                refine r_lload o dX10_findHeld_88 0 rfl ?_
                refine r_goto o (tgt := 94) dX10_findHeld_90 (by decide) ?_
                refine r_lstore_n o (lv' := [(3, .long (upF (yeF dq5 y0q) (gcnt dq5 y0q) (nuF dq5 y0q) (3 + iq))), (6, .long (upF (yeF dq5 y0q) (gcnt dq5 y0q) (nuF dq5 y0q) (3 + iq))), (0, .ref (gad G 11)), (1, .int (nI rq)), (2, .int (nI y0q)), (5, .int (nI (3 + iq)))]) dX10_findHeld_94 (by decide) rfl ?_
                refine r_lv (lv' := [(3, .long ((fdS (yeF dq5 y0q) (gcnt dq5 y0q) (nuF dq5 y0q) (iq + 1)).2)), (6, .long (upF (yeF dq5 y0q) (gcnt dq5 y0q) (nuF dq5 y0q) (3 + iq))), (0, .ref (gad G 11)), (1, .int (nI rq)), (2, .int (nI y0q)), (5, .int (nI (3 + iq)))]) (congrArg (fun zz => ([(3, .long zz), (6, .long (upF (yeF dq5 y0q) (gcnt dq5 y0q) (nuF dq5 y0q) (3 + iq))), (0, .ref (gad G 11)), (1, .int (nI rq)), (2, .int (nI y0q)), (5, .int (nI (3 + iq)))] : List (Nat × Value))) (congrArg Prod.snd (fd_y (l_nle.mp hb66)).symm)) ?_
                refine r_iinc o (v := nI (3 + iq + 1)) (lv' := [(5, .int (nI (3 + iq + 1))), (3, .long ((fdS (yeF dq5 y0q) (gcnt dq5 y0q) (nuF dq5 y0q) (iq + 1)).2)), (6, .long (upF (yeF dq5 y0q) (gcnt dq5 y0q) (nuF dq5 y0q) (3 + iq))), (0, .ref (gad G 11)), (1, .int (nI rq)), (2, .int (nI y0q))]) dX10_findHeld_95 5 rfl (nI_inc _) (by decide) rfl ?_
                refine r_goto o (tgt := 37) dX10_findHeld_98 (by decide) ?_
                exact r_to rfl [3, 4, 5, 1, 0] rfl (ih37 (iq + 1) (sti σσ56 11 14 (nI (3 + iq))) (by omega) (nm_f hnt2 14 (Or.inl rfl) _) (by rw [sti_eq]; exact congrArg nI (congrArg Prod.fst (fd_y (l_nle.mp hb66)).symm)) (by omega))
    exact r_to rfl [2, 3, 4, 1, 0] rfl (L37 _ 0 σσ30 (by omega) hnm2 hf2 (Nat.lt_succ_self _))
  · skip
    rw [lg_cmp_eq] at hb21
    refine r_lconst o (v := 0) dX10_findHeld_24 rfl ?_
    refine r_goto o (tgt := 33) dX10_findHeld_25 (by decide) ?_
    refine r_lstore_n o (lv' := [(3, .long 0), (0, .ref (gad G 11)), (1, .int (nI rq)), (2, .int (nI y0q))]) dX10_findHeld_33 (by decide) rfl ?_
    refine r_iconst o (v := nI 3) dX10_findHeld_34 (by decide) ?_
    refine r_istore o (lv' := [(5, .int (nI 3)), (3, .long 0), (0, .ref (gad G 11)), (1, .int (nI rq)), (2, .int (nI y0q))]) dX10_findHeld_35 (by decide) rfl ?_
    refine r_iload o dX10_findHeld_37 0 rfl ?_
    refine r_bipush o (v := nI 12) dX10_findHeld_39 (by decide) ?_
    refine r_icmp_gt o (tgt := 101) dX10_findHeld_41 (by decide) (fun hb41 => ?_) (fun hb41 => ?_)
    · exact absurd hb41 (by decide)
    · skip
      refine r_aload_n o dX10_findHeld_44 2 rfl ?_
      refine r_callVL o (As := []) (st := []) (c_X10_loN (xl X) G (sti σσ7 11 14 (nI 2)) σ dq5 y0q (by omega) (nuF dq5 y0q) hnm) om_X10_lowerOf mw_867 mw_22 mw_865 (by decide) rfl rfl rfl (by decide) rfl rfl (Nat.le_of_ble_eq_true rfl) dX10_findHeld_45 (fun rr45 σσ45 hp45 => ?_)
      obtain ⟨hp45, hp45b⟩ := hp45; replace hp45 := Eq.symm hp45; replace hp45b := Eq.symm hp45b; subst hp45; subst hp45b
      refine r_lconst o (v := 0) dX10_findHeld_48 rfl ?_
      refine r_lcmp o dX10_findHeld_49 ?_
      refine r_if_eq o (tgt := 101) dX10_findHeld_50 (by decide) (fun hb50 => ?_) (fun hb50 => ?_)
      · skip
        rw [lg_cmp_eq] at hb50
        have hLF := hlfe.trans (found_0 hbd (by omega) hb21)
        refine r_aload_n o dX10_findHeld_101 2 rfl ?_
        refine r_aload_n o dX10_findHeld_102 2 rfl ?_
        refine gf_11_14 (σ := sti σσ7 11 14 (nI 2)) o (v := nI lfq) (by rw [hLF]; rfl) mw_712 dX10_findHeld_103 ?_
        refine r_callVV o (As := [.int (nI lfq)]) (st := []) (c_X10_heN (xl X) G (sti σσ7 11 14 (nI 2)) σ dq5 y0q (by omega) (nuF dq5 y0q) hnm lfq (by omega)) om_X10_layHeaps mw_880 mw_25 mw_878 (by decide) rfl rfl rfl (by decide) rfl rfl (Nat.le_of_ble_eq_true rfl) dX10_findHeld_106 (fun σσ106 hp106 => ?_)
        obtain ⟨hhp, hnh, hkh⟩ := hp106
        have hf14h : (σσ106 11).1 14 = nI lfq := by rw [hkh 11 (by decide) (by decide), hLF]; rfl
        refine r_aload_n o dX10_findHeld_109 2 rfl ?_
        refine r_callVL o (As := []) (st := []) (c_X10_sumN (xl X) G σσ106 σ dq5 y0q (by omega) (nuF dq5 y0q) hnh) om_X10_sumOf mw_871 mw_23 mw_869 (by decide) rfl rfl rfl (by decide) rfl rfl (Nat.le_of_ble_eq_true rfl) dX10_findHeld_110 (fun rr110 σσ110 hp110 => ?_)
        obtain ⟨hp110, hp110b⟩ := hp110; replace hp110 := Eq.symm hp110; replace hp110b := Eq.symm hp110b; subst hp110; subst hp110b
        refine r_lstore o (lv' := [(5, .long (sumL (nuF dq5 y0q) (gcnt dq5 y0q))), (3, .long 0), (0, .ref (gad G 11)), (1, .int (nI rq)), (2, .int (nI y0q))]) dX10_findHeld_113 (by decide) rfl ?_
        refine r_aload_n o dX10_findHeld_115 2 rfl ?_
        refine r_iconst o (v := nI 0) dX10_findHeld_116 (by decide) ?_
        refine pf_11_15 o mw_713 dX10_findHeld_117 ?_
        refine r_aload_n o dX10_findHeld_120 2 rfl ?_
        refine r_iconst o (v := nI 0) dX10_findHeld_121 (by decide) ?_
        refine pf_11_16 o mw_714 dX10_findHeld_122 ?_
        refine r_iload_n o dX10_findHeld_125 4 rfl ?_
        refine r_istore o (lv' := [(7, .int (nI y0q)), (5, .long (sumL (nuF dq5 y0q) (gcnt dq5 y0q))), (3, .long 0), (0, .ref (gad G 11)), (1, .int (nI rq)), (2, .int (nI y0q))]) dX10_findHeld_126 (by decide) rfl ?_
        have L128 : ∀ (n : Nat) (jq : Nat) (ρq : Sto) (hjq : jq ≤ 24 - y0q) (hnr : NmX σ ρq dq5 y0q (nuF dq5 y0q)) (hhr : ∀ rq, rq < lfq → (ρq 77).2 rq = hsum (yeF dq5 y0q) lfq rq (nuF dq5 y0q) (gcnt dq5 y0q) ∧ (ρq 78).1 rq = nI (cntR (yeF dq5 y0q) lfq rq (gcnt dq5 y0q))) (hr14 : (ρq 11).1 14 = nI lfq) (hr15 : (ρq 11).1 15 = nI (lkS (yeF dq5 y0q) (gcnt dq5 y0q) lfq (nuF dq5 y0q) dq5 y0q jq).1) (hr16 : (ρq 11).1 16 = nI (lkS (yeF dq5 y0q) (gcnt dq5 y0q) lfq (nuF dq5 y0q) dq5 y0q jq).2), 24 - y0q - jq < n → WS X G 13 ρq 128 [(0, .ref (gad G 11)), (1, .int (nI rq)), (2, .int (nI y0q)), (3, .long 0), (5, .long (sumL (nuF dq5 y0q) (gcnt dq5 y0q))), (7, .int (nI (y0q + jq)))] [] := by
          intro n
          induction n with
          | zero => intro jq ρq hjq hnr hhr hr14 hr15 hr16 hm; exact absurd hm (Nat.not_lt_zero _)
          | succ n ih128 =>
            intro jq ρq hjq hnr hhr hr14 hr15 hr16 hm
            have hml : (y0q + jq) % lfq < lfq := Nat.mod_lt _ (by omega)
            have hcl := cntR_le (yeF dq5 y0q) lfq ((y0q + jq) % lfq) (gcnt dq5 y0q)
            refine r_iload o dX10_findHeld_128 5 rfl ?_
            refine r_bipush o (v := nI 24) dX10_findHeld_130 (by decide) ?_
            refine r_icmp_ge o (tgt := 288) dX10_findHeld_132 (by decide) (fun hb132 => ?_) (fun hb132 => ?_)
            · skip
              rw [nI_leI (by omega) (by omega)] at hb132
              obtain rfl : jq = 24 - y0q := by omega
              exact r_return o q dX10_findHeld_288 (by rw [← hdq5, ← hlfe]; exact ⟨hr14, hr15, hr16, hnr.2.2.2.2⟩)
            · skip
              rw [nI_leI (by omega) (by omega)] at hb132
              refine r_iload o dX10_findHeld_135 5 rfl ?_
              refine r_aload_n o dX10_findHeld_137 0 rfl ?_
              refine gf_11_14 o (v := nI lfq) hr14 mw_712 dX10_findHeld_138 ?_
              refine r_irem o dX10_findHeld_141 (nI_z (by omega) (by omega)) ?_
              refine r_topi (y := nI ((y0q + jq) % lfq)) (nI_rem' (by omega) (by omega) (by omega)) ?_
              refine r_istore o (lv' := [(8, .int (nI ((y0q + jq) % lfq))), (0, .ref (gad G 11)), (1, .int (nI rq)), (2, .int (nI y0q)), (3, .long 0), (5, .long (sumL (nuF dq5 y0q) (gcnt dq5 y0q))), (7, .int (nI (y0q + jq)))]) dX10_findHeld_142 (by decide) rfl ?_
              refine r_aload_n o dX10_findHeld_144 1 rfl ?_
              refine gf_11_3 o mw_701 dX10_findHeld_145 ?_
              refine r_iload o dX10_findHeld_148 6 rfl ?_
              refine r_ia o (by decide) ia_73 (f := (ρq 73).1) rfl (y0q + jq) rfl (by omega) (by decide) dX10_findHeld_150 ?_
              refine r_topi (y := dq5 (y0q + jq)) (hnr.2.2.2.1 (y0q + jq) (by omega)) ?_
              refine r_ldc o mw_697 dX10_findHeld_151 ?_
              refine r_icmp_eq o (tgt := 282) dX10_findHeld_153 (by decide) (fun hb153 => ?_) (fun hb153 => ?_)
              · skip
                have hst := (lkS_g (yrq := (yeF dq5 y0q)) (nq := (gcnt dq5 y0q)) (lq := lfq) (xf := (nuF dq5 y0q)) (bf := dq5) (yq1 := y0q) hb153).symm
                refine r_iinc o (v := nI (y0q + jq + 1)) (lv' := [(7, .int (nI (y0q + jq + 1))), (8, .int (nI ((y0q + jq) % lfq))), (0, .ref (gad G 11)), (1, .int (nI rq)), (2, .int (nI y0q)), (3, .long 0), (5, .long (sumL (nuF dq5 y0q) (gcnt dq5 y0q)))]) dX10_findHeld_282 6 rfl (nI_inc _) (by decide) rfl ?_
                refine r_goto o (tgt := 128) dX10_findHeld_285 (by decide) ?_
                exact r_to rfl [2, 3, 4, 5, 6, 0] rfl (ih128 (jq + 1) ρq (by omega) hnr hhr hr14 (by rw [hr15, hst]) (by rw [hr16, hst]) (by omega))
              · skip
                have hbv := (hbd (y0q + jq) (by omega)).resolve_left hb153
                refine r_aload_n o dX10_findHeld_156 1 rfl ?_
                refine gf_11_9 o mw_707 dX10_findHeld_157 ?_
                refine r_iload o dX10_findHeld_160 0 rfl ?_
                refine r_ia o (by decide) ia_78 (f := (ρq 78).1) rfl ((y0q + jq) % lfq) rfl (by omega) (by decide) dX10_findHeld_162 ?_
                refine r_topi (y := nI (cntR (yeF dq5 y0q) lfq ((y0q + jq) % lfq) (gcnt dq5 y0q))) ((hhr ((y0q + jq) % lfq) hml).2) ?_
                refine r_if_le o (tgt := 282) dX10_findHeld_163 (by decide) (fun hb163 => ?_) (fun hb163 => ?_)
                · skip
                  rw [nI_le0 (by omega)] at hb163
                  have hst := (hl_z (yrq := (yeF dq5 y0q)) (nq := (gcnt dq5 y0q)) (lq := lfq) (xf := (nuF dq5 y0q)) (bf := dq5) (yq1 := y0q) hb153 (by omega)).symm
                  refine r_iinc o (v := nI (y0q + jq + 1)) (lv' := [(7, .int (nI (y0q + jq + 1))), (8, .int (nI ((y0q + jq) % lfq))), (0, .ref (gad G 11)), (1, .int (nI rq)), (2, .int (nI y0q)), (3, .long 0), (5, .long (sumL (nuF dq5 y0q) (gcnt dq5 y0q)))]) dX10_findHeld_282 6 rfl (nI_inc _) (by decide) rfl ?_
                  refine r_goto o (tgt := 128) dX10_findHeld_285 (by decide) ?_
                  exact r_to rfl [2, 3, 4, 5, 6, 0] rfl (ih128 (jq + 1) ρq (by omega) hnr hhr hr14 (by rw [hr15, hst]) (by rw [hr16, hst]) (by omega))
                · skip
                  rw [nI_le0 (by omega)] at hb163
                  have hst := hl_s (yrq := (yeF dq5 y0q)) (nq := (gcnt dq5 y0q)) (lq := lfq) (xf := (nuF dq5 y0q)) (bf := dq5) (yq1 := y0q) hb153 hsm (by omega) hbv.1 hbv.2
                  refine r_aload_n o dX10_findHeld_166 1 rfl ?_
                  refine gf_11_3 o mw_701 dX10_findHeld_167 ?_
                  refine r_iload o dX10_findHeld_170 6 rfl ?_
                  refine r_ia o (by decide) ia_73 (f := (ρq 73).1) rfl (y0q + jq) rfl (by omega) (by decide) dX10_findHeld_172 ?_
                  refine r_topi (y := dq5 (y0q + jq)) (hnr.2.2.2.1 (y0q + jq) (by omega)) ?_
                  refine r_i2l o dX10_findHeld_173 rfl ?_
                  refine r_aload_n o dX10_findHeld_174 1 rfl ?_
                  refine gf_11_7 o (v := nI (gcnt dq5 y0q)) hnr.1 mw_705 dX10_findHeld_175 ?_
                  refine r_i2l o dX10_findHeld_178 rfl ?_
                  refine r_lmul o dX10_findHeld_179 ?_
                  refine r_lload o dX10_findHeld_180 5 rfl ?_
                  refine r_lsub o dX10_findHeld_182 ?_
                  refine r_lstore o (lv' := [(9, .long ((((dq5 (y0q + jq)).toInt64) * ((nI (gcnt dq5 y0q)).toInt64)) - (sumL (nuF dq5 y0q) (gcnt dq5 y0q)))), (8, .int (nI ((y0q + jq) % lfq))), (0, .ref (gad G 11)), (1, .int (nI rq)), (2, .int (nI y0q)), (3, .long 0), (5, .long (sumL (nuF dq5 y0q) (gcnt dq5 y0q))), (7, .int (nI (y0q + jq)))]) dX10_findHeld_183 (by decide) rfl ?_
                  refine r_aload_n o dX10_findHeld_185 2 rfl ?_
                  refine gf_11_8 o mw_706 dX10_findHeld_186 ?_
                  refine r_iload o dX10_findHeld_189 1 rfl ?_
                  refine r_la o (by decide) la_77 (f := (ρq 77).2) rfl ((y0q + jq) % lfq) rfl (by omega) (by decide) dX10_findHeld_191 ?_
                  refine r_topl (y := hsum (yeF dq5 y0q) lfq ((y0q + jq) % lfq) (nuF dq5 y0q) (gcnt dq5 y0q)) ((hhr ((y0q + jq) % lfq) hml).1) ?_
                  refine r_aload_n o dX10_findHeld_192 2 rfl ?_
                  refine gf_11_7 o (v := nI (gcnt dq5 y0q)) hnr.1 mw_705 dX10_findHeld_193 ?_
                  refine r_i2l o dX10_findHeld_196 rfl ?_
                  refine r_lmul o dX10_findHeld_197 ?_
                  refine r_lload o dX10_findHeld_198 6 rfl ?_
                  refine r_aload_n o dX10_findHeld_200 2 rfl ?_
                  refine gf_11_9 o mw_707 dX10_findHeld_201 ?_
                  refine r_iload o dX10_findHeld_204 1 rfl ?_
                  refine r_ia o (by decide) ia_78 (f := (ρq 78).1) rfl ((y0q + jq) % lfq) rfl (by omega) (by decide) dX10_findHeld_206 ?_
                  refine r_topi (y := nI (cntR (yeF dq5 y0q) lfq ((y0q + jq) % lfq) (gcnt dq5 y0q))) ((hhr ((y0q + jq) % lfq) hml).2) ?_
                  refine r_i2l o dX10_findHeld_207 rfl ?_
                  refine r_lmul o dX10_findHeld_208 ?_
                  refine r_lsub o dX10_findHeld_209 ?_
                  refine r_lstore o (lv' := [(11, .long (((hsum (yeF dq5 y0q) lfq ((y0q + jq) % lfq) (nuF dq5 y0q) (gcnt dq5 y0q)) * ((nI (gcnt dq5 y0q)).toInt64)) - ((sumL (nuF dq5 y0q) (gcnt dq5 y0q)) * ((nI (cntR (yeF dq5 y0q) lfq ((y0q + jq) % lfq) (gcnt dq5 y0q))).toInt64)))), (9, .long ((((dq5 (y0q + jq)).toInt64) * ((nI (gcnt dq5 y0q)).toInt64)) - (sumL (nuF dq5 y0q) (gcnt dq5 y0q)))), (8, .int (nI ((y0q + jq) % lfq))), (0, .ref (gad G 11)), (1, .int (nI rq)), (2, .int (nI y0q)), (3, .long 0), (5, .long (sumL (nuF dq5 y0q) (gcnt dq5 y0q))), (7, .int (nI (y0q + jq)))]) dX10_findHeld_210 (by decide) rfl ?_
                  refine r_aload_n o dX10_findHeld_212 3 rfl ?_
                  refine r_dup o dX10_findHeld_213 rfl ?_
                  refine gf_11_16 o (v := nI ((lkS (yeF dq5 y0q) (gcnt dq5 y0q) lfq (nuF dq5 y0q) dq5 y0q jq).2)) hr16 mw_714 dX10_findHeld_214 ?_
                  refine r_lload o dX10_findHeld_217 1 rfl ?_
                  refine r_lconst o (v := 0) dX10_findHeld_219 rfl ?_
                  refine r_lcmp o dX10_findHeld_220 ?_
                  refine r_if_eq o (tgt := 235) dX10_findHeld_221 (by decide) (fun hb221 => ?_) (fun hb221 => ?_)
                  · skip
                    rw [lg_cmp_eq] at hb221
                    refine r_iconst o (v := nI 0) dX10_findHeld_235 (by decide) ?_
                    refine r_topi (y := nI (i2q ((dq5 (y0q + jq)).toInt64 * (nI (gcnt dq5 y0q)).toInt64 - sumL (nuF dq5 y0q) (gcnt dq5 y0q)) (hsum (yeF dq5 y0q) lfq ((y0q + jq) % lfq) (nuF dq5 y0q) (gcnt dq5 y0q) * (nI (gcnt dq5 y0q)).toInt64 - sumL (nuF dq5 y0q) (gcnt dq5 y0q) * (nI (cntR (yeF dq5 y0q) lfq ((y0q + jq) % lfq) (gcnt dq5 y0q))).toInt64))) (by unfold i2q; first | (rw [if_pos hb221]; done) | (rw [if_neg hb221, if_pos hb228]; done) | (rw [if_neg hb221, if_neg hb228]; done)) ?_
                    refine r_iadd o dX10_findHeld_236 ?_
                    refine r_topi (y := nI ((lkS (yeF dq5 y0q) (gcnt dq5 y0q) lfq (nuF dq5 y0q) dq5 y0q jq).2 + (i2q ((dq5 (y0q + jq)).toInt64 * (nI (gcnt dq5 y0q)).toInt64 - sumL (nuF dq5 y0q) (gcnt dq5 y0q)) (hsum (yeF dq5 y0q) lfq ((y0q + jq) % lfq) (nuF dq5 y0q) (gcnt dq5 y0q) * (nI (gcnt dq5 y0q)).toInt64 - sumL (nuF dq5 y0q) (gcnt dq5 y0q) * (nI (cntR (yeF dq5 y0q) lfq ((y0q + jq) % lfq) (gcnt dq5 y0q))).toInt64)))) (nI_add' _ _) ?_
                    refine pf_11_16 o mw_714 dX10_findHeld_237 ?_
                    refine r_aload_n o dX10_findHeld_240 3 rfl ?_
                    refine r_dup o dX10_findHeld_241 rfl ?_
                    refine gf_11_15 (σ := sti ρq 11 16 (nI ((lkS (yeF dq5 y0q) (gcnt dq5 y0q) lfq (nuF dq5 y0q) dq5 y0q jq).2 + (i2q ((dq5 (y0q + jq)).toInt64 * (nI (gcnt dq5 y0q)).toInt64 - sumL (nuF dq5 y0q) (gcnt dq5 y0q)) (hsum (yeF dq5 y0q) lfq ((y0q + jq) % lfq) (nuF dq5 y0q) (gcnt dq5 y0q) * (nI (gcnt dq5 y0q)).toInt64 - sumL (nuF dq5 y0q) (gcnt dq5 y0q) * (nI (cntR (yeF dq5 y0q) lfq ((y0q + jq) % lfq) (gcnt dq5 y0q))).toInt64))))) o (v := nI ((lkS (yeF dq5 y0q) (gcnt dq5 y0q) lfq (nuF dq5 y0q) dq5 y0q jq).1)) hr15 mw_713 dX10_findHeld_242 ?_
                    refine r_lload o dX10_findHeld_245 1 rfl ?_
                    refine r_lconst o (v := 0) dX10_findHeld_247 rfl ?_
                    refine r_lcmp o dX10_findHeld_248 ?_
                    refine r_if_le o (tgt := 259) dX10_findHeld_249 (by decide) (fun hb249 => ?_) (fun hb249 => ?_)
                    · skip
                      rw [lg_cmp_le] at hb249
                      refine r_lload o dX10_findHeld_259 1 rfl ?_
                      refine r_lconst o (v := 0) dX10_findHeld_261 rfl ?_
                      refine r_lcmp o dX10_findHeld_262 ?_
                      refine r_if_ge o (tgt := 277) dX10_findHeld_263 (by decide) (fun hb263 => ?_) (fun hb263 => ?_)
                      · skip
                        rw [lg_cmp_ge] at hb263
                        refine r_iconst o (v := nI 0) dX10_findHeld_277 (by decide) ?_
                        refine r_topi (y := nI (i1q ((dq5 (y0q + jq)).toInt64 * (nI (gcnt dq5 y0q)).toInt64 - sumL (nuF dq5 y0q) (gcnt dq5 y0q)) (hsum (yeF dq5 y0q) lfq ((y0q + jq) % lfq) (nuF dq5 y0q) (gcnt dq5 y0q) * (nI (gcnt dq5 y0q)).toInt64 - sumL (nuF dq5 y0q) (gcnt dq5 y0q) * (nI (cntR (yeF dq5 y0q) lfq ((y0q + jq) % lfq) (gcnt dq5 y0q))).toInt64))) (by unfold i1q; first | (rw [if_pos (Or.inl ⟨l_nle.mp hb249, hb256⟩)]; done) | (rw [if_pos (Or.inr ⟨l_nle.mp hb263, l_nle.mp hb270⟩)]; done) | (rw [if_neg (fun zq => zq.elim (fun z1 => by first | exact l_nle.mpr z1.1 hb249 | exact hb256 z1.2) (fun z1 => by first | exact l_nle.mpr z1.1 hb263 | exact l_nle.mpr z1.2 hb270))]; done)) ?_
                        refine r_iadd o dX10_findHeld_278 ?_
                        refine r_topi (y := nI ((lkS (yeF dq5 y0q) (gcnt dq5 y0q) lfq (nuF dq5 y0q) dq5 y0q jq).1 + (i1q ((dq5 (y0q + jq)).toInt64 * (nI (gcnt dq5 y0q)).toInt64 - sumL (nuF dq5 y0q) (gcnt dq5 y0q)) (hsum (yeF dq5 y0q) lfq ((y0q + jq) % lfq) (nuF dq5 y0q) (gcnt dq5 y0q) * (nI (gcnt dq5 y0q)).toInt64 - sumL (nuF dq5 y0q) (gcnt dq5 y0q) * (nI (cntR (yeF dq5 y0q) lfq ((y0q + jq) % lfq) (gcnt dq5 y0q))).toInt64)))) (nI_add' _ _) ?_
                        refine pf_11_15 o mw_713 dX10_findHeld_279 ?_
                        refine r_iinc o (v := nI (y0q + jq + 1)) (lv' := [(7, .int (nI (y0q + jq + 1))), (11, .long (((hsum (yeF dq5 y0q) lfq ((y0q + jq) % lfq) (nuF dq5 y0q) (gcnt dq5 y0q)) * ((nI (gcnt dq5 y0q)).toInt64)) - ((sumL (nuF dq5 y0q) (gcnt dq5 y0q)) * ((nI (cntR (yeF dq5 y0q) lfq ((y0q + jq) % lfq) (gcnt dq5 y0q))).toInt64)))), (9, .long ((((dq5 (y0q + jq)).toInt64) * ((nI (gcnt dq5 y0q)).toInt64)) - (sumL (nuF dq5 y0q) (gcnt dq5 y0q)))), (8, .int (nI ((y0q + jq) % lfq))), (0, .ref (gad G 11)), (1, .int (nI rq)), (2, .int (nI y0q)), (3, .long 0), (5, .long (sumL (nuF dq5 y0q) (gcnt dq5 y0q)))]) dX10_findHeld_282 8 rfl (nI_inc _) (by decide) rfl ?_
                        refine r_goto o (tgt := 128) dX10_findHeld_285 (by decide) ?_
                        exact r_to rfl [4, 5, 6, 7, 8, 0] rfl (ih128 (jq + 1) (sti (sti ρq 11 16 (nI ((lkS (yeF dq5 y0q) (gcnt dq5 y0q) lfq (nuF dq5 y0q) dq5 y0q jq).2 + (i2q ((dq5 (y0q + jq)).toInt64 * (nI (gcnt dq5 y0q)).toInt64 - sumL (nuF dq5 y0q) (gcnt dq5 y0q)) (hsum (yeF dq5 y0q) lfq ((y0q + jq) % lfq) (nuF dq5 y0q) (gcnt dq5 y0q) * (nI (gcnt dq5 y0q)).toInt64 - sumL (nuF dq5 y0q) (gcnt dq5 y0q) * (nI (cntR (yeF dq5 y0q) lfq ((y0q + jq) % lfq) (gcnt dq5 y0q))).toInt64))))) 11 15 (nI ((lkS (yeF dq5 y0q) (gcnt dq5 y0q) lfq (nuF dq5 y0q) dq5 y0q jq).1 + (i1q ((dq5 (y0q + jq)).toInt64 * (nI (gcnt dq5 y0q)).toInt64 - sumL (nuF dq5 y0q) (gcnt dq5 y0q)) (hsum (yeF dq5 y0q) lfq ((y0q + jq) % lfq) (nuF dq5 y0q) (gcnt dq5 y0q) * (nI (gcnt dq5 y0q)).toInt64 - sumL (nuF dq5 y0q) (gcnt dq5 y0q) * (nI (cntR (yeF dq5 y0q) lfq ((y0q + jq) % lfq) (gcnt dq5 y0q))).toInt64))))) (by omega) (nm_f (nm_f hnr 16 (Or.inr (Or.inr rfl)) _) 15 (Or.inr (Or.inl rfl)) _) (fun rq hr => hhr rq hr) (st_f (st_f hr14 (by decide)) (by decide)) (by rw [sti_eq, hst]) (by rw [st_f sti_eq (by decide), hst]) (by omega))
                      · skip
                        rw [lg_cmp_ge] at hb263
                        refine r_lload o dX10_findHeld_266 0 rfl ?_
                        refine r_lconst o (v := 0) dX10_findHeld_268 rfl ?_
                        refine r_lcmp o dX10_findHeld_269 ?_
                        refine r_if_ge o (tgt := 277) dX10_findHeld_270 (by decide) (fun hb270 => ?_) (fun hb270 => ?_)
                        · skip
                          rw [lg_cmp_ge] at hb270
                          refine r_iconst o (v := nI 0) dX10_findHeld_277 (by decide) ?_
                          refine r_topi (y := nI (i1q ((dq5 (y0q + jq)).toInt64 * (nI (gcnt dq5 y0q)).toInt64 - sumL (nuF dq5 y0q) (gcnt dq5 y0q)) (hsum (yeF dq5 y0q) lfq ((y0q + jq) % lfq) (nuF dq5 y0q) (gcnt dq5 y0q) * (nI (gcnt dq5 y0q)).toInt64 - sumL (nuF dq5 y0q) (gcnt dq5 y0q) * (nI (cntR (yeF dq5 y0q) lfq ((y0q + jq) % lfq) (gcnt dq5 y0q))).toInt64))) (by unfold i1q; first | (rw [if_pos (Or.inl ⟨l_nle.mp hb249, hb256⟩)]; done) | (rw [if_pos (Or.inr ⟨l_nle.mp hb263, l_nle.mp hb270⟩)]; done) | (rw [if_neg (fun zq => zq.elim (fun z1 => by first | exact l_nle.mpr z1.1 hb249 | exact hb256 z1.2) (fun z1 => by first | exact l_nle.mpr z1.1 hb263 | exact l_nle.mpr z1.2 hb270))]; done)) ?_
                          refine r_iadd o dX10_findHeld_278 ?_
                          refine r_topi (y := nI ((lkS (yeF dq5 y0q) (gcnt dq5 y0q) lfq (nuF dq5 y0q) dq5 y0q jq).1 + (i1q ((dq5 (y0q + jq)).toInt64 * (nI (gcnt dq5 y0q)).toInt64 - sumL (nuF dq5 y0q) (gcnt dq5 y0q)) (hsum (yeF dq5 y0q) lfq ((y0q + jq) % lfq) (nuF dq5 y0q) (gcnt dq5 y0q) * (nI (gcnt dq5 y0q)).toInt64 - sumL (nuF dq5 y0q) (gcnt dq5 y0q) * (nI (cntR (yeF dq5 y0q) lfq ((y0q + jq) % lfq) (gcnt dq5 y0q))).toInt64)))) (nI_add' _ _) ?_
                          refine pf_11_15 o mw_713 dX10_findHeld_279 ?_
                          refine r_iinc o (v := nI (y0q + jq + 1)) (lv' := [(7, .int (nI (y0q + jq + 1))), (11, .long (((hsum (yeF dq5 y0q) lfq ((y0q + jq) % lfq) (nuF dq5 y0q) (gcnt dq5 y0q)) * ((nI (gcnt dq5 y0q)).toInt64)) - ((sumL (nuF dq5 y0q) (gcnt dq5 y0q)) * ((nI (cntR (yeF dq5 y0q) lfq ((y0q + jq) % lfq) (gcnt dq5 y0q))).toInt64)))), (9, .long ((((dq5 (y0q + jq)).toInt64) * ((nI (gcnt dq5 y0q)).toInt64)) - (sumL (nuF dq5 y0q) (gcnt dq5 y0q)))), (8, .int (nI ((y0q + jq) % lfq))), (0, .ref (gad G 11)), (1, .int (nI rq)), (2, .int (nI y0q)), (3, .long 0), (5, .long (sumL (nuF dq5 y0q) (gcnt dq5 y0q)))]) dX10_findHeld_282 8 rfl (nI_inc _) (by decide) rfl ?_
                          refine r_goto o (tgt := 128) dX10_findHeld_285 (by decide) ?_
                          exact r_to rfl [4, 5, 6, 7, 8, 0] rfl (ih128 (jq + 1) (sti (sti ρq 11 16 (nI ((lkS (yeF dq5 y0q) (gcnt dq5 y0q) lfq (nuF dq5 y0q) dq5 y0q jq).2 + (i2q ((dq5 (y0q + jq)).toInt64 * (nI (gcnt dq5 y0q)).toInt64 - sumL (nuF dq5 y0q) (gcnt dq5 y0q)) (hsum (yeF dq5 y0q) lfq ((y0q + jq) % lfq) (nuF dq5 y0q) (gcnt dq5 y0q) * (nI (gcnt dq5 y0q)).toInt64 - sumL (nuF dq5 y0q) (gcnt dq5 y0q) * (nI (cntR (yeF dq5 y0q) lfq ((y0q + jq) % lfq) (gcnt dq5 y0q))).toInt64))))) 11 15 (nI ((lkS (yeF dq5 y0q) (gcnt dq5 y0q) lfq (nuF dq5 y0q) dq5 y0q jq).1 + (i1q ((dq5 (y0q + jq)).toInt64 * (nI (gcnt dq5 y0q)).toInt64 - sumL (nuF dq5 y0q) (gcnt dq5 y0q)) (hsum (yeF dq5 y0q) lfq ((y0q + jq) % lfq) (nuF dq5 y0q) (gcnt dq5 y0q) * (nI (gcnt dq5 y0q)).toInt64 - sumL (nuF dq5 y0q) (gcnt dq5 y0q) * (nI (cntR (yeF dq5 y0q) lfq ((y0q + jq) % lfq) (gcnt dq5 y0q))).toInt64))))) (by omega) (nm_f (nm_f hnr 16 (Or.inr (Or.inr rfl)) _) 15 (Or.inr (Or.inl rfl)) _) (fun rq hr => hhr rq hr) (st_f (st_f hr14 (by decide)) (by decide)) (by rw [sti_eq, hst]) (by rw [st_f sti_eq (by decide), hst]) (by omega))
                        · skip
                          rw [lg_cmp_ge] at hb270
                          refine r_iconst o (v := nI 1) dX10_findHeld_273 (by decide) ?_
                          refine r_goto o (tgt := 278) dX10_findHeld_274 (by decide) ?_
                          refine r_topi (y := nI (i1q ((dq5 (y0q + jq)).toInt64 * (nI (gcnt dq5 y0q)).toInt64 - sumL (nuF dq5 y0q) (gcnt dq5 y0q)) (hsum (yeF dq5 y0q) lfq ((y0q + jq) % lfq) (nuF dq5 y0q) (gcnt dq5 y0q) * (nI (gcnt dq5 y0q)).toInt64 - sumL (nuF dq5 y0q) (gcnt dq5 y0q) * (nI (cntR (yeF dq5 y0q) lfq ((y0q + jq) % lfq) (gcnt dq5 y0q))).toInt64))) (by unfold i1q; first | (rw [if_pos (Or.inl ⟨l_nle.mp hb249, hb256⟩)]; done) | (rw [if_pos (Or.inr ⟨l_nle.mp hb263, l_nle.mp hb270⟩)]; done) | (rw [if_neg (fun zq => zq.elim (fun z1 => by first | exact l_nle.mpr z1.1 hb249 | exact hb256 z1.2) (fun z1 => by first | exact l_nle.mpr z1.1 hb263 | exact l_nle.mpr z1.2 hb270))]; done)) ?_
                          refine r_iadd o dX10_findHeld_278 ?_
                          refine r_topi (y := nI ((lkS (yeF dq5 y0q) (gcnt dq5 y0q) lfq (nuF dq5 y0q) dq5 y0q jq).1 + (i1q ((dq5 (y0q + jq)).toInt64 * (nI (gcnt dq5 y0q)).toInt64 - sumL (nuF dq5 y0q) (gcnt dq5 y0q)) (hsum (yeF dq5 y0q) lfq ((y0q + jq) % lfq) (nuF dq5 y0q) (gcnt dq5 y0q) * (nI (gcnt dq5 y0q)).toInt64 - sumL (nuF dq5 y0q) (gcnt dq5 y0q) * (nI (cntR (yeF dq5 y0q) lfq ((y0q + jq) % lfq) (gcnt dq5 y0q))).toInt64)))) (nI_add' _ _) ?_
                          refine pf_11_15 o mw_713 dX10_findHeld_279 ?_
                          refine r_iinc o (v := nI (y0q + jq + 1)) (lv' := [(7, .int (nI (y0q + jq + 1))), (11, .long (((hsum (yeF dq5 y0q) lfq ((y0q + jq) % lfq) (nuF dq5 y0q) (gcnt dq5 y0q)) * ((nI (gcnt dq5 y0q)).toInt64)) - ((sumL (nuF dq5 y0q) (gcnt dq5 y0q)) * ((nI (cntR (yeF dq5 y0q) lfq ((y0q + jq) % lfq) (gcnt dq5 y0q))).toInt64)))), (9, .long ((((dq5 (y0q + jq)).toInt64) * ((nI (gcnt dq5 y0q)).toInt64)) - (sumL (nuF dq5 y0q) (gcnt dq5 y0q)))), (8, .int (nI ((y0q + jq) % lfq))), (0, .ref (gad G 11)), (1, .int (nI rq)), (2, .int (nI y0q)), (3, .long 0), (5, .long (sumL (nuF dq5 y0q) (gcnt dq5 y0q)))]) dX10_findHeld_282 8 rfl (nI_inc _) (by decide) rfl ?_
                          refine r_goto o (tgt := 128) dX10_findHeld_285 (by decide) ?_
                          exact r_to rfl [4, 5, 6, 7, 8, 0] rfl (ih128 (jq + 1) (sti (sti ρq 11 16 (nI ((lkS (yeF dq5 y0q) (gcnt dq5 y0q) lfq (nuF dq5 y0q) dq5 y0q jq).2 + (i2q ((dq5 (y0q + jq)).toInt64 * (nI (gcnt dq5 y0q)).toInt64 - sumL (nuF dq5 y0q) (gcnt dq5 y0q)) (hsum (yeF dq5 y0q) lfq ((y0q + jq) % lfq) (nuF dq5 y0q) (gcnt dq5 y0q) * (nI (gcnt dq5 y0q)).toInt64 - sumL (nuF dq5 y0q) (gcnt dq5 y0q) * (nI (cntR (yeF dq5 y0q) lfq ((y0q + jq) % lfq) (gcnt dq5 y0q))).toInt64))))) 11 15 (nI ((lkS (yeF dq5 y0q) (gcnt dq5 y0q) lfq (nuF dq5 y0q) dq5 y0q jq).1 + (i1q ((dq5 (y0q + jq)).toInt64 * (nI (gcnt dq5 y0q)).toInt64 - sumL (nuF dq5 y0q) (gcnt dq5 y0q)) (hsum (yeF dq5 y0q) lfq ((y0q + jq) % lfq) (nuF dq5 y0q) (gcnt dq5 y0q) * (nI (gcnt dq5 y0q)).toInt64 - sumL (nuF dq5 y0q) (gcnt dq5 y0q) * (nI (cntR (yeF dq5 y0q) lfq ((y0q + jq) % lfq) (gcnt dq5 y0q))).toInt64))))) (by omega) (nm_f (nm_f hnr 16 (Or.inr (Or.inr rfl)) _) 15 (Or.inr (Or.inl rfl)) _) (fun rq hr => hhr rq hr) (st_f (st_f hr14 (by decide)) (by decide)) (by rw [sti_eq, hst]) (by rw [st_f sti_eq (by decide), hst]) (by omega))
                    · skip
                      rw [lg_cmp_le] at hb249
                      refine r_lload o dX10_findHeld_252 0 rfl ?_
                      refine r_lconst o (v := 0) dX10_findHeld_254 rfl ?_
                      refine r_lcmp o dX10_findHeld_255 ?_
                      refine r_if_gt o (tgt := 273) dX10_findHeld_256 (by decide) (fun hb256 => ?_) (fun hb256 => ?_)
                      · skip
                        rw [lg_cmp_gt] at hb256
                        refine r_iconst o (v := nI 1) dX10_findHeld_273 (by decide) ?_
                        refine r_goto o (tgt := 278) dX10_findHeld_274 (by decide) ?_
                        refine r_topi (y := nI (i1q ((dq5 (y0q + jq)).toInt64 * (nI (gcnt dq5 y0q)).toInt64 - sumL (nuF dq5 y0q) (gcnt dq5 y0q)) (hsum (yeF dq5 y0q) lfq ((y0q + jq) % lfq) (nuF dq5 y0q) (gcnt dq5 y0q) * (nI (gcnt dq5 y0q)).toInt64 - sumL (nuF dq5 y0q) (gcnt dq5 y0q) * (nI (cntR (yeF dq5 y0q) lfq ((y0q + jq) % lfq) (gcnt dq5 y0q))).toInt64))) (by unfold i1q; first | (rw [if_pos (Or.inl ⟨l_nle.mp hb249, hb256⟩)]; done) | (rw [if_pos (Or.inr ⟨l_nle.mp hb263, l_nle.mp hb270⟩)]; done) | (rw [if_neg (fun zq => zq.elim (fun z1 => by first | exact l_nle.mpr z1.1 hb249 | exact hb256 z1.2) (fun z1 => by first | exact l_nle.mpr z1.1 hb263 | exact l_nle.mpr z1.2 hb270))]; done)) ?_
                        refine r_iadd o dX10_findHeld_278 ?_
                        refine r_topi (y := nI ((lkS (yeF dq5 y0q) (gcnt dq5 y0q) lfq (nuF dq5 y0q) dq5 y0q jq).1 + (i1q ((dq5 (y0q + jq)).toInt64 * (nI (gcnt dq5 y0q)).toInt64 - sumL (nuF dq5 y0q) (gcnt dq5 y0q)) (hsum (yeF dq5 y0q) lfq ((y0q + jq) % lfq) (nuF dq5 y0q) (gcnt dq5 y0q) * (nI (gcnt dq5 y0q)).toInt64 - sumL (nuF dq5 y0q) (gcnt dq5 y0q) * (nI (cntR (yeF dq5 y0q) lfq ((y0q + jq) % lfq) (gcnt dq5 y0q))).toInt64)))) (nI_add' _ _) ?_
                        refine pf_11_15 o mw_713 dX10_findHeld_279 ?_
                        refine r_iinc o (v := nI (y0q + jq + 1)) (lv' := [(7, .int (nI (y0q + jq + 1))), (11, .long (((hsum (yeF dq5 y0q) lfq ((y0q + jq) % lfq) (nuF dq5 y0q) (gcnt dq5 y0q)) * ((nI (gcnt dq5 y0q)).toInt64)) - ((sumL (nuF dq5 y0q) (gcnt dq5 y0q)) * ((nI (cntR (yeF dq5 y0q) lfq ((y0q + jq) % lfq) (gcnt dq5 y0q))).toInt64)))), (9, .long ((((dq5 (y0q + jq)).toInt64) * ((nI (gcnt dq5 y0q)).toInt64)) - (sumL (nuF dq5 y0q) (gcnt dq5 y0q)))), (8, .int (nI ((y0q + jq) % lfq))), (0, .ref (gad G 11)), (1, .int (nI rq)), (2, .int (nI y0q)), (3, .long 0), (5, .long (sumL (nuF dq5 y0q) (gcnt dq5 y0q)))]) dX10_findHeld_282 8 rfl (nI_inc _) (by decide) rfl ?_
                        refine r_goto o (tgt := 128) dX10_findHeld_285 (by decide) ?_
                        exact r_to rfl [4, 5, 6, 7, 8, 0] rfl (ih128 (jq + 1) (sti (sti ρq 11 16 (nI ((lkS (yeF dq5 y0q) (gcnt dq5 y0q) lfq (nuF dq5 y0q) dq5 y0q jq).2 + (i2q ((dq5 (y0q + jq)).toInt64 * (nI (gcnt dq5 y0q)).toInt64 - sumL (nuF dq5 y0q) (gcnt dq5 y0q)) (hsum (yeF dq5 y0q) lfq ((y0q + jq) % lfq) (nuF dq5 y0q) (gcnt dq5 y0q) * (nI (gcnt dq5 y0q)).toInt64 - sumL (nuF dq5 y0q) (gcnt dq5 y0q) * (nI (cntR (yeF dq5 y0q) lfq ((y0q + jq) % lfq) (gcnt dq5 y0q))).toInt64))))) 11 15 (nI ((lkS (yeF dq5 y0q) (gcnt dq5 y0q) lfq (nuF dq5 y0q) dq5 y0q jq).1 + (i1q ((dq5 (y0q + jq)).toInt64 * (nI (gcnt dq5 y0q)).toInt64 - sumL (nuF dq5 y0q) (gcnt dq5 y0q)) (hsum (yeF dq5 y0q) lfq ((y0q + jq) % lfq) (nuF dq5 y0q) (gcnt dq5 y0q) * (nI (gcnt dq5 y0q)).toInt64 - sumL (nuF dq5 y0q) (gcnt dq5 y0q) * (nI (cntR (yeF dq5 y0q) lfq ((y0q + jq) % lfq) (gcnt dq5 y0q))).toInt64))))) (by omega) (nm_f (nm_f hnr 16 (Or.inr (Or.inr rfl)) _) 15 (Or.inr (Or.inl rfl)) _) (fun rq hr => hhr rq hr) (st_f (st_f hr14 (by decide)) (by decide)) (by rw [sti_eq, hst]) (by rw [st_f sti_eq (by decide), hst]) (by omega))
                      · skip
                        rw [lg_cmp_gt] at hb256
                        refine r_lload o dX10_findHeld_259 1 rfl ?_
                        refine r_lconst o (v := 0) dX10_findHeld_261 rfl ?_
                        refine r_lcmp o dX10_findHeld_262 ?_
                        refine r_if_ge o (tgt := 277) dX10_findHeld_263 (by decide) (fun hb263 => ?_) (fun hb263 => ?_)
                        · skip
                          rw [lg_cmp_ge] at hb263
                          refine r_iconst o (v := nI 0) dX10_findHeld_277 (by decide) ?_
                          refine r_topi (y := nI (i1q ((dq5 (y0q + jq)).toInt64 * (nI (gcnt dq5 y0q)).toInt64 - sumL (nuF dq5 y0q) (gcnt dq5 y0q)) (hsum (yeF dq5 y0q) lfq ((y0q + jq) % lfq) (nuF dq5 y0q) (gcnt dq5 y0q) * (nI (gcnt dq5 y0q)).toInt64 - sumL (nuF dq5 y0q) (gcnt dq5 y0q) * (nI (cntR (yeF dq5 y0q) lfq ((y0q + jq) % lfq) (gcnt dq5 y0q))).toInt64))) (by unfold i1q; first | (rw [if_pos (Or.inl ⟨l_nle.mp hb249, hb256⟩)]; done) | (rw [if_pos (Or.inr ⟨l_nle.mp hb263, l_nle.mp hb270⟩)]; done) | (rw [if_neg (fun zq => zq.elim (fun z1 => by first | exact l_nle.mpr z1.1 hb249 | exact hb256 z1.2) (fun z1 => by first | exact l_nle.mpr z1.1 hb263 | exact l_nle.mpr z1.2 hb270))]; done)) ?_
                          refine r_iadd o dX10_findHeld_278 ?_
                          refine r_topi (y := nI ((lkS (yeF dq5 y0q) (gcnt dq5 y0q) lfq (nuF dq5 y0q) dq5 y0q jq).1 + (i1q ((dq5 (y0q + jq)).toInt64 * (nI (gcnt dq5 y0q)).toInt64 - sumL (nuF dq5 y0q) (gcnt dq5 y0q)) (hsum (yeF dq5 y0q) lfq ((y0q + jq) % lfq) (nuF dq5 y0q) (gcnt dq5 y0q) * (nI (gcnt dq5 y0q)).toInt64 - sumL (nuF dq5 y0q) (gcnt dq5 y0q) * (nI (cntR (yeF dq5 y0q) lfq ((y0q + jq) % lfq) (gcnt dq5 y0q))).toInt64)))) (nI_add' _ _) ?_
                          refine pf_11_15 o mw_713 dX10_findHeld_279 ?_
                          refine r_iinc o (v := nI (y0q + jq + 1)) (lv' := [(7, .int (nI (y0q + jq + 1))), (11, .long (((hsum (yeF dq5 y0q) lfq ((y0q + jq) % lfq) (nuF dq5 y0q) (gcnt dq5 y0q)) * ((nI (gcnt dq5 y0q)).toInt64)) - ((sumL (nuF dq5 y0q) (gcnt dq5 y0q)) * ((nI (cntR (yeF dq5 y0q) lfq ((y0q + jq) % lfq) (gcnt dq5 y0q))).toInt64)))), (9, .long ((((dq5 (y0q + jq)).toInt64) * ((nI (gcnt dq5 y0q)).toInt64)) - (sumL (nuF dq5 y0q) (gcnt dq5 y0q)))), (8, .int (nI ((y0q + jq) % lfq))), (0, .ref (gad G 11)), (1, .int (nI rq)), (2, .int (nI y0q)), (3, .long 0), (5, .long (sumL (nuF dq5 y0q) (gcnt dq5 y0q)))]) dX10_findHeld_282 8 rfl (nI_inc _) (by decide) rfl ?_
                          refine r_goto o (tgt := 128) dX10_findHeld_285 (by decide) ?_
                          exact r_to rfl [4, 5, 6, 7, 8, 0] rfl (ih128 (jq + 1) (sti (sti ρq 11 16 (nI ((lkS (yeF dq5 y0q) (gcnt dq5 y0q) lfq (nuF dq5 y0q) dq5 y0q jq).2 + (i2q ((dq5 (y0q + jq)).toInt64 * (nI (gcnt dq5 y0q)).toInt64 - sumL (nuF dq5 y0q) (gcnt dq5 y0q)) (hsum (yeF dq5 y0q) lfq ((y0q + jq) % lfq) (nuF dq5 y0q) (gcnt dq5 y0q) * (nI (gcnt dq5 y0q)).toInt64 - sumL (nuF dq5 y0q) (gcnt dq5 y0q) * (nI (cntR (yeF dq5 y0q) lfq ((y0q + jq) % lfq) (gcnt dq5 y0q))).toInt64))))) 11 15 (nI ((lkS (yeF dq5 y0q) (gcnt dq5 y0q) lfq (nuF dq5 y0q) dq5 y0q jq).1 + (i1q ((dq5 (y0q + jq)).toInt64 * (nI (gcnt dq5 y0q)).toInt64 - sumL (nuF dq5 y0q) (gcnt dq5 y0q)) (hsum (yeF dq5 y0q) lfq ((y0q + jq) % lfq) (nuF dq5 y0q) (gcnt dq5 y0q) * (nI (gcnt dq5 y0q)).toInt64 - sumL (nuF dq5 y0q) (gcnt dq5 y0q) * (nI (cntR (yeF dq5 y0q) lfq ((y0q + jq) % lfq) (gcnt dq5 y0q))).toInt64))))) (by omega) (nm_f (nm_f hnr 16 (Or.inr (Or.inr rfl)) _) 15 (Or.inr (Or.inl rfl)) _) (fun rq hr => hhr rq hr) (st_f (st_f hr14 (by decide)) (by decide)) (by rw [sti_eq, hst]) (by rw [st_f sti_eq (by decide), hst]) (by omega))
                        · skip
                          rw [lg_cmp_ge] at hb263
                          refine r_lload o dX10_findHeld_266 0 rfl ?_
                          refine r_lconst o (v := 0) dX10_findHeld_268 rfl ?_
                          refine r_lcmp o dX10_findHeld_269 ?_
                          refine r_if_ge o (tgt := 277) dX10_findHeld_270 (by decide) (fun hb270 => ?_) (fun hb270 => ?_)
                          · skip
                            rw [lg_cmp_ge] at hb270
                            refine r_iconst o (v := nI 0) dX10_findHeld_277 (by decide) ?_
                            refine r_topi (y := nI (i1q ((dq5 (y0q + jq)).toInt64 * (nI (gcnt dq5 y0q)).toInt64 - sumL (nuF dq5 y0q) (gcnt dq5 y0q)) (hsum (yeF dq5 y0q) lfq ((y0q + jq) % lfq) (nuF dq5 y0q) (gcnt dq5 y0q) * (nI (gcnt dq5 y0q)).toInt64 - sumL (nuF dq5 y0q) (gcnt dq5 y0q) * (nI (cntR (yeF dq5 y0q) lfq ((y0q + jq) % lfq) (gcnt dq5 y0q))).toInt64))) (by unfold i1q; first | (rw [if_pos (Or.inl ⟨l_nle.mp hb249, hb256⟩)]; done) | (rw [if_pos (Or.inr ⟨l_nle.mp hb263, l_nle.mp hb270⟩)]; done) | (rw [if_neg (fun zq => zq.elim (fun z1 => by first | exact l_nle.mpr z1.1 hb249 | exact hb256 z1.2) (fun z1 => by first | exact l_nle.mpr z1.1 hb263 | exact l_nle.mpr z1.2 hb270))]; done)) ?_
                            refine r_iadd o dX10_findHeld_278 ?_
                            refine r_topi (y := nI ((lkS (yeF dq5 y0q) (gcnt dq5 y0q) lfq (nuF dq5 y0q) dq5 y0q jq).1 + (i1q ((dq5 (y0q + jq)).toInt64 * (nI (gcnt dq5 y0q)).toInt64 - sumL (nuF dq5 y0q) (gcnt dq5 y0q)) (hsum (yeF dq5 y0q) lfq ((y0q + jq) % lfq) (nuF dq5 y0q) (gcnt dq5 y0q) * (nI (gcnt dq5 y0q)).toInt64 - sumL (nuF dq5 y0q) (gcnt dq5 y0q) * (nI (cntR (yeF dq5 y0q) lfq ((y0q + jq) % lfq) (gcnt dq5 y0q))).toInt64)))) (nI_add' _ _) ?_
                            refine pf_11_15 o mw_713 dX10_findHeld_279 ?_
                            refine r_iinc o (v := nI (y0q + jq + 1)) (lv' := [(7, .int (nI (y0q + jq + 1))), (11, .long (((hsum (yeF dq5 y0q) lfq ((y0q + jq) % lfq) (nuF dq5 y0q) (gcnt dq5 y0q)) * ((nI (gcnt dq5 y0q)).toInt64)) - ((sumL (nuF dq5 y0q) (gcnt dq5 y0q)) * ((nI (cntR (yeF dq5 y0q) lfq ((y0q + jq) % lfq) (gcnt dq5 y0q))).toInt64)))), (9, .long ((((dq5 (y0q + jq)).toInt64) * ((nI (gcnt dq5 y0q)).toInt64)) - (sumL (nuF dq5 y0q) (gcnt dq5 y0q)))), (8, .int (nI ((y0q + jq) % lfq))), (0, .ref (gad G 11)), (1, .int (nI rq)), (2, .int (nI y0q)), (3, .long 0), (5, .long (sumL (nuF dq5 y0q) (gcnt dq5 y0q)))]) dX10_findHeld_282 8 rfl (nI_inc _) (by decide) rfl ?_
                            refine r_goto o (tgt := 128) dX10_findHeld_285 (by decide) ?_
                            exact r_to rfl [4, 5, 6, 7, 8, 0] rfl (ih128 (jq + 1) (sti (sti ρq 11 16 (nI ((lkS (yeF dq5 y0q) (gcnt dq5 y0q) lfq (nuF dq5 y0q) dq5 y0q jq).2 + (i2q ((dq5 (y0q + jq)).toInt64 * (nI (gcnt dq5 y0q)).toInt64 - sumL (nuF dq5 y0q) (gcnt dq5 y0q)) (hsum (yeF dq5 y0q) lfq ((y0q + jq) % lfq) (nuF dq5 y0q) (gcnt dq5 y0q) * (nI (gcnt dq5 y0q)).toInt64 - sumL (nuF dq5 y0q) (gcnt dq5 y0q) * (nI (cntR (yeF dq5 y0q) lfq ((y0q + jq) % lfq) (gcnt dq5 y0q))).toInt64))))) 11 15 (nI ((lkS (yeF dq5 y0q) (gcnt dq5 y0q) lfq (nuF dq5 y0q) dq5 y0q jq).1 + (i1q ((dq5 (y0q + jq)).toInt64 * (nI (gcnt dq5 y0q)).toInt64 - sumL (nuF dq5 y0q) (gcnt dq5 y0q)) (hsum (yeF dq5 y0q) lfq ((y0q + jq) % lfq) (nuF dq5 y0q) (gcnt dq5 y0q) * (nI (gcnt dq5 y0q)).toInt64 - sumL (nuF dq5 y0q) (gcnt dq5 y0q) * (nI (cntR (yeF dq5 y0q) lfq ((y0q + jq) % lfq) (gcnt dq5 y0q))).toInt64))))) (by omega) (nm_f (nm_f hnr 16 (Or.inr (Or.inr rfl)) _) 15 (Or.inr (Or.inl rfl)) _) (fun rq hr => hhr rq hr) (st_f (st_f hr14 (by decide)) (by decide)) (by rw [sti_eq, hst]) (by rw [st_f sti_eq (by decide), hst]) (by omega))
                          · skip
                            rw [lg_cmp_ge] at hb270
                            refine r_iconst o (v := nI 1) dX10_findHeld_273 (by decide) ?_
                            refine r_goto o (tgt := 278) dX10_findHeld_274 (by decide) ?_
                            refine r_topi (y := nI (i1q ((dq5 (y0q + jq)).toInt64 * (nI (gcnt dq5 y0q)).toInt64 - sumL (nuF dq5 y0q) (gcnt dq5 y0q)) (hsum (yeF dq5 y0q) lfq ((y0q + jq) % lfq) (nuF dq5 y0q) (gcnt dq5 y0q) * (nI (gcnt dq5 y0q)).toInt64 - sumL (nuF dq5 y0q) (gcnt dq5 y0q) * (nI (cntR (yeF dq5 y0q) lfq ((y0q + jq) % lfq) (gcnt dq5 y0q))).toInt64))) (by unfold i1q; first | (rw [if_pos (Or.inl ⟨l_nle.mp hb249, hb256⟩)]; done) | (rw [if_pos (Or.inr ⟨l_nle.mp hb263, l_nle.mp hb270⟩)]; done) | (rw [if_neg (fun zq => zq.elim (fun z1 => by first | exact l_nle.mpr z1.1 hb249 | exact hb256 z1.2) (fun z1 => by first | exact l_nle.mpr z1.1 hb263 | exact l_nle.mpr z1.2 hb270))]; done)) ?_
                            refine r_iadd o dX10_findHeld_278 ?_
                            refine r_topi (y := nI ((lkS (yeF dq5 y0q) (gcnt dq5 y0q) lfq (nuF dq5 y0q) dq5 y0q jq).1 + (i1q ((dq5 (y0q + jq)).toInt64 * (nI (gcnt dq5 y0q)).toInt64 - sumL (nuF dq5 y0q) (gcnt dq5 y0q)) (hsum (yeF dq5 y0q) lfq ((y0q + jq) % lfq) (nuF dq5 y0q) (gcnt dq5 y0q) * (nI (gcnt dq5 y0q)).toInt64 - sumL (nuF dq5 y0q) (gcnt dq5 y0q) * (nI (cntR (yeF dq5 y0q) lfq ((y0q + jq) % lfq) (gcnt dq5 y0q))).toInt64)))) (nI_add' _ _) ?_
                            refine pf_11_15 o mw_713 dX10_findHeld_279 ?_
                            refine r_iinc o (v := nI (y0q + jq + 1)) (lv' := [(7, .int (nI (y0q + jq + 1))), (11, .long (((hsum (yeF dq5 y0q) lfq ((y0q + jq) % lfq) (nuF dq5 y0q) (gcnt dq5 y0q)) * ((nI (gcnt dq5 y0q)).toInt64)) - ((sumL (nuF dq5 y0q) (gcnt dq5 y0q)) * ((nI (cntR (yeF dq5 y0q) lfq ((y0q + jq) % lfq) (gcnt dq5 y0q))).toInt64)))), (9, .long ((((dq5 (y0q + jq)).toInt64) * ((nI (gcnt dq5 y0q)).toInt64)) - (sumL (nuF dq5 y0q) (gcnt dq5 y0q)))), (8, .int (nI ((y0q + jq) % lfq))), (0, .ref (gad G 11)), (1, .int (nI rq)), (2, .int (nI y0q)), (3, .long 0), (5, .long (sumL (nuF dq5 y0q) (gcnt dq5 y0q)))]) dX10_findHeld_282 8 rfl (nI_inc _) (by decide) rfl ?_
                            refine r_goto o (tgt := 128) dX10_findHeld_285 (by decide) ?_
                            exact r_to rfl [4, 5, 6, 7, 8, 0] rfl (ih128 (jq + 1) (sti (sti ρq 11 16 (nI ((lkS (yeF dq5 y0q) (gcnt dq5 y0q) lfq (nuF dq5 y0q) dq5 y0q jq).2 + (i2q ((dq5 (y0q + jq)).toInt64 * (nI (gcnt dq5 y0q)).toInt64 - sumL (nuF dq5 y0q) (gcnt dq5 y0q)) (hsum (yeF dq5 y0q) lfq ((y0q + jq) % lfq) (nuF dq5 y0q) (gcnt dq5 y0q) * (nI (gcnt dq5 y0q)).toInt64 - sumL (nuF dq5 y0q) (gcnt dq5 y0q) * (nI (cntR (yeF dq5 y0q) lfq ((y0q + jq) % lfq) (gcnt dq5 y0q))).toInt64))))) 11 15 (nI ((lkS (yeF dq5 y0q) (gcnt dq5 y0q) lfq (nuF dq5 y0q) dq5 y0q jq).1 + (i1q ((dq5 (y0q + jq)).toInt64 * (nI (gcnt dq5 y0q)).toInt64 - sumL (nuF dq5 y0q) (gcnt dq5 y0q)) (hsum (yeF dq5 y0q) lfq ((y0q + jq) % lfq) (nuF dq5 y0q) (gcnt dq5 y0q) * (nI (gcnt dq5 y0q)).toInt64 - sumL (nuF dq5 y0q) (gcnt dq5 y0q) * (nI (cntR (yeF dq5 y0q) lfq ((y0q + jq) % lfq) (gcnt dq5 y0q))).toInt64))))) (by omega) (nm_f (nm_f hnr 16 (Or.inr (Or.inr rfl)) _) 15 (Or.inr (Or.inl rfl)) _) (fun rq hr => hhr rq hr) (st_f (st_f hr14 (by decide)) (by decide)) (by rw [sti_eq, hst]) (by rw [st_f sti_eq (by decide), hst]) (by omega))
                  · skip
                    rw [lg_cmp_eq] at hb221
                    refine r_lload o dX10_findHeld_224 0 rfl ?_
                    refine r_lconst o (v := 0) dX10_findHeld_226 rfl ?_
                    refine r_lcmp o dX10_findHeld_227 ?_
                    refine r_if_eq o (tgt := 235) dX10_findHeld_228 (by decide) (fun hb228 => ?_) (fun hb228 => ?_)
                    · skip
                      rw [lg_cmp_eq] at hb228
                      refine r_iconst o (v := nI 0) dX10_findHeld_235 (by decide) ?_
                      refine r_topi (y := nI (i2q ((dq5 (y0q + jq)).toInt64 * (nI (gcnt dq5 y0q)).toInt64 - sumL (nuF dq5 y0q) (gcnt dq5 y0q)) (hsum (yeF dq5 y0q) lfq ((y0q + jq) % lfq) (nuF dq5 y0q) (gcnt dq5 y0q) * (nI (gcnt dq5 y0q)).toInt64 - sumL (nuF dq5 y0q) (gcnt dq5 y0q) * (nI (cntR (yeF dq5 y0q) lfq ((y0q + jq) % lfq) (gcnt dq5 y0q))).toInt64))) (by unfold i2q; first | (rw [if_pos hb221]; done) | (rw [if_neg hb221, if_pos hb228]; done) | (rw [if_neg hb221, if_neg hb228]; done)) ?_
                      refine r_iadd o dX10_findHeld_236 ?_
                      refine r_topi (y := nI ((lkS (yeF dq5 y0q) (gcnt dq5 y0q) lfq (nuF dq5 y0q) dq5 y0q jq).2 + (i2q ((dq5 (y0q + jq)).toInt64 * (nI (gcnt dq5 y0q)).toInt64 - sumL (nuF dq5 y0q) (gcnt dq5 y0q)) (hsum (yeF dq5 y0q) lfq ((y0q + jq) % lfq) (nuF dq5 y0q) (gcnt dq5 y0q) * (nI (gcnt dq5 y0q)).toInt64 - sumL (nuF dq5 y0q) (gcnt dq5 y0q) * (nI (cntR (yeF dq5 y0q) lfq ((y0q + jq) % lfq) (gcnt dq5 y0q))).toInt64)))) (nI_add' _ _) ?_
                      refine pf_11_16 o mw_714 dX10_findHeld_237 ?_
                      refine r_aload_n o dX10_findHeld_240 3 rfl ?_
                      refine r_dup o dX10_findHeld_241 rfl ?_
                      refine gf_11_15 (σ := sti ρq 11 16 (nI ((lkS (yeF dq5 y0q) (gcnt dq5 y0q) lfq (nuF dq5 y0q) dq5 y0q jq).2 + (i2q ((dq5 (y0q + jq)).toInt64 * (nI (gcnt dq5 y0q)).toInt64 - sumL (nuF dq5 y0q) (gcnt dq5 y0q)) (hsum (yeF dq5 y0q) lfq ((y0q + jq) % lfq) (nuF dq5 y0q) (gcnt dq5 y0q) * (nI (gcnt dq5 y0q)).toInt64 - sumL (nuF dq5 y0q) (gcnt dq5 y0q) * (nI (cntR (yeF dq5 y0q) lfq ((y0q + jq) % lfq) (gcnt dq5 y0q))).toInt64))))) o (v := nI ((lkS (yeF dq5 y0q) (gcnt dq5 y0q) lfq (nuF dq5 y0q) dq5 y0q jq).1)) hr15 mw_713 dX10_findHeld_242 ?_
                      refine r_lload o dX10_findHeld_245 1 rfl ?_
                      refine r_lconst o (v := 0) dX10_findHeld_247 rfl ?_
                      refine r_lcmp o dX10_findHeld_248 ?_
                      refine r_if_le o (tgt := 259) dX10_findHeld_249 (by decide) (fun hb249 => ?_) (fun hb249 => ?_)
                      · skip
                        rw [lg_cmp_le] at hb249
                        refine r_lload o dX10_findHeld_259 1 rfl ?_
                        refine r_lconst o (v := 0) dX10_findHeld_261 rfl ?_
                        refine r_lcmp o dX10_findHeld_262 ?_
                        refine r_if_ge o (tgt := 277) dX10_findHeld_263 (by decide) (fun hb263 => ?_) (fun hb263 => ?_)
                        · skip
                          rw [lg_cmp_ge] at hb263
                          refine r_iconst o (v := nI 0) dX10_findHeld_277 (by decide) ?_
                          refine r_topi (y := nI (i1q ((dq5 (y0q + jq)).toInt64 * (nI (gcnt dq5 y0q)).toInt64 - sumL (nuF dq5 y0q) (gcnt dq5 y0q)) (hsum (yeF dq5 y0q) lfq ((y0q + jq) % lfq) (nuF dq5 y0q) (gcnt dq5 y0q) * (nI (gcnt dq5 y0q)).toInt64 - sumL (nuF dq5 y0q) (gcnt dq5 y0q) * (nI (cntR (yeF dq5 y0q) lfq ((y0q + jq) % lfq) (gcnt dq5 y0q))).toInt64))) (by unfold i1q; first | (rw [if_pos (Or.inl ⟨l_nle.mp hb249, hb256⟩)]; done) | (rw [if_pos (Or.inr ⟨l_nle.mp hb263, l_nle.mp hb270⟩)]; done) | (rw [if_neg (fun zq => zq.elim (fun z1 => by first | exact l_nle.mpr z1.1 hb249 | exact hb256 z1.2) (fun z1 => by first | exact l_nle.mpr z1.1 hb263 | exact l_nle.mpr z1.2 hb270))]; done)) ?_
                          refine r_iadd o dX10_findHeld_278 ?_
                          refine r_topi (y := nI ((lkS (yeF dq5 y0q) (gcnt dq5 y0q) lfq (nuF dq5 y0q) dq5 y0q jq).1 + (i1q ((dq5 (y0q + jq)).toInt64 * (nI (gcnt dq5 y0q)).toInt64 - sumL (nuF dq5 y0q) (gcnt dq5 y0q)) (hsum (yeF dq5 y0q) lfq ((y0q + jq) % lfq) (nuF dq5 y0q) (gcnt dq5 y0q) * (nI (gcnt dq5 y0q)).toInt64 - sumL (nuF dq5 y0q) (gcnt dq5 y0q) * (nI (cntR (yeF dq5 y0q) lfq ((y0q + jq) % lfq) (gcnt dq5 y0q))).toInt64)))) (nI_add' _ _) ?_
                          refine pf_11_15 o mw_713 dX10_findHeld_279 ?_
                          refine r_iinc o (v := nI (y0q + jq + 1)) (lv' := [(7, .int (nI (y0q + jq + 1))), (11, .long (((hsum (yeF dq5 y0q) lfq ((y0q + jq) % lfq) (nuF dq5 y0q) (gcnt dq5 y0q)) * ((nI (gcnt dq5 y0q)).toInt64)) - ((sumL (nuF dq5 y0q) (gcnt dq5 y0q)) * ((nI (cntR (yeF dq5 y0q) lfq ((y0q + jq) % lfq) (gcnt dq5 y0q))).toInt64)))), (9, .long ((((dq5 (y0q + jq)).toInt64) * ((nI (gcnt dq5 y0q)).toInt64)) - (sumL (nuF dq5 y0q) (gcnt dq5 y0q)))), (8, .int (nI ((y0q + jq) % lfq))), (0, .ref (gad G 11)), (1, .int (nI rq)), (2, .int (nI y0q)), (3, .long 0), (5, .long (sumL (nuF dq5 y0q) (gcnt dq5 y0q)))]) dX10_findHeld_282 8 rfl (nI_inc _) (by decide) rfl ?_
                          refine r_goto o (tgt := 128) dX10_findHeld_285 (by decide) ?_
                          exact r_to rfl [4, 5, 6, 7, 8, 0] rfl (ih128 (jq + 1) (sti (sti ρq 11 16 (nI ((lkS (yeF dq5 y0q) (gcnt dq5 y0q) lfq (nuF dq5 y0q) dq5 y0q jq).2 + (i2q ((dq5 (y0q + jq)).toInt64 * (nI (gcnt dq5 y0q)).toInt64 - sumL (nuF dq5 y0q) (gcnt dq5 y0q)) (hsum (yeF dq5 y0q) lfq ((y0q + jq) % lfq) (nuF dq5 y0q) (gcnt dq5 y0q) * (nI (gcnt dq5 y0q)).toInt64 - sumL (nuF dq5 y0q) (gcnt dq5 y0q) * (nI (cntR (yeF dq5 y0q) lfq ((y0q + jq) % lfq) (gcnt dq5 y0q))).toInt64))))) 11 15 (nI ((lkS (yeF dq5 y0q) (gcnt dq5 y0q) lfq (nuF dq5 y0q) dq5 y0q jq).1 + (i1q ((dq5 (y0q + jq)).toInt64 * (nI (gcnt dq5 y0q)).toInt64 - sumL (nuF dq5 y0q) (gcnt dq5 y0q)) (hsum (yeF dq5 y0q) lfq ((y0q + jq) % lfq) (nuF dq5 y0q) (gcnt dq5 y0q) * (nI (gcnt dq5 y0q)).toInt64 - sumL (nuF dq5 y0q) (gcnt dq5 y0q) * (nI (cntR (yeF dq5 y0q) lfq ((y0q + jq) % lfq) (gcnt dq5 y0q))).toInt64))))) (by omega) (nm_f (nm_f hnr 16 (Or.inr (Or.inr rfl)) _) 15 (Or.inr (Or.inl rfl)) _) (fun rq hr => hhr rq hr) (st_f (st_f hr14 (by decide)) (by decide)) (by rw [sti_eq, hst]) (by rw [st_f sti_eq (by decide), hst]) (by omega))
                        · skip
                          rw [lg_cmp_ge] at hb263
                          refine r_lload o dX10_findHeld_266 0 rfl ?_
                          refine r_lconst o (v := 0) dX10_findHeld_268 rfl ?_
                          refine r_lcmp o dX10_findHeld_269 ?_
                          refine r_if_ge o (tgt := 277) dX10_findHeld_270 (by decide) (fun hb270 => ?_) (fun hb270 => ?_)
                          · skip
                            rw [lg_cmp_ge] at hb270
                            refine r_iconst o (v := nI 0) dX10_findHeld_277 (by decide) ?_
                            refine r_topi (y := nI (i1q ((dq5 (y0q + jq)).toInt64 * (nI (gcnt dq5 y0q)).toInt64 - sumL (nuF dq5 y0q) (gcnt dq5 y0q)) (hsum (yeF dq5 y0q) lfq ((y0q + jq) % lfq) (nuF dq5 y0q) (gcnt dq5 y0q) * (nI (gcnt dq5 y0q)).toInt64 - sumL (nuF dq5 y0q) (gcnt dq5 y0q) * (nI (cntR (yeF dq5 y0q) lfq ((y0q + jq) % lfq) (gcnt dq5 y0q))).toInt64))) (by unfold i1q; first | (rw [if_pos (Or.inl ⟨l_nle.mp hb249, hb256⟩)]; done) | (rw [if_pos (Or.inr ⟨l_nle.mp hb263, l_nle.mp hb270⟩)]; done) | (rw [if_neg (fun zq => zq.elim (fun z1 => by first | exact l_nle.mpr z1.1 hb249 | exact hb256 z1.2) (fun z1 => by first | exact l_nle.mpr z1.1 hb263 | exact l_nle.mpr z1.2 hb270))]; done)) ?_
                            refine r_iadd o dX10_findHeld_278 ?_
                            refine r_topi (y := nI ((lkS (yeF dq5 y0q) (gcnt dq5 y0q) lfq (nuF dq5 y0q) dq5 y0q jq).1 + (i1q ((dq5 (y0q + jq)).toInt64 * (nI (gcnt dq5 y0q)).toInt64 - sumL (nuF dq5 y0q) (gcnt dq5 y0q)) (hsum (yeF dq5 y0q) lfq ((y0q + jq) % lfq) (nuF dq5 y0q) (gcnt dq5 y0q) * (nI (gcnt dq5 y0q)).toInt64 - sumL (nuF dq5 y0q) (gcnt dq5 y0q) * (nI (cntR (yeF dq5 y0q) lfq ((y0q + jq) % lfq) (gcnt dq5 y0q))).toInt64)))) (nI_add' _ _) ?_
                            refine pf_11_15 o mw_713 dX10_findHeld_279 ?_
                            refine r_iinc o (v := nI (y0q + jq + 1)) (lv' := [(7, .int (nI (y0q + jq + 1))), (11, .long (((hsum (yeF dq5 y0q) lfq ((y0q + jq) % lfq) (nuF dq5 y0q) (gcnt dq5 y0q)) * ((nI (gcnt dq5 y0q)).toInt64)) - ((sumL (nuF dq5 y0q) (gcnt dq5 y0q)) * ((nI (cntR (yeF dq5 y0q) lfq ((y0q + jq) % lfq) (gcnt dq5 y0q))).toInt64)))), (9, .long ((((dq5 (y0q + jq)).toInt64) * ((nI (gcnt dq5 y0q)).toInt64)) - (sumL (nuF dq5 y0q) (gcnt dq5 y0q)))), (8, .int (nI ((y0q + jq) % lfq))), (0, .ref (gad G 11)), (1, .int (nI rq)), (2, .int (nI y0q)), (3, .long 0), (5, .long (sumL (nuF dq5 y0q) (gcnt dq5 y0q)))]) dX10_findHeld_282 8 rfl (nI_inc _) (by decide) rfl ?_
                            refine r_goto o (tgt := 128) dX10_findHeld_285 (by decide) ?_
                            exact r_to rfl [4, 5, 6, 7, 8, 0] rfl (ih128 (jq + 1) (sti (sti ρq 11 16 (nI ((lkS (yeF dq5 y0q) (gcnt dq5 y0q) lfq (nuF dq5 y0q) dq5 y0q jq).2 + (i2q ((dq5 (y0q + jq)).toInt64 * (nI (gcnt dq5 y0q)).toInt64 - sumL (nuF dq5 y0q) (gcnt dq5 y0q)) (hsum (yeF dq5 y0q) lfq ((y0q + jq) % lfq) (nuF dq5 y0q) (gcnt dq5 y0q) * (nI (gcnt dq5 y0q)).toInt64 - sumL (nuF dq5 y0q) (gcnt dq5 y0q) * (nI (cntR (yeF dq5 y0q) lfq ((y0q + jq) % lfq) (gcnt dq5 y0q))).toInt64))))) 11 15 (nI ((lkS (yeF dq5 y0q) (gcnt dq5 y0q) lfq (nuF dq5 y0q) dq5 y0q jq).1 + (i1q ((dq5 (y0q + jq)).toInt64 * (nI (gcnt dq5 y0q)).toInt64 - sumL (nuF dq5 y0q) (gcnt dq5 y0q)) (hsum (yeF dq5 y0q) lfq ((y0q + jq) % lfq) (nuF dq5 y0q) (gcnt dq5 y0q) * (nI (gcnt dq5 y0q)).toInt64 - sumL (nuF dq5 y0q) (gcnt dq5 y0q) * (nI (cntR (yeF dq5 y0q) lfq ((y0q + jq) % lfq) (gcnt dq5 y0q))).toInt64))))) (by omega) (nm_f (nm_f hnr 16 (Or.inr (Or.inr rfl)) _) 15 (Or.inr (Or.inl rfl)) _) (fun rq hr => hhr rq hr) (st_f (st_f hr14 (by decide)) (by decide)) (by rw [sti_eq, hst]) (by rw [st_f sti_eq (by decide), hst]) (by omega))
                          · skip
                            rw [lg_cmp_ge] at hb270
                            refine r_iconst o (v := nI 1) dX10_findHeld_273 (by decide) ?_
                            refine r_goto o (tgt := 278) dX10_findHeld_274 (by decide) ?_
                            refine r_topi (y := nI (i1q ((dq5 (y0q + jq)).toInt64 * (nI (gcnt dq5 y0q)).toInt64 - sumL (nuF dq5 y0q) (gcnt dq5 y0q)) (hsum (yeF dq5 y0q) lfq ((y0q + jq) % lfq) (nuF dq5 y0q) (gcnt dq5 y0q) * (nI (gcnt dq5 y0q)).toInt64 - sumL (nuF dq5 y0q) (gcnt dq5 y0q) * (nI (cntR (yeF dq5 y0q) lfq ((y0q + jq) % lfq) (gcnt dq5 y0q))).toInt64))) (by unfold i1q; first | (rw [if_pos (Or.inl ⟨l_nle.mp hb249, hb256⟩)]; done) | (rw [if_pos (Or.inr ⟨l_nle.mp hb263, l_nle.mp hb270⟩)]; done) | (rw [if_neg (fun zq => zq.elim (fun z1 => by first | exact l_nle.mpr z1.1 hb249 | exact hb256 z1.2) (fun z1 => by first | exact l_nle.mpr z1.1 hb263 | exact l_nle.mpr z1.2 hb270))]; done)) ?_
                            refine r_iadd o dX10_findHeld_278 ?_
                            refine r_topi (y := nI ((lkS (yeF dq5 y0q) (gcnt dq5 y0q) lfq (nuF dq5 y0q) dq5 y0q jq).1 + (i1q ((dq5 (y0q + jq)).toInt64 * (nI (gcnt dq5 y0q)).toInt64 - sumL (nuF dq5 y0q) (gcnt dq5 y0q)) (hsum (yeF dq5 y0q) lfq ((y0q + jq) % lfq) (nuF dq5 y0q) (gcnt dq5 y0q) * (nI (gcnt dq5 y0q)).toInt64 - sumL (nuF dq5 y0q) (gcnt dq5 y0q) * (nI (cntR (yeF dq5 y0q) lfq ((y0q + jq) % lfq) (gcnt dq5 y0q))).toInt64)))) (nI_add' _ _) ?_
                            refine pf_11_15 o mw_713 dX10_findHeld_279 ?_
                            refine r_iinc o (v := nI (y0q + jq + 1)) (lv' := [(7, .int (nI (y0q + jq + 1))), (11, .long (((hsum (yeF dq5 y0q) lfq ((y0q + jq) % lfq) (nuF dq5 y0q) (gcnt dq5 y0q)) * ((nI (gcnt dq5 y0q)).toInt64)) - ((sumL (nuF dq5 y0q) (gcnt dq5 y0q)) * ((nI (cntR (yeF dq5 y0q) lfq ((y0q + jq) % lfq) (gcnt dq5 y0q))).toInt64)))), (9, .long ((((dq5 (y0q + jq)).toInt64) * ((nI (gcnt dq5 y0q)).toInt64)) - (sumL (nuF dq5 y0q) (gcnt dq5 y0q)))), (8, .int (nI ((y0q + jq) % lfq))), (0, .ref (gad G 11)), (1, .int (nI rq)), (2, .int (nI y0q)), (3, .long 0), (5, .long (sumL (nuF dq5 y0q) (gcnt dq5 y0q)))]) dX10_findHeld_282 8 rfl (nI_inc _) (by decide) rfl ?_
                            refine r_goto o (tgt := 128) dX10_findHeld_285 (by decide) ?_
                            exact r_to rfl [4, 5, 6, 7, 8, 0] rfl (ih128 (jq + 1) (sti (sti ρq 11 16 (nI ((lkS (yeF dq5 y0q) (gcnt dq5 y0q) lfq (nuF dq5 y0q) dq5 y0q jq).2 + (i2q ((dq5 (y0q + jq)).toInt64 * (nI (gcnt dq5 y0q)).toInt64 - sumL (nuF dq5 y0q) (gcnt dq5 y0q)) (hsum (yeF dq5 y0q) lfq ((y0q + jq) % lfq) (nuF dq5 y0q) (gcnt dq5 y0q) * (nI (gcnt dq5 y0q)).toInt64 - sumL (nuF dq5 y0q) (gcnt dq5 y0q) * (nI (cntR (yeF dq5 y0q) lfq ((y0q + jq) % lfq) (gcnt dq5 y0q))).toInt64))))) 11 15 (nI ((lkS (yeF dq5 y0q) (gcnt dq5 y0q) lfq (nuF dq5 y0q) dq5 y0q jq).1 + (i1q ((dq5 (y0q + jq)).toInt64 * (nI (gcnt dq5 y0q)).toInt64 - sumL (nuF dq5 y0q) (gcnt dq5 y0q)) (hsum (yeF dq5 y0q) lfq ((y0q + jq) % lfq) (nuF dq5 y0q) (gcnt dq5 y0q) * (nI (gcnt dq5 y0q)).toInt64 - sumL (nuF dq5 y0q) (gcnt dq5 y0q) * (nI (cntR (yeF dq5 y0q) lfq ((y0q + jq) % lfq) (gcnt dq5 y0q))).toInt64))))) (by omega) (nm_f (nm_f hnr 16 (Or.inr (Or.inr rfl)) _) 15 (Or.inr (Or.inl rfl)) _) (fun rq hr => hhr rq hr) (st_f (st_f hr14 (by decide)) (by decide)) (by rw [sti_eq, hst]) (by rw [st_f sti_eq (by decide), hst]) (by omega))
                      · skip
                        rw [lg_cmp_le] at hb249
                        refine r_lload o dX10_findHeld_252 0 rfl ?_
                        refine r_lconst o (v := 0) dX10_findHeld_254 rfl ?_
                        refine r_lcmp o dX10_findHeld_255 ?_
                        refine r_if_gt o (tgt := 273) dX10_findHeld_256 (by decide) (fun hb256 => ?_) (fun hb256 => ?_)
                        · skip
                          rw [lg_cmp_gt] at hb256
                          refine r_iconst o (v := nI 1) dX10_findHeld_273 (by decide) ?_
                          refine r_goto o (tgt := 278) dX10_findHeld_274 (by decide) ?_
                          refine r_topi (y := nI (i1q ((dq5 (y0q + jq)).toInt64 * (nI (gcnt dq5 y0q)).toInt64 - sumL (nuF dq5 y0q) (gcnt dq5 y0q)) (hsum (yeF dq5 y0q) lfq ((y0q + jq) % lfq) (nuF dq5 y0q) (gcnt dq5 y0q) * (nI (gcnt dq5 y0q)).toInt64 - sumL (nuF dq5 y0q) (gcnt dq5 y0q) * (nI (cntR (yeF dq5 y0q) lfq ((y0q + jq) % lfq) (gcnt dq5 y0q))).toInt64))) (by unfold i1q; first | (rw [if_pos (Or.inl ⟨l_nle.mp hb249, hb256⟩)]; done) | (rw [if_pos (Or.inr ⟨l_nle.mp hb263, l_nle.mp hb270⟩)]; done) | (rw [if_neg (fun zq => zq.elim (fun z1 => by first | exact l_nle.mpr z1.1 hb249 | exact hb256 z1.2) (fun z1 => by first | exact l_nle.mpr z1.1 hb263 | exact l_nle.mpr z1.2 hb270))]; done)) ?_
                          refine r_iadd o dX10_findHeld_278 ?_
                          refine r_topi (y := nI ((lkS (yeF dq5 y0q) (gcnt dq5 y0q) lfq (nuF dq5 y0q) dq5 y0q jq).1 + (i1q ((dq5 (y0q + jq)).toInt64 * (nI (gcnt dq5 y0q)).toInt64 - sumL (nuF dq5 y0q) (gcnt dq5 y0q)) (hsum (yeF dq5 y0q) lfq ((y0q + jq) % lfq) (nuF dq5 y0q) (gcnt dq5 y0q) * (nI (gcnt dq5 y0q)).toInt64 - sumL (nuF dq5 y0q) (gcnt dq5 y0q) * (nI (cntR (yeF dq5 y0q) lfq ((y0q + jq) % lfq) (gcnt dq5 y0q))).toInt64)))) (nI_add' _ _) ?_
                          refine pf_11_15 o mw_713 dX10_findHeld_279 ?_
                          refine r_iinc o (v := nI (y0q + jq + 1)) (lv' := [(7, .int (nI (y0q + jq + 1))), (11, .long (((hsum (yeF dq5 y0q) lfq ((y0q + jq) % lfq) (nuF dq5 y0q) (gcnt dq5 y0q)) * ((nI (gcnt dq5 y0q)).toInt64)) - ((sumL (nuF dq5 y0q) (gcnt dq5 y0q)) * ((nI (cntR (yeF dq5 y0q) lfq ((y0q + jq) % lfq) (gcnt dq5 y0q))).toInt64)))), (9, .long ((((dq5 (y0q + jq)).toInt64) * ((nI (gcnt dq5 y0q)).toInt64)) - (sumL (nuF dq5 y0q) (gcnt dq5 y0q)))), (8, .int (nI ((y0q + jq) % lfq))), (0, .ref (gad G 11)), (1, .int (nI rq)), (2, .int (nI y0q)), (3, .long 0), (5, .long (sumL (nuF dq5 y0q) (gcnt dq5 y0q)))]) dX10_findHeld_282 8 rfl (nI_inc _) (by decide) rfl ?_
                          refine r_goto o (tgt := 128) dX10_findHeld_285 (by decide) ?_
                          exact r_to rfl [4, 5, 6, 7, 8, 0] rfl (ih128 (jq + 1) (sti (sti ρq 11 16 (nI ((lkS (yeF dq5 y0q) (gcnt dq5 y0q) lfq (nuF dq5 y0q) dq5 y0q jq).2 + (i2q ((dq5 (y0q + jq)).toInt64 * (nI (gcnt dq5 y0q)).toInt64 - sumL (nuF dq5 y0q) (gcnt dq5 y0q)) (hsum (yeF dq5 y0q) lfq ((y0q + jq) % lfq) (nuF dq5 y0q) (gcnt dq5 y0q) * (nI (gcnt dq5 y0q)).toInt64 - sumL (nuF dq5 y0q) (gcnt dq5 y0q) * (nI (cntR (yeF dq5 y0q) lfq ((y0q + jq) % lfq) (gcnt dq5 y0q))).toInt64))))) 11 15 (nI ((lkS (yeF dq5 y0q) (gcnt dq5 y0q) lfq (nuF dq5 y0q) dq5 y0q jq).1 + (i1q ((dq5 (y0q + jq)).toInt64 * (nI (gcnt dq5 y0q)).toInt64 - sumL (nuF dq5 y0q) (gcnt dq5 y0q)) (hsum (yeF dq5 y0q) lfq ((y0q + jq) % lfq) (nuF dq5 y0q) (gcnt dq5 y0q) * (nI (gcnt dq5 y0q)).toInt64 - sumL (nuF dq5 y0q) (gcnt dq5 y0q) * (nI (cntR (yeF dq5 y0q) lfq ((y0q + jq) % lfq) (gcnt dq5 y0q))).toInt64))))) (by omega) (nm_f (nm_f hnr 16 (Or.inr (Or.inr rfl)) _) 15 (Or.inr (Or.inl rfl)) _) (fun rq hr => hhr rq hr) (st_f (st_f hr14 (by decide)) (by decide)) (by rw [sti_eq, hst]) (by rw [st_f sti_eq (by decide), hst]) (by omega))
                        · skip
                          rw [lg_cmp_gt] at hb256
                          refine r_lload o dX10_findHeld_259 1 rfl ?_
                          refine r_lconst o (v := 0) dX10_findHeld_261 rfl ?_
                          refine r_lcmp o dX10_findHeld_262 ?_
                          refine r_if_ge o (tgt := 277) dX10_findHeld_263 (by decide) (fun hb263 => ?_) (fun hb263 => ?_)
                          · skip
                            rw [lg_cmp_ge] at hb263
                            refine r_iconst o (v := nI 0) dX10_findHeld_277 (by decide) ?_
                            refine r_topi (y := nI (i1q ((dq5 (y0q + jq)).toInt64 * (nI (gcnt dq5 y0q)).toInt64 - sumL (nuF dq5 y0q) (gcnt dq5 y0q)) (hsum (yeF dq5 y0q) lfq ((y0q + jq) % lfq) (nuF dq5 y0q) (gcnt dq5 y0q) * (nI (gcnt dq5 y0q)).toInt64 - sumL (nuF dq5 y0q) (gcnt dq5 y0q) * (nI (cntR (yeF dq5 y0q) lfq ((y0q + jq) % lfq) (gcnt dq5 y0q))).toInt64))) (by unfold i1q; first | (rw [if_pos (Or.inl ⟨l_nle.mp hb249, hb256⟩)]; done) | (rw [if_pos (Or.inr ⟨l_nle.mp hb263, l_nle.mp hb270⟩)]; done) | (rw [if_neg (fun zq => zq.elim (fun z1 => by first | exact l_nle.mpr z1.1 hb249 | exact hb256 z1.2) (fun z1 => by first | exact l_nle.mpr z1.1 hb263 | exact l_nle.mpr z1.2 hb270))]; done)) ?_
                            refine r_iadd o dX10_findHeld_278 ?_
                            refine r_topi (y := nI ((lkS (yeF dq5 y0q) (gcnt dq5 y0q) lfq (nuF dq5 y0q) dq5 y0q jq).1 + (i1q ((dq5 (y0q + jq)).toInt64 * (nI (gcnt dq5 y0q)).toInt64 - sumL (nuF dq5 y0q) (gcnt dq5 y0q)) (hsum (yeF dq5 y0q) lfq ((y0q + jq) % lfq) (nuF dq5 y0q) (gcnt dq5 y0q) * (nI (gcnt dq5 y0q)).toInt64 - sumL (nuF dq5 y0q) (gcnt dq5 y0q) * (nI (cntR (yeF dq5 y0q) lfq ((y0q + jq) % lfq) (gcnt dq5 y0q))).toInt64)))) (nI_add' _ _) ?_
                            refine pf_11_15 o mw_713 dX10_findHeld_279 ?_
                            refine r_iinc o (v := nI (y0q + jq + 1)) (lv' := [(7, .int (nI (y0q + jq + 1))), (11, .long (((hsum (yeF dq5 y0q) lfq ((y0q + jq) % lfq) (nuF dq5 y0q) (gcnt dq5 y0q)) * ((nI (gcnt dq5 y0q)).toInt64)) - ((sumL (nuF dq5 y0q) (gcnt dq5 y0q)) * ((nI (cntR (yeF dq5 y0q) lfq ((y0q + jq) % lfq) (gcnt dq5 y0q))).toInt64)))), (9, .long ((((dq5 (y0q + jq)).toInt64) * ((nI (gcnt dq5 y0q)).toInt64)) - (sumL (nuF dq5 y0q) (gcnt dq5 y0q)))), (8, .int (nI ((y0q + jq) % lfq))), (0, .ref (gad G 11)), (1, .int (nI rq)), (2, .int (nI y0q)), (3, .long 0), (5, .long (sumL (nuF dq5 y0q) (gcnt dq5 y0q)))]) dX10_findHeld_282 8 rfl (nI_inc _) (by decide) rfl ?_
                            refine r_goto o (tgt := 128) dX10_findHeld_285 (by decide) ?_
                            exact r_to rfl [4, 5, 6, 7, 8, 0] rfl (ih128 (jq + 1) (sti (sti ρq 11 16 (nI ((lkS (yeF dq5 y0q) (gcnt dq5 y0q) lfq (nuF dq5 y0q) dq5 y0q jq).2 + (i2q ((dq5 (y0q + jq)).toInt64 * (nI (gcnt dq5 y0q)).toInt64 - sumL (nuF dq5 y0q) (gcnt dq5 y0q)) (hsum (yeF dq5 y0q) lfq ((y0q + jq) % lfq) (nuF dq5 y0q) (gcnt dq5 y0q) * (nI (gcnt dq5 y0q)).toInt64 - sumL (nuF dq5 y0q) (gcnt dq5 y0q) * (nI (cntR (yeF dq5 y0q) lfq ((y0q + jq) % lfq) (gcnt dq5 y0q))).toInt64))))) 11 15 (nI ((lkS (yeF dq5 y0q) (gcnt dq5 y0q) lfq (nuF dq5 y0q) dq5 y0q jq).1 + (i1q ((dq5 (y0q + jq)).toInt64 * (nI (gcnt dq5 y0q)).toInt64 - sumL (nuF dq5 y0q) (gcnt dq5 y0q)) (hsum (yeF dq5 y0q) lfq ((y0q + jq) % lfq) (nuF dq5 y0q) (gcnt dq5 y0q) * (nI (gcnt dq5 y0q)).toInt64 - sumL (nuF dq5 y0q) (gcnt dq5 y0q) * (nI (cntR (yeF dq5 y0q) lfq ((y0q + jq) % lfq) (gcnt dq5 y0q))).toInt64))))) (by omega) (nm_f (nm_f hnr 16 (Or.inr (Or.inr rfl)) _) 15 (Or.inr (Or.inl rfl)) _) (fun rq hr => hhr rq hr) (st_f (st_f hr14 (by decide)) (by decide)) (by rw [sti_eq, hst]) (by rw [st_f sti_eq (by decide), hst]) (by omega))
                          · skip
                            rw [lg_cmp_ge] at hb263
                            refine r_lload o dX10_findHeld_266 0 rfl ?_
                            refine r_lconst o (v := 0) dX10_findHeld_268 rfl ?_
                            refine r_lcmp o dX10_findHeld_269 ?_
                            refine r_if_ge o (tgt := 277) dX10_findHeld_270 (by decide) (fun hb270 => ?_) (fun hb270 => ?_)
                            · skip
                              rw [lg_cmp_ge] at hb270
                              refine r_iconst o (v := nI 0) dX10_findHeld_277 (by decide) ?_
                              refine r_topi (y := nI (i1q ((dq5 (y0q + jq)).toInt64 * (nI (gcnt dq5 y0q)).toInt64 - sumL (nuF dq5 y0q) (gcnt dq5 y0q)) (hsum (yeF dq5 y0q) lfq ((y0q + jq) % lfq) (nuF dq5 y0q) (gcnt dq5 y0q) * (nI (gcnt dq5 y0q)).toInt64 - sumL (nuF dq5 y0q) (gcnt dq5 y0q) * (nI (cntR (yeF dq5 y0q) lfq ((y0q + jq) % lfq) (gcnt dq5 y0q))).toInt64))) (by unfold i1q; first | (rw [if_pos (Or.inl ⟨l_nle.mp hb249, hb256⟩)]; done) | (rw [if_pos (Or.inr ⟨l_nle.mp hb263, l_nle.mp hb270⟩)]; done) | (rw [if_neg (fun zq => zq.elim (fun z1 => by first | exact l_nle.mpr z1.1 hb249 | exact hb256 z1.2) (fun z1 => by first | exact l_nle.mpr z1.1 hb263 | exact l_nle.mpr z1.2 hb270))]; done)) ?_
                              refine r_iadd o dX10_findHeld_278 ?_
                              refine r_topi (y := nI ((lkS (yeF dq5 y0q) (gcnt dq5 y0q) lfq (nuF dq5 y0q) dq5 y0q jq).1 + (i1q ((dq5 (y0q + jq)).toInt64 * (nI (gcnt dq5 y0q)).toInt64 - sumL (nuF dq5 y0q) (gcnt dq5 y0q)) (hsum (yeF dq5 y0q) lfq ((y0q + jq) % lfq) (nuF dq5 y0q) (gcnt dq5 y0q) * (nI (gcnt dq5 y0q)).toInt64 - sumL (nuF dq5 y0q) (gcnt dq5 y0q) * (nI (cntR (yeF dq5 y0q) lfq ((y0q + jq) % lfq) (gcnt dq5 y0q))).toInt64)))) (nI_add' _ _) ?_
                              refine pf_11_15 o mw_713 dX10_findHeld_279 ?_
                              refine r_iinc o (v := nI (y0q + jq + 1)) (lv' := [(7, .int (nI (y0q + jq + 1))), (11, .long (((hsum (yeF dq5 y0q) lfq ((y0q + jq) % lfq) (nuF dq5 y0q) (gcnt dq5 y0q)) * ((nI (gcnt dq5 y0q)).toInt64)) - ((sumL (nuF dq5 y0q) (gcnt dq5 y0q)) * ((nI (cntR (yeF dq5 y0q) lfq ((y0q + jq) % lfq) (gcnt dq5 y0q))).toInt64)))), (9, .long ((((dq5 (y0q + jq)).toInt64) * ((nI (gcnt dq5 y0q)).toInt64)) - (sumL (nuF dq5 y0q) (gcnt dq5 y0q)))), (8, .int (nI ((y0q + jq) % lfq))), (0, .ref (gad G 11)), (1, .int (nI rq)), (2, .int (nI y0q)), (3, .long 0), (5, .long (sumL (nuF dq5 y0q) (gcnt dq5 y0q)))]) dX10_findHeld_282 8 rfl (nI_inc _) (by decide) rfl ?_
                              refine r_goto o (tgt := 128) dX10_findHeld_285 (by decide) ?_
                              exact r_to rfl [4, 5, 6, 7, 8, 0] rfl (ih128 (jq + 1) (sti (sti ρq 11 16 (nI ((lkS (yeF dq5 y0q) (gcnt dq5 y0q) lfq (nuF dq5 y0q) dq5 y0q jq).2 + (i2q ((dq5 (y0q + jq)).toInt64 * (nI (gcnt dq5 y0q)).toInt64 - sumL (nuF dq5 y0q) (gcnt dq5 y0q)) (hsum (yeF dq5 y0q) lfq ((y0q + jq) % lfq) (nuF dq5 y0q) (gcnt dq5 y0q) * (nI (gcnt dq5 y0q)).toInt64 - sumL (nuF dq5 y0q) (gcnt dq5 y0q) * (nI (cntR (yeF dq5 y0q) lfq ((y0q + jq) % lfq) (gcnt dq5 y0q))).toInt64))))) 11 15 (nI ((lkS (yeF dq5 y0q) (gcnt dq5 y0q) lfq (nuF dq5 y0q) dq5 y0q jq).1 + (i1q ((dq5 (y0q + jq)).toInt64 * (nI (gcnt dq5 y0q)).toInt64 - sumL (nuF dq5 y0q) (gcnt dq5 y0q)) (hsum (yeF dq5 y0q) lfq ((y0q + jq) % lfq) (nuF dq5 y0q) (gcnt dq5 y0q) * (nI (gcnt dq5 y0q)).toInt64 - sumL (nuF dq5 y0q) (gcnt dq5 y0q) * (nI (cntR (yeF dq5 y0q) lfq ((y0q + jq) % lfq) (gcnt dq5 y0q))).toInt64))))) (by omega) (nm_f (nm_f hnr 16 (Or.inr (Or.inr rfl)) _) 15 (Or.inr (Or.inl rfl)) _) (fun rq hr => hhr rq hr) (st_f (st_f hr14 (by decide)) (by decide)) (by rw [sti_eq, hst]) (by rw [st_f sti_eq (by decide), hst]) (by omega))
                            · skip
                              rw [lg_cmp_ge] at hb270
                              refine r_iconst o (v := nI 1) dX10_findHeld_273 (by decide) ?_
                              refine r_goto o (tgt := 278) dX10_findHeld_274 (by decide) ?_
                              refine r_topi (y := nI (i1q ((dq5 (y0q + jq)).toInt64 * (nI (gcnt dq5 y0q)).toInt64 - sumL (nuF dq5 y0q) (gcnt dq5 y0q)) (hsum (yeF dq5 y0q) lfq ((y0q + jq) % lfq) (nuF dq5 y0q) (gcnt dq5 y0q) * (nI (gcnt dq5 y0q)).toInt64 - sumL (nuF dq5 y0q) (gcnt dq5 y0q) * (nI (cntR (yeF dq5 y0q) lfq ((y0q + jq) % lfq) (gcnt dq5 y0q))).toInt64))) (by unfold i1q; first | (rw [if_pos (Or.inl ⟨l_nle.mp hb249, hb256⟩)]; done) | (rw [if_pos (Or.inr ⟨l_nle.mp hb263, l_nle.mp hb270⟩)]; done) | (rw [if_neg (fun zq => zq.elim (fun z1 => by first | exact l_nle.mpr z1.1 hb249 | exact hb256 z1.2) (fun z1 => by first | exact l_nle.mpr z1.1 hb263 | exact l_nle.mpr z1.2 hb270))]; done)) ?_
                              refine r_iadd o dX10_findHeld_278 ?_
                              refine r_topi (y := nI ((lkS (yeF dq5 y0q) (gcnt dq5 y0q) lfq (nuF dq5 y0q) dq5 y0q jq).1 + (i1q ((dq5 (y0q + jq)).toInt64 * (nI (gcnt dq5 y0q)).toInt64 - sumL (nuF dq5 y0q) (gcnt dq5 y0q)) (hsum (yeF dq5 y0q) lfq ((y0q + jq) % lfq) (nuF dq5 y0q) (gcnt dq5 y0q) * (nI (gcnt dq5 y0q)).toInt64 - sumL (nuF dq5 y0q) (gcnt dq5 y0q) * (nI (cntR (yeF dq5 y0q) lfq ((y0q + jq) % lfq) (gcnt dq5 y0q))).toInt64)))) (nI_add' _ _) ?_
                              refine pf_11_15 o mw_713 dX10_findHeld_279 ?_
                              refine r_iinc o (v := nI (y0q + jq + 1)) (lv' := [(7, .int (nI (y0q + jq + 1))), (11, .long (((hsum (yeF dq5 y0q) lfq ((y0q + jq) % lfq) (nuF dq5 y0q) (gcnt dq5 y0q)) * ((nI (gcnt dq5 y0q)).toInt64)) - ((sumL (nuF dq5 y0q) (gcnt dq5 y0q)) * ((nI (cntR (yeF dq5 y0q) lfq ((y0q + jq) % lfq) (gcnt dq5 y0q))).toInt64)))), (9, .long ((((dq5 (y0q + jq)).toInt64) * ((nI (gcnt dq5 y0q)).toInt64)) - (sumL (nuF dq5 y0q) (gcnt dq5 y0q)))), (8, .int (nI ((y0q + jq) % lfq))), (0, .ref (gad G 11)), (1, .int (nI rq)), (2, .int (nI y0q)), (3, .long 0), (5, .long (sumL (nuF dq5 y0q) (gcnt dq5 y0q)))]) dX10_findHeld_282 8 rfl (nI_inc _) (by decide) rfl ?_
                              refine r_goto o (tgt := 128) dX10_findHeld_285 (by decide) ?_
                              exact r_to rfl [4, 5, 6, 7, 8, 0] rfl (ih128 (jq + 1) (sti (sti ρq 11 16 (nI ((lkS (yeF dq5 y0q) (gcnt dq5 y0q) lfq (nuF dq5 y0q) dq5 y0q jq).2 + (i2q ((dq5 (y0q + jq)).toInt64 * (nI (gcnt dq5 y0q)).toInt64 - sumL (nuF dq5 y0q) (gcnt dq5 y0q)) (hsum (yeF dq5 y0q) lfq ((y0q + jq) % lfq) (nuF dq5 y0q) (gcnt dq5 y0q) * (nI (gcnt dq5 y0q)).toInt64 - sumL (nuF dq5 y0q) (gcnt dq5 y0q) * (nI (cntR (yeF dq5 y0q) lfq ((y0q + jq) % lfq) (gcnt dq5 y0q))).toInt64))))) 11 15 (nI ((lkS (yeF dq5 y0q) (gcnt dq5 y0q) lfq (nuF dq5 y0q) dq5 y0q jq).1 + (i1q ((dq5 (y0q + jq)).toInt64 * (nI (gcnt dq5 y0q)).toInt64 - sumL (nuF dq5 y0q) (gcnt dq5 y0q)) (hsum (yeF dq5 y0q) lfq ((y0q + jq) % lfq) (nuF dq5 y0q) (gcnt dq5 y0q) * (nI (gcnt dq5 y0q)).toInt64 - sumL (nuF dq5 y0q) (gcnt dq5 y0q) * (nI (cntR (yeF dq5 y0q) lfq ((y0q + jq) % lfq) (gcnt dq5 y0q))).toInt64))))) (by omega) (nm_f (nm_f hnr 16 (Or.inr (Or.inr rfl)) _) 15 (Or.inr (Or.inl rfl)) _) (fun rq hr => hhr rq hr) (st_f (st_f hr14 (by decide)) (by decide)) (by rw [sti_eq, hst]) (by rw [st_f sti_eq (by decide), hst]) (by omega))
                    · skip
                      rw [lg_cmp_eq] at hb228
                      refine r_iconst o (v := nI 1) dX10_findHeld_231 (by decide) ?_
                      refine r_goto o (tgt := 236) dX10_findHeld_232 (by decide) ?_
                      refine r_topi (y := nI (i2q ((dq5 (y0q + jq)).toInt64 * (nI (gcnt dq5 y0q)).toInt64 - sumL (nuF dq5 y0q) (gcnt dq5 y0q)) (hsum (yeF dq5 y0q) lfq ((y0q + jq) % lfq) (nuF dq5 y0q) (gcnt dq5 y0q) * (nI (gcnt dq5 y0q)).toInt64 - sumL (nuF dq5 y0q) (gcnt dq5 y0q) * (nI (cntR (yeF dq5 y0q) lfq ((y0q + jq) % lfq) (gcnt dq5 y0q))).toInt64))) (by unfold i2q; first | (rw [if_pos hb221]; done) | (rw [if_neg hb221, if_pos hb228]; done) | (rw [if_neg hb221, if_neg hb228]; done)) ?_
                      refine r_iadd o dX10_findHeld_236 ?_
                      refine r_topi (y := nI ((lkS (yeF dq5 y0q) (gcnt dq5 y0q) lfq (nuF dq5 y0q) dq5 y0q jq).2 + (i2q ((dq5 (y0q + jq)).toInt64 * (nI (gcnt dq5 y0q)).toInt64 - sumL (nuF dq5 y0q) (gcnt dq5 y0q)) (hsum (yeF dq5 y0q) lfq ((y0q + jq) % lfq) (nuF dq5 y0q) (gcnt dq5 y0q) * (nI (gcnt dq5 y0q)).toInt64 - sumL (nuF dq5 y0q) (gcnt dq5 y0q) * (nI (cntR (yeF dq5 y0q) lfq ((y0q + jq) % lfq) (gcnt dq5 y0q))).toInt64)))) (nI_add' _ _) ?_
                      refine pf_11_16 o mw_714 dX10_findHeld_237 ?_
                      refine r_aload_n o dX10_findHeld_240 3 rfl ?_
                      refine r_dup o dX10_findHeld_241 rfl ?_
                      refine gf_11_15 (σ := sti ρq 11 16 (nI ((lkS (yeF dq5 y0q) (gcnt dq5 y0q) lfq (nuF dq5 y0q) dq5 y0q jq).2 + (i2q ((dq5 (y0q + jq)).toInt64 * (nI (gcnt dq5 y0q)).toInt64 - sumL (nuF dq5 y0q) (gcnt dq5 y0q)) (hsum (yeF dq5 y0q) lfq ((y0q + jq) % lfq) (nuF dq5 y0q) (gcnt dq5 y0q) * (nI (gcnt dq5 y0q)).toInt64 - sumL (nuF dq5 y0q) (gcnt dq5 y0q) * (nI (cntR (yeF dq5 y0q) lfq ((y0q + jq) % lfq) (gcnt dq5 y0q))).toInt64))))) o (v := nI ((lkS (yeF dq5 y0q) (gcnt dq5 y0q) lfq (nuF dq5 y0q) dq5 y0q jq).1)) hr15 mw_713 dX10_findHeld_242 ?_
                      refine r_lload o dX10_findHeld_245 1 rfl ?_
                      refine r_lconst o (v := 0) dX10_findHeld_247 rfl ?_
                      refine r_lcmp o dX10_findHeld_248 ?_
                      refine r_if_le o (tgt := 259) dX10_findHeld_249 (by decide) (fun hb249 => ?_) (fun hb249 => ?_)
                      · skip
                        rw [lg_cmp_le] at hb249
                        refine r_lload o dX10_findHeld_259 1 rfl ?_
                        refine r_lconst o (v := 0) dX10_findHeld_261 rfl ?_
                        refine r_lcmp o dX10_findHeld_262 ?_
                        refine r_if_ge o (tgt := 277) dX10_findHeld_263 (by decide) (fun hb263 => ?_) (fun hb263 => ?_)
                        · skip
                          rw [lg_cmp_ge] at hb263
                          refine r_iconst o (v := nI 0) dX10_findHeld_277 (by decide) ?_
                          refine r_topi (y := nI (i1q ((dq5 (y0q + jq)).toInt64 * (nI (gcnt dq5 y0q)).toInt64 - sumL (nuF dq5 y0q) (gcnt dq5 y0q)) (hsum (yeF dq5 y0q) lfq ((y0q + jq) % lfq) (nuF dq5 y0q) (gcnt dq5 y0q) * (nI (gcnt dq5 y0q)).toInt64 - sumL (nuF dq5 y0q) (gcnt dq5 y0q) * (nI (cntR (yeF dq5 y0q) lfq ((y0q + jq) % lfq) (gcnt dq5 y0q))).toInt64))) (by unfold i1q; first | (rw [if_pos (Or.inl ⟨l_nle.mp hb249, hb256⟩)]; done) | (rw [if_pos (Or.inr ⟨l_nle.mp hb263, l_nle.mp hb270⟩)]; done) | (rw [if_neg (fun zq => zq.elim (fun z1 => by first | exact l_nle.mpr z1.1 hb249 | exact hb256 z1.2) (fun z1 => by first | exact l_nle.mpr z1.1 hb263 | exact l_nle.mpr z1.2 hb270))]; done)) ?_
                          refine r_iadd o dX10_findHeld_278 ?_
                          refine r_topi (y := nI ((lkS (yeF dq5 y0q) (gcnt dq5 y0q) lfq (nuF dq5 y0q) dq5 y0q jq).1 + (i1q ((dq5 (y0q + jq)).toInt64 * (nI (gcnt dq5 y0q)).toInt64 - sumL (nuF dq5 y0q) (gcnt dq5 y0q)) (hsum (yeF dq5 y0q) lfq ((y0q + jq) % lfq) (nuF dq5 y0q) (gcnt dq5 y0q) * (nI (gcnt dq5 y0q)).toInt64 - sumL (nuF dq5 y0q) (gcnt dq5 y0q) * (nI (cntR (yeF dq5 y0q) lfq ((y0q + jq) % lfq) (gcnt dq5 y0q))).toInt64)))) (nI_add' _ _) ?_
                          refine pf_11_15 o mw_713 dX10_findHeld_279 ?_
                          refine r_iinc o (v := nI (y0q + jq + 1)) (lv' := [(7, .int (nI (y0q + jq + 1))), (11, .long (((hsum (yeF dq5 y0q) lfq ((y0q + jq) % lfq) (nuF dq5 y0q) (gcnt dq5 y0q)) * ((nI (gcnt dq5 y0q)).toInt64)) - ((sumL (nuF dq5 y0q) (gcnt dq5 y0q)) * ((nI (cntR (yeF dq5 y0q) lfq ((y0q + jq) % lfq) (gcnt dq5 y0q))).toInt64)))), (9, .long ((((dq5 (y0q + jq)).toInt64) * ((nI (gcnt dq5 y0q)).toInt64)) - (sumL (nuF dq5 y0q) (gcnt dq5 y0q)))), (8, .int (nI ((y0q + jq) % lfq))), (0, .ref (gad G 11)), (1, .int (nI rq)), (2, .int (nI y0q)), (3, .long 0), (5, .long (sumL (nuF dq5 y0q) (gcnt dq5 y0q)))]) dX10_findHeld_282 8 rfl (nI_inc _) (by decide) rfl ?_
                          refine r_goto o (tgt := 128) dX10_findHeld_285 (by decide) ?_
                          exact r_to rfl [4, 5, 6, 7, 8, 0] rfl (ih128 (jq + 1) (sti (sti ρq 11 16 (nI ((lkS (yeF dq5 y0q) (gcnt dq5 y0q) lfq (nuF dq5 y0q) dq5 y0q jq).2 + (i2q ((dq5 (y0q + jq)).toInt64 * (nI (gcnt dq5 y0q)).toInt64 - sumL (nuF dq5 y0q) (gcnt dq5 y0q)) (hsum (yeF dq5 y0q) lfq ((y0q + jq) % lfq) (nuF dq5 y0q) (gcnt dq5 y0q) * (nI (gcnt dq5 y0q)).toInt64 - sumL (nuF dq5 y0q) (gcnt dq5 y0q) * (nI (cntR (yeF dq5 y0q) lfq ((y0q + jq) % lfq) (gcnt dq5 y0q))).toInt64))))) 11 15 (nI ((lkS (yeF dq5 y0q) (gcnt dq5 y0q) lfq (nuF dq5 y0q) dq5 y0q jq).1 + (i1q ((dq5 (y0q + jq)).toInt64 * (nI (gcnt dq5 y0q)).toInt64 - sumL (nuF dq5 y0q) (gcnt dq5 y0q)) (hsum (yeF dq5 y0q) lfq ((y0q + jq) % lfq) (nuF dq5 y0q) (gcnt dq5 y0q) * (nI (gcnt dq5 y0q)).toInt64 - sumL (nuF dq5 y0q) (gcnt dq5 y0q) * (nI (cntR (yeF dq5 y0q) lfq ((y0q + jq) % lfq) (gcnt dq5 y0q))).toInt64))))) (by omega) (nm_f (nm_f hnr 16 (Or.inr (Or.inr rfl)) _) 15 (Or.inr (Or.inl rfl)) _) (fun rq hr => hhr rq hr) (st_f (st_f hr14 (by decide)) (by decide)) (by rw [sti_eq, hst]) (by rw [st_f sti_eq (by decide), hst]) (by omega))
                        · skip
                          rw [lg_cmp_ge] at hb263
                          refine r_lload o dX10_findHeld_266 0 rfl ?_
                          refine r_lconst o (v := 0) dX10_findHeld_268 rfl ?_
                          refine r_lcmp o dX10_findHeld_269 ?_
                          refine r_if_ge o (tgt := 277) dX10_findHeld_270 (by decide) (fun hb270 => ?_) (fun hb270 => ?_)
                          · skip
                            rw [lg_cmp_ge] at hb270
                            refine r_iconst o (v := nI 0) dX10_findHeld_277 (by decide) ?_
                            refine r_topi (y := nI (i1q ((dq5 (y0q + jq)).toInt64 * (nI (gcnt dq5 y0q)).toInt64 - sumL (nuF dq5 y0q) (gcnt dq5 y0q)) (hsum (yeF dq5 y0q) lfq ((y0q + jq) % lfq) (nuF dq5 y0q) (gcnt dq5 y0q) * (nI (gcnt dq5 y0q)).toInt64 - sumL (nuF dq5 y0q) (gcnt dq5 y0q) * (nI (cntR (yeF dq5 y0q) lfq ((y0q + jq) % lfq) (gcnt dq5 y0q))).toInt64))) (by unfold i1q; first | (rw [if_pos (Or.inl ⟨l_nle.mp hb249, hb256⟩)]; done) | (rw [if_pos (Or.inr ⟨l_nle.mp hb263, l_nle.mp hb270⟩)]; done) | (rw [if_neg (fun zq => zq.elim (fun z1 => by first | exact l_nle.mpr z1.1 hb249 | exact hb256 z1.2) (fun z1 => by first | exact l_nle.mpr z1.1 hb263 | exact l_nle.mpr z1.2 hb270))]; done)) ?_
                            refine r_iadd o dX10_findHeld_278 ?_
                            refine r_topi (y := nI ((lkS (yeF dq5 y0q) (gcnt dq5 y0q) lfq (nuF dq5 y0q) dq5 y0q jq).1 + (i1q ((dq5 (y0q + jq)).toInt64 * (nI (gcnt dq5 y0q)).toInt64 - sumL (nuF dq5 y0q) (gcnt dq5 y0q)) (hsum (yeF dq5 y0q) lfq ((y0q + jq) % lfq) (nuF dq5 y0q) (gcnt dq5 y0q) * (nI (gcnt dq5 y0q)).toInt64 - sumL (nuF dq5 y0q) (gcnt dq5 y0q) * (nI (cntR (yeF dq5 y0q) lfq ((y0q + jq) % lfq) (gcnt dq5 y0q))).toInt64)))) (nI_add' _ _) ?_
                            refine pf_11_15 o mw_713 dX10_findHeld_279 ?_
                            refine r_iinc o (v := nI (y0q + jq + 1)) (lv' := [(7, .int (nI (y0q + jq + 1))), (11, .long (((hsum (yeF dq5 y0q) lfq ((y0q + jq) % lfq) (nuF dq5 y0q) (gcnt dq5 y0q)) * ((nI (gcnt dq5 y0q)).toInt64)) - ((sumL (nuF dq5 y0q) (gcnt dq5 y0q)) * ((nI (cntR (yeF dq5 y0q) lfq ((y0q + jq) % lfq) (gcnt dq5 y0q))).toInt64)))), (9, .long ((((dq5 (y0q + jq)).toInt64) * ((nI (gcnt dq5 y0q)).toInt64)) - (sumL (nuF dq5 y0q) (gcnt dq5 y0q)))), (8, .int (nI ((y0q + jq) % lfq))), (0, .ref (gad G 11)), (1, .int (nI rq)), (2, .int (nI y0q)), (3, .long 0), (5, .long (sumL (nuF dq5 y0q) (gcnt dq5 y0q)))]) dX10_findHeld_282 8 rfl (nI_inc _) (by decide) rfl ?_
                            refine r_goto o (tgt := 128) dX10_findHeld_285 (by decide) ?_
                            exact r_to rfl [4, 5, 6, 7, 8, 0] rfl (ih128 (jq + 1) (sti (sti ρq 11 16 (nI ((lkS (yeF dq5 y0q) (gcnt dq5 y0q) lfq (nuF dq5 y0q) dq5 y0q jq).2 + (i2q ((dq5 (y0q + jq)).toInt64 * (nI (gcnt dq5 y0q)).toInt64 - sumL (nuF dq5 y0q) (gcnt dq5 y0q)) (hsum (yeF dq5 y0q) lfq ((y0q + jq) % lfq) (nuF dq5 y0q) (gcnt dq5 y0q) * (nI (gcnt dq5 y0q)).toInt64 - sumL (nuF dq5 y0q) (gcnt dq5 y0q) * (nI (cntR (yeF dq5 y0q) lfq ((y0q + jq) % lfq) (gcnt dq5 y0q))).toInt64))))) 11 15 (nI ((lkS (yeF dq5 y0q) (gcnt dq5 y0q) lfq (nuF dq5 y0q) dq5 y0q jq).1 + (i1q ((dq5 (y0q + jq)).toInt64 * (nI (gcnt dq5 y0q)).toInt64 - sumL (nuF dq5 y0q) (gcnt dq5 y0q)) (hsum (yeF dq5 y0q) lfq ((y0q + jq) % lfq) (nuF dq5 y0q) (gcnt dq5 y0q) * (nI (gcnt dq5 y0q)).toInt64 - sumL (nuF dq5 y0q) (gcnt dq5 y0q) * (nI (cntR (yeF dq5 y0q) lfq ((y0q + jq) % lfq) (gcnt dq5 y0q))).toInt64))))) (by omega) (nm_f (nm_f hnr 16 (Or.inr (Or.inr rfl)) _) 15 (Or.inr (Or.inl rfl)) _) (fun rq hr => hhr rq hr) (st_f (st_f hr14 (by decide)) (by decide)) (by rw [sti_eq, hst]) (by rw [st_f sti_eq (by decide), hst]) (by omega))
                          · skip
                            rw [lg_cmp_ge] at hb270
                            refine r_iconst o (v := nI 1) dX10_findHeld_273 (by decide) ?_
                            refine r_goto o (tgt := 278) dX10_findHeld_274 (by decide) ?_
                            refine r_topi (y := nI (i1q ((dq5 (y0q + jq)).toInt64 * (nI (gcnt dq5 y0q)).toInt64 - sumL (nuF dq5 y0q) (gcnt dq5 y0q)) (hsum (yeF dq5 y0q) lfq ((y0q + jq) % lfq) (nuF dq5 y0q) (gcnt dq5 y0q) * (nI (gcnt dq5 y0q)).toInt64 - sumL (nuF dq5 y0q) (gcnt dq5 y0q) * (nI (cntR (yeF dq5 y0q) lfq ((y0q + jq) % lfq) (gcnt dq5 y0q))).toInt64))) (by unfold i1q; first | (rw [if_pos (Or.inl ⟨l_nle.mp hb249, hb256⟩)]; done) | (rw [if_pos (Or.inr ⟨l_nle.mp hb263, l_nle.mp hb270⟩)]; done) | (rw [if_neg (fun zq => zq.elim (fun z1 => by first | exact l_nle.mpr z1.1 hb249 | exact hb256 z1.2) (fun z1 => by first | exact l_nle.mpr z1.1 hb263 | exact l_nle.mpr z1.2 hb270))]; done)) ?_
                            refine r_iadd o dX10_findHeld_278 ?_
                            refine r_topi (y := nI ((lkS (yeF dq5 y0q) (gcnt dq5 y0q) lfq (nuF dq5 y0q) dq5 y0q jq).1 + (i1q ((dq5 (y0q + jq)).toInt64 * (nI (gcnt dq5 y0q)).toInt64 - sumL (nuF dq5 y0q) (gcnt dq5 y0q)) (hsum (yeF dq5 y0q) lfq ((y0q + jq) % lfq) (nuF dq5 y0q) (gcnt dq5 y0q) * (nI (gcnt dq5 y0q)).toInt64 - sumL (nuF dq5 y0q) (gcnt dq5 y0q) * (nI (cntR (yeF dq5 y0q) lfq ((y0q + jq) % lfq) (gcnt dq5 y0q))).toInt64)))) (nI_add' _ _) ?_
                            refine pf_11_15 o mw_713 dX10_findHeld_279 ?_
                            refine r_iinc o (v := nI (y0q + jq + 1)) (lv' := [(7, .int (nI (y0q + jq + 1))), (11, .long (((hsum (yeF dq5 y0q) lfq ((y0q + jq) % lfq) (nuF dq5 y0q) (gcnt dq5 y0q)) * ((nI (gcnt dq5 y0q)).toInt64)) - ((sumL (nuF dq5 y0q) (gcnt dq5 y0q)) * ((nI (cntR (yeF dq5 y0q) lfq ((y0q + jq) % lfq) (gcnt dq5 y0q))).toInt64)))), (9, .long ((((dq5 (y0q + jq)).toInt64) * ((nI (gcnt dq5 y0q)).toInt64)) - (sumL (nuF dq5 y0q) (gcnt dq5 y0q)))), (8, .int (nI ((y0q + jq) % lfq))), (0, .ref (gad G 11)), (1, .int (nI rq)), (2, .int (nI y0q)), (3, .long 0), (5, .long (sumL (nuF dq5 y0q) (gcnt dq5 y0q)))]) dX10_findHeld_282 8 rfl (nI_inc _) (by decide) rfl ?_
                            refine r_goto o (tgt := 128) dX10_findHeld_285 (by decide) ?_
                            exact r_to rfl [4, 5, 6, 7, 8, 0] rfl (ih128 (jq + 1) (sti (sti ρq 11 16 (nI ((lkS (yeF dq5 y0q) (gcnt dq5 y0q) lfq (nuF dq5 y0q) dq5 y0q jq).2 + (i2q ((dq5 (y0q + jq)).toInt64 * (nI (gcnt dq5 y0q)).toInt64 - sumL (nuF dq5 y0q) (gcnt dq5 y0q)) (hsum (yeF dq5 y0q) lfq ((y0q + jq) % lfq) (nuF dq5 y0q) (gcnt dq5 y0q) * (nI (gcnt dq5 y0q)).toInt64 - sumL (nuF dq5 y0q) (gcnt dq5 y0q) * (nI (cntR (yeF dq5 y0q) lfq ((y0q + jq) % lfq) (gcnt dq5 y0q))).toInt64))))) 11 15 (nI ((lkS (yeF dq5 y0q) (gcnt dq5 y0q) lfq (nuF dq5 y0q) dq5 y0q jq).1 + (i1q ((dq5 (y0q + jq)).toInt64 * (nI (gcnt dq5 y0q)).toInt64 - sumL (nuF dq5 y0q) (gcnt dq5 y0q)) (hsum (yeF dq5 y0q) lfq ((y0q + jq) % lfq) (nuF dq5 y0q) (gcnt dq5 y0q) * (nI (gcnt dq5 y0q)).toInt64 - sumL (nuF dq5 y0q) (gcnt dq5 y0q) * (nI (cntR (yeF dq5 y0q) lfq ((y0q + jq) % lfq) (gcnt dq5 y0q))).toInt64))))) (by omega) (nm_f (nm_f hnr 16 (Or.inr (Or.inr rfl)) _) 15 (Or.inr (Or.inl rfl)) _) (fun rq hr => hhr rq hr) (st_f (st_f hr14 (by decide)) (by decide)) (by rw [sti_eq, hst]) (by rw [st_f sti_eq (by decide), hst]) (by omega))
                      · skip
                        rw [lg_cmp_le] at hb249
                        refine r_lload o dX10_findHeld_252 0 rfl ?_
                        refine r_lconst o (v := 0) dX10_findHeld_254 rfl ?_
                        refine r_lcmp o dX10_findHeld_255 ?_
                        refine r_if_gt o (tgt := 273) dX10_findHeld_256 (by decide) (fun hb256 => ?_) (fun hb256 => ?_)
                        · skip
                          rw [lg_cmp_gt] at hb256
                          refine r_iconst o (v := nI 1) dX10_findHeld_273 (by decide) ?_
                          refine r_goto o (tgt := 278) dX10_findHeld_274 (by decide) ?_
                          refine r_topi (y := nI (i1q ((dq5 (y0q + jq)).toInt64 * (nI (gcnt dq5 y0q)).toInt64 - sumL (nuF dq5 y0q) (gcnt dq5 y0q)) (hsum (yeF dq5 y0q) lfq ((y0q + jq) % lfq) (nuF dq5 y0q) (gcnt dq5 y0q) * (nI (gcnt dq5 y0q)).toInt64 - sumL (nuF dq5 y0q) (gcnt dq5 y0q) * (nI (cntR (yeF dq5 y0q) lfq ((y0q + jq) % lfq) (gcnt dq5 y0q))).toInt64))) (by unfold i1q; first | (rw [if_pos (Or.inl ⟨l_nle.mp hb249, hb256⟩)]; done) | (rw [if_pos (Or.inr ⟨l_nle.mp hb263, l_nle.mp hb270⟩)]; done) | (rw [if_neg (fun zq => zq.elim (fun z1 => by first | exact l_nle.mpr z1.1 hb249 | exact hb256 z1.2) (fun z1 => by first | exact l_nle.mpr z1.1 hb263 | exact l_nle.mpr z1.2 hb270))]; done)) ?_
                          refine r_iadd o dX10_findHeld_278 ?_
                          refine r_topi (y := nI ((lkS (yeF dq5 y0q) (gcnt dq5 y0q) lfq (nuF dq5 y0q) dq5 y0q jq).1 + (i1q ((dq5 (y0q + jq)).toInt64 * (nI (gcnt dq5 y0q)).toInt64 - sumL (nuF dq5 y0q) (gcnt dq5 y0q)) (hsum (yeF dq5 y0q) lfq ((y0q + jq) % lfq) (nuF dq5 y0q) (gcnt dq5 y0q) * (nI (gcnt dq5 y0q)).toInt64 - sumL (nuF dq5 y0q) (gcnt dq5 y0q) * (nI (cntR (yeF dq5 y0q) lfq ((y0q + jq) % lfq) (gcnt dq5 y0q))).toInt64)))) (nI_add' _ _) ?_
                          refine pf_11_15 o mw_713 dX10_findHeld_279 ?_
                          refine r_iinc o (v := nI (y0q + jq + 1)) (lv' := [(7, .int (nI (y0q + jq + 1))), (11, .long (((hsum (yeF dq5 y0q) lfq ((y0q + jq) % lfq) (nuF dq5 y0q) (gcnt dq5 y0q)) * ((nI (gcnt dq5 y0q)).toInt64)) - ((sumL (nuF dq5 y0q) (gcnt dq5 y0q)) * ((nI (cntR (yeF dq5 y0q) lfq ((y0q + jq) % lfq) (gcnt dq5 y0q))).toInt64)))), (9, .long ((((dq5 (y0q + jq)).toInt64) * ((nI (gcnt dq5 y0q)).toInt64)) - (sumL (nuF dq5 y0q) (gcnt dq5 y0q)))), (8, .int (nI ((y0q + jq) % lfq))), (0, .ref (gad G 11)), (1, .int (nI rq)), (2, .int (nI y0q)), (3, .long 0), (5, .long (sumL (nuF dq5 y0q) (gcnt dq5 y0q)))]) dX10_findHeld_282 8 rfl (nI_inc _) (by decide) rfl ?_
                          refine r_goto o (tgt := 128) dX10_findHeld_285 (by decide) ?_
                          exact r_to rfl [4, 5, 6, 7, 8, 0] rfl (ih128 (jq + 1) (sti (sti ρq 11 16 (nI ((lkS (yeF dq5 y0q) (gcnt dq5 y0q) lfq (nuF dq5 y0q) dq5 y0q jq).2 + (i2q ((dq5 (y0q + jq)).toInt64 * (nI (gcnt dq5 y0q)).toInt64 - sumL (nuF dq5 y0q) (gcnt dq5 y0q)) (hsum (yeF dq5 y0q) lfq ((y0q + jq) % lfq) (nuF dq5 y0q) (gcnt dq5 y0q) * (nI (gcnt dq5 y0q)).toInt64 - sumL (nuF dq5 y0q) (gcnt dq5 y0q) * (nI (cntR (yeF dq5 y0q) lfq ((y0q + jq) % lfq) (gcnt dq5 y0q))).toInt64))))) 11 15 (nI ((lkS (yeF dq5 y0q) (gcnt dq5 y0q) lfq (nuF dq5 y0q) dq5 y0q jq).1 + (i1q ((dq5 (y0q + jq)).toInt64 * (nI (gcnt dq5 y0q)).toInt64 - sumL (nuF dq5 y0q) (gcnt dq5 y0q)) (hsum (yeF dq5 y0q) lfq ((y0q + jq) % lfq) (nuF dq5 y0q) (gcnt dq5 y0q) * (nI (gcnt dq5 y0q)).toInt64 - sumL (nuF dq5 y0q) (gcnt dq5 y0q) * (nI (cntR (yeF dq5 y0q) lfq ((y0q + jq) % lfq) (gcnt dq5 y0q))).toInt64))))) (by omega) (nm_f (nm_f hnr 16 (Or.inr (Or.inr rfl)) _) 15 (Or.inr (Or.inl rfl)) _) (fun rq hr => hhr rq hr) (st_f (st_f hr14 (by decide)) (by decide)) (by rw [sti_eq, hst]) (by rw [st_f sti_eq (by decide), hst]) (by omega))
                        · skip
                          rw [lg_cmp_gt] at hb256
                          refine r_lload o dX10_findHeld_259 1 rfl ?_
                          refine r_lconst o (v := 0) dX10_findHeld_261 rfl ?_
                          refine r_lcmp o dX10_findHeld_262 ?_
                          refine r_if_ge o (tgt := 277) dX10_findHeld_263 (by decide) (fun hb263 => ?_) (fun hb263 => ?_)
                          · skip
                            rw [lg_cmp_ge] at hb263
                            refine r_iconst o (v := nI 0) dX10_findHeld_277 (by decide) ?_
                            refine r_topi (y := nI (i1q ((dq5 (y0q + jq)).toInt64 * (nI (gcnt dq5 y0q)).toInt64 - sumL (nuF dq5 y0q) (gcnt dq5 y0q)) (hsum (yeF dq5 y0q) lfq ((y0q + jq) % lfq) (nuF dq5 y0q) (gcnt dq5 y0q) * (nI (gcnt dq5 y0q)).toInt64 - sumL (nuF dq5 y0q) (gcnt dq5 y0q) * (nI (cntR (yeF dq5 y0q) lfq ((y0q + jq) % lfq) (gcnt dq5 y0q))).toInt64))) (by unfold i1q; first | (rw [if_pos (Or.inl ⟨l_nle.mp hb249, hb256⟩)]; done) | (rw [if_pos (Or.inr ⟨l_nle.mp hb263, l_nle.mp hb270⟩)]; done) | (rw [if_neg (fun zq => zq.elim (fun z1 => by first | exact l_nle.mpr z1.1 hb249 | exact hb256 z1.2) (fun z1 => by first | exact l_nle.mpr z1.1 hb263 | exact l_nle.mpr z1.2 hb270))]; done)) ?_
                            refine r_iadd o dX10_findHeld_278 ?_
                            refine r_topi (y := nI ((lkS (yeF dq5 y0q) (gcnt dq5 y0q) lfq (nuF dq5 y0q) dq5 y0q jq).1 + (i1q ((dq5 (y0q + jq)).toInt64 * (nI (gcnt dq5 y0q)).toInt64 - sumL (nuF dq5 y0q) (gcnt dq5 y0q)) (hsum (yeF dq5 y0q) lfq ((y0q + jq) % lfq) (nuF dq5 y0q) (gcnt dq5 y0q) * (nI (gcnt dq5 y0q)).toInt64 - sumL (nuF dq5 y0q) (gcnt dq5 y0q) * (nI (cntR (yeF dq5 y0q) lfq ((y0q + jq) % lfq) (gcnt dq5 y0q))).toInt64)))) (nI_add' _ _) ?_
                            refine pf_11_15 o mw_713 dX10_findHeld_279 ?_
                            refine r_iinc o (v := nI (y0q + jq + 1)) (lv' := [(7, .int (nI (y0q + jq + 1))), (11, .long (((hsum (yeF dq5 y0q) lfq ((y0q + jq) % lfq) (nuF dq5 y0q) (gcnt dq5 y0q)) * ((nI (gcnt dq5 y0q)).toInt64)) - ((sumL (nuF dq5 y0q) (gcnt dq5 y0q)) * ((nI (cntR (yeF dq5 y0q) lfq ((y0q + jq) % lfq) (gcnt dq5 y0q))).toInt64)))), (9, .long ((((dq5 (y0q + jq)).toInt64) * ((nI (gcnt dq5 y0q)).toInt64)) - (sumL (nuF dq5 y0q) (gcnt dq5 y0q)))), (8, .int (nI ((y0q + jq) % lfq))), (0, .ref (gad G 11)), (1, .int (nI rq)), (2, .int (nI y0q)), (3, .long 0), (5, .long (sumL (nuF dq5 y0q) (gcnt dq5 y0q)))]) dX10_findHeld_282 8 rfl (nI_inc _) (by decide) rfl ?_
                            refine r_goto o (tgt := 128) dX10_findHeld_285 (by decide) ?_
                            exact r_to rfl [4, 5, 6, 7, 8, 0] rfl (ih128 (jq + 1) (sti (sti ρq 11 16 (nI ((lkS (yeF dq5 y0q) (gcnt dq5 y0q) lfq (nuF dq5 y0q) dq5 y0q jq).2 + (i2q ((dq5 (y0q + jq)).toInt64 * (nI (gcnt dq5 y0q)).toInt64 - sumL (nuF dq5 y0q) (gcnt dq5 y0q)) (hsum (yeF dq5 y0q) lfq ((y0q + jq) % lfq) (nuF dq5 y0q) (gcnt dq5 y0q) * (nI (gcnt dq5 y0q)).toInt64 - sumL (nuF dq5 y0q) (gcnt dq5 y0q) * (nI (cntR (yeF dq5 y0q) lfq ((y0q + jq) % lfq) (gcnt dq5 y0q))).toInt64))))) 11 15 (nI ((lkS (yeF dq5 y0q) (gcnt dq5 y0q) lfq (nuF dq5 y0q) dq5 y0q jq).1 + (i1q ((dq5 (y0q + jq)).toInt64 * (nI (gcnt dq5 y0q)).toInt64 - sumL (nuF dq5 y0q) (gcnt dq5 y0q)) (hsum (yeF dq5 y0q) lfq ((y0q + jq) % lfq) (nuF dq5 y0q) (gcnt dq5 y0q) * (nI (gcnt dq5 y0q)).toInt64 - sumL (nuF dq5 y0q) (gcnt dq5 y0q) * (nI (cntR (yeF dq5 y0q) lfq ((y0q + jq) % lfq) (gcnt dq5 y0q))).toInt64))))) (by omega) (nm_f (nm_f hnr 16 (Or.inr (Or.inr rfl)) _) 15 (Or.inr (Or.inl rfl)) _) (fun rq hr => hhr rq hr) (st_f (st_f hr14 (by decide)) (by decide)) (by rw [sti_eq, hst]) (by rw [st_f sti_eq (by decide), hst]) (by omega))
                          · skip
                            rw [lg_cmp_ge] at hb263
                            refine r_lload o dX10_findHeld_266 0 rfl ?_
                            refine r_lconst o (v := 0) dX10_findHeld_268 rfl ?_
                            refine r_lcmp o dX10_findHeld_269 ?_
                            refine r_if_ge o (tgt := 277) dX10_findHeld_270 (by decide) (fun hb270 => ?_) (fun hb270 => ?_)
                            · skip
                              rw [lg_cmp_ge] at hb270
                              refine r_iconst o (v := nI 0) dX10_findHeld_277 (by decide) ?_
                              refine r_topi (y := nI (i1q ((dq5 (y0q + jq)).toInt64 * (nI (gcnt dq5 y0q)).toInt64 - sumL (nuF dq5 y0q) (gcnt dq5 y0q)) (hsum (yeF dq5 y0q) lfq ((y0q + jq) % lfq) (nuF dq5 y0q) (gcnt dq5 y0q) * (nI (gcnt dq5 y0q)).toInt64 - sumL (nuF dq5 y0q) (gcnt dq5 y0q) * (nI (cntR (yeF dq5 y0q) lfq ((y0q + jq) % lfq) (gcnt dq5 y0q))).toInt64))) (by unfold i1q; first | (rw [if_pos (Or.inl ⟨l_nle.mp hb249, hb256⟩)]; done) | (rw [if_pos (Or.inr ⟨l_nle.mp hb263, l_nle.mp hb270⟩)]; done) | (rw [if_neg (fun zq => zq.elim (fun z1 => by first | exact l_nle.mpr z1.1 hb249 | exact hb256 z1.2) (fun z1 => by first | exact l_nle.mpr z1.1 hb263 | exact l_nle.mpr z1.2 hb270))]; done)) ?_
                              refine r_iadd o dX10_findHeld_278 ?_
                              refine r_topi (y := nI ((lkS (yeF dq5 y0q) (gcnt dq5 y0q) lfq (nuF dq5 y0q) dq5 y0q jq).1 + (i1q ((dq5 (y0q + jq)).toInt64 * (nI (gcnt dq5 y0q)).toInt64 - sumL (nuF dq5 y0q) (gcnt dq5 y0q)) (hsum (yeF dq5 y0q) lfq ((y0q + jq) % lfq) (nuF dq5 y0q) (gcnt dq5 y0q) * (nI (gcnt dq5 y0q)).toInt64 - sumL (nuF dq5 y0q) (gcnt dq5 y0q) * (nI (cntR (yeF dq5 y0q) lfq ((y0q + jq) % lfq) (gcnt dq5 y0q))).toInt64)))) (nI_add' _ _) ?_
                              refine pf_11_15 o mw_713 dX10_findHeld_279 ?_
                              refine r_iinc o (v := nI (y0q + jq + 1)) (lv' := [(7, .int (nI (y0q + jq + 1))), (11, .long (((hsum (yeF dq5 y0q) lfq ((y0q + jq) % lfq) (nuF dq5 y0q) (gcnt dq5 y0q)) * ((nI (gcnt dq5 y0q)).toInt64)) - ((sumL (nuF dq5 y0q) (gcnt dq5 y0q)) * ((nI (cntR (yeF dq5 y0q) lfq ((y0q + jq) % lfq) (gcnt dq5 y0q))).toInt64)))), (9, .long ((((dq5 (y0q + jq)).toInt64) * ((nI (gcnt dq5 y0q)).toInt64)) - (sumL (nuF dq5 y0q) (gcnt dq5 y0q)))), (8, .int (nI ((y0q + jq) % lfq))), (0, .ref (gad G 11)), (1, .int (nI rq)), (2, .int (nI y0q)), (3, .long 0), (5, .long (sumL (nuF dq5 y0q) (gcnt dq5 y0q)))]) dX10_findHeld_282 8 rfl (nI_inc _) (by decide) rfl ?_
                              refine r_goto o (tgt := 128) dX10_findHeld_285 (by decide) ?_
                              exact r_to rfl [4, 5, 6, 7, 8, 0] rfl (ih128 (jq + 1) (sti (sti ρq 11 16 (nI ((lkS (yeF dq5 y0q) (gcnt dq5 y0q) lfq (nuF dq5 y0q) dq5 y0q jq).2 + (i2q ((dq5 (y0q + jq)).toInt64 * (nI (gcnt dq5 y0q)).toInt64 - sumL (nuF dq5 y0q) (gcnt dq5 y0q)) (hsum (yeF dq5 y0q) lfq ((y0q + jq) % lfq) (nuF dq5 y0q) (gcnt dq5 y0q) * (nI (gcnt dq5 y0q)).toInt64 - sumL (nuF dq5 y0q) (gcnt dq5 y0q) * (nI (cntR (yeF dq5 y0q) lfq ((y0q + jq) % lfq) (gcnt dq5 y0q))).toInt64))))) 11 15 (nI ((lkS (yeF dq5 y0q) (gcnt dq5 y0q) lfq (nuF dq5 y0q) dq5 y0q jq).1 + (i1q ((dq5 (y0q + jq)).toInt64 * (nI (gcnt dq5 y0q)).toInt64 - sumL (nuF dq5 y0q) (gcnt dq5 y0q)) (hsum (yeF dq5 y0q) lfq ((y0q + jq) % lfq) (nuF dq5 y0q) (gcnt dq5 y0q) * (nI (gcnt dq5 y0q)).toInt64 - sumL (nuF dq5 y0q) (gcnt dq5 y0q) * (nI (cntR (yeF dq5 y0q) lfq ((y0q + jq) % lfq) (gcnt dq5 y0q))).toInt64))))) (by omega) (nm_f (nm_f hnr 16 (Or.inr (Or.inr rfl)) _) 15 (Or.inr (Or.inl rfl)) _) (fun rq hr => hhr rq hr) (st_f (st_f hr14 (by decide)) (by decide)) (by rw [sti_eq, hst]) (by rw [st_f sti_eq (by decide), hst]) (by omega))
                            · skip
                              rw [lg_cmp_ge] at hb270
                              refine r_iconst o (v := nI 1) dX10_findHeld_273 (by decide) ?_
                              refine r_goto o (tgt := 278) dX10_findHeld_274 (by decide) ?_
                              refine r_topi (y := nI (i1q ((dq5 (y0q + jq)).toInt64 * (nI (gcnt dq5 y0q)).toInt64 - sumL (nuF dq5 y0q) (gcnt dq5 y0q)) (hsum (yeF dq5 y0q) lfq ((y0q + jq) % lfq) (nuF dq5 y0q) (gcnt dq5 y0q) * (nI (gcnt dq5 y0q)).toInt64 - sumL (nuF dq5 y0q) (gcnt dq5 y0q) * (nI (cntR (yeF dq5 y0q) lfq ((y0q + jq) % lfq) (gcnt dq5 y0q))).toInt64))) (by unfold i1q; first | (rw [if_pos (Or.inl ⟨l_nle.mp hb249, hb256⟩)]; done) | (rw [if_pos (Or.inr ⟨l_nle.mp hb263, l_nle.mp hb270⟩)]; done) | (rw [if_neg (fun zq => zq.elim (fun z1 => by first | exact l_nle.mpr z1.1 hb249 | exact hb256 z1.2) (fun z1 => by first | exact l_nle.mpr z1.1 hb263 | exact l_nle.mpr z1.2 hb270))]; done)) ?_
                              refine r_iadd o dX10_findHeld_278 ?_
                              refine r_topi (y := nI ((lkS (yeF dq5 y0q) (gcnt dq5 y0q) lfq (nuF dq5 y0q) dq5 y0q jq).1 + (i1q ((dq5 (y0q + jq)).toInt64 * (nI (gcnt dq5 y0q)).toInt64 - sumL (nuF dq5 y0q) (gcnt dq5 y0q)) (hsum (yeF dq5 y0q) lfq ((y0q + jq) % lfq) (nuF dq5 y0q) (gcnt dq5 y0q) * (nI (gcnt dq5 y0q)).toInt64 - sumL (nuF dq5 y0q) (gcnt dq5 y0q) * (nI (cntR (yeF dq5 y0q) lfq ((y0q + jq) % lfq) (gcnt dq5 y0q))).toInt64)))) (nI_add' _ _) ?_
                              refine pf_11_15 o mw_713 dX10_findHeld_279 ?_
                              refine r_iinc o (v := nI (y0q + jq + 1)) (lv' := [(7, .int (nI (y0q + jq + 1))), (11, .long (((hsum (yeF dq5 y0q) lfq ((y0q + jq) % lfq) (nuF dq5 y0q) (gcnt dq5 y0q)) * ((nI (gcnt dq5 y0q)).toInt64)) - ((sumL (nuF dq5 y0q) (gcnt dq5 y0q)) * ((nI (cntR (yeF dq5 y0q) lfq ((y0q + jq) % lfq) (gcnt dq5 y0q))).toInt64)))), (9, .long ((((dq5 (y0q + jq)).toInt64) * ((nI (gcnt dq5 y0q)).toInt64)) - (sumL (nuF dq5 y0q) (gcnt dq5 y0q)))), (8, .int (nI ((y0q + jq) % lfq))), (0, .ref (gad G 11)), (1, .int (nI rq)), (2, .int (nI y0q)), (3, .long 0), (5, .long (sumL (nuF dq5 y0q) (gcnt dq5 y0q)))]) dX10_findHeld_282 8 rfl (nI_inc _) (by decide) rfl ?_
                              refine r_goto o (tgt := 128) dX10_findHeld_285 (by decide) ?_
                              exact r_to rfl [4, 5, 6, 7, 8, 0] rfl (ih128 (jq + 1) (sti (sti ρq 11 16 (nI ((lkS (yeF dq5 y0q) (gcnt dq5 y0q) lfq (nuF dq5 y0q) dq5 y0q jq).2 + (i2q ((dq5 (y0q + jq)).toInt64 * (nI (gcnt dq5 y0q)).toInt64 - sumL (nuF dq5 y0q) (gcnt dq5 y0q)) (hsum (yeF dq5 y0q) lfq ((y0q + jq) % lfq) (nuF dq5 y0q) (gcnt dq5 y0q) * (nI (gcnt dq5 y0q)).toInt64 - sumL (nuF dq5 y0q) (gcnt dq5 y0q) * (nI (cntR (yeF dq5 y0q) lfq ((y0q + jq) % lfq) (gcnt dq5 y0q))).toInt64))))) 11 15 (nI ((lkS (yeF dq5 y0q) (gcnt dq5 y0q) lfq (nuF dq5 y0q) dq5 y0q jq).1 + (i1q ((dq5 (y0q + jq)).toInt64 * (nI (gcnt dq5 y0q)).toInt64 - sumL (nuF dq5 y0q) (gcnt dq5 y0q)) (hsum (yeF dq5 y0q) lfq ((y0q + jq) % lfq) (nuF dq5 y0q) (gcnt dq5 y0q) * (nI (gcnt dq5 y0q)).toInt64 - sumL (nuF dq5 y0q) (gcnt dq5 y0q) * (nI (cntR (yeF dq5 y0q) lfq ((y0q + jq) % lfq) (gcnt dq5 y0q))).toInt64))))) (by omega) (nm_f (nm_f hnr 16 (Or.inr (Or.inr rfl)) _) 15 (Or.inr (Or.inl rfl)) _) (fun rq hr => hhr rq hr) (st_f (st_f hr14 (by decide)) (by decide)) (by rw [sti_eq, hst]) (by rw [st_f sti_eq (by decide), hst]) (by omega))
        exact r_to rfl [3, 4, 5, 2, 1, 0] rfl (L128 _ 0 (sti (sti σσ106 11 15 (nI 0)) 11 16 (nI 0)) (by omega) (nm_f (nm_f hnh 15 (Or.inr (Or.inl rfl)) _) 16 (Or.inr (Or.inr rfl)) _) (fun rq hr => hhp rq hr) (st_f (st_f hf14h (by decide)) (by decide)) rfl rfl (Nat.lt_succ_self _))
      · skip
        rw [lg_cmp_eq] at hb50
        exact absurd hb21 hb50
