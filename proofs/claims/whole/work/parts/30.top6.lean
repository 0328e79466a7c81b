theorem dr_sto {σ : Sto} {az bz : Int64} {fq gq : Nat → Int32} : sta (stl (sta (stl σ 5 2 az) 26 fq) 5 2 bz) 26 gq = sta (stl σ 5 2 bz) 26 gq := by
  rw [stl_sta_ne (by decide), stl_stl, sta_sta]
theorem dn_s {yrq : Nat → Nat} {nq lq : Nat} {glq : Int64} {kq : Nat} {xf : Nat → Int32} {sdq : Nat} : dnR yrq nq lq glq (kq + 1) xf sdq = (if rchB yrq nq (drS (nq - 1) xf sdq).1 glq lq (lq + 1 - lq) = true then 1 else 0) + dnR yrq nq lq glq kq (drS (nq - 1) xf sdq).1 (drS (nq - 1) xf sdq).2 := rfl
theorem co_ms {az nz : Nat} {bz : Bool} (h : (5040 - az + if (true : Bool) = true then 1 else 0) < nz + 1) (h2 : ¬ 5040 ≤ az) : (5040 - (az + 1) + if bz = true then 1 else 0) < nz := by
  rw [if_pos rfl] at h
  have hm : (if bz = true then 1 else 0) ≤ 1 := by cases bz <;> decide
  omega

set_option maxHeartbeats 4000000 in
set_option maxRecDepth 100000 in
theorem c_X9_countOrders (l : Launch) (G : Gl) (σ : Sto) (yrq : Nat → Nat) (nq : Nat) (hnq : (σ 2).1 3 = nI nq) (hn7 : 1 ≤ nq ∧ nq ≤ 7) (f1q : Nat) (t1q : Nat) (hft : 2 ≤ f1q ∧ f1q ≤ t1q ∧ t1q ≤ 12) (hf1q : (σ 4).1 1 = nI f1q) (ht1 : (σ 4).1 2 = nI t1q) (hla : ∀ jq, f1q ≤ jq → jq ≤ t1q → LaidO σ jq yrq nq) (xf : Nat → Int32) (hxf : ∀ jq, jq < nq → (σ 21).1 jq = xf jq) : CtV l G yX9_countOrders cX9_countOrders 6 none 3 74 [.ref (gad G 0)] σ (fun σ' => (σ' 7).2 0 = fU (nI (coR yrq nq f1q (t1q + 1 - f1q) (wgt yrq nq (fgS yrq nq xf f1q (t1q + 1 - f1q)).1 xf) 5040 (srS xf nq)).1).toInt64 (nI (coR yrq nq f1q (t1q + 1 - f1q) (wgt yrq nq (fgS yrq nq xf f1q (t1q + 1 - f1q)).1 xf) 5040 (srS xf nq)).2).toInt64 ∧ (σ' 7).2 1 = fL (nI (coR yrq nq f1q (t1q + 1 - f1q) (wgt yrq nq (fgS yrq nq xf f1q (t1q + 1 - f1q)).1 xf) 5040 (srS xf nq)).1).toInt64 (nI (coR yrq nq f1q (t1q + 1 - f1q) (wgt yrq nq (fgS yrq nq xf f1q (t1q + 1 - f1q)).1 xf) 5040 (srS xf nq)).2).toInt64 ∧ keepC σ σ') := by
  refine CtV.of (by decide +kernel) (Nat.le_of_ble_eq_true rfl) (fun X o q => ?_)
  show WS X G 6 σ 0 [(0, .ref (gad G 0))] []
  obtain ⟨glq, hgl⟩ : ∃ zq, zq = wgt yrq nq (fgS yrq nq xf f1q (t1q + 1 - f1q)).1 xf := ⟨_, rfl⟩
  have hcoq : coI yrq nq f1q (t1q + 1 - f1q) glq 0 0 true (srS (mix (σ 21).1 (σ 26).1 0 nq) nq) = coR yrq nq f1q (t1q + 1 - f1q) glq 5040 (srS xf nq) := by show (0 + (coR yrq nq f1q (t1q + 1 - f1q) glq 5040 (srS (mix (σ 21).1 (σ 26).1 0 nq) nq)).1, 0 + (coR yrq nq f1q (t1q + 1 - f1q) glq 5040 (srS (mix (σ 21).1 (σ 26).1 0 nq) nq)).2) = _; rw [Nat.zero_add, Nat.zero_add, co_ag hn7.1 5040 (sr_ag (nq := nq) (x2 := xf) (fun jq hj => (mix_in (Nat.zero_le _) hj).trans (hxf jq hj)) nq (Nat.le_refl nq))]
  refine r_aload_n o dX9_countOrders_0 0 rfl ?_
  refine gf_0_4 o mw_240 dX9_countOrders_1 ?_
  refine r_aload_n o dX9_countOrders_4 0 rfl ?_
  refine gf_0_2 o mw_238 dX9_countOrders_5 ?_
  refine gfN_2_1 o mw_87 dX9_countOrders_8 ?_
  refine r_callVL o (As := [.ref (gad G 21)]) (st := []) (c_X8_greatest (xl X) G σ yrq nq f1q t1q hft hf1q ht1 hla ((σ 21).1) rfl) om_X8_greatest mw_420 mw_421 mw_419 (by decide) rfl rfl rfl (by decide) rfl rfl (Nat.le_of_ble_eq_true rfl) dX9_countOrders_11 (fun rr11 σσ11 hp11 => ?_)
  obtain ⟨hp11, hp11b⟩ := hp11; replace hp11 := Eq.symm hp11; replace hp11b := Eq.symm hp11b; subst hp11; subst hp11b
  refine r_topl (y := glq) (by rw [hgl, fg_cong hxf]; exact wg_cong hxf) ?_
  refine r_lstore_n o (lv' := [(1, .long glq), (0, .ref (gad G 0))]) dX9_countOrders_14 (by decide) rfl ?_
  refine r_aload_n o dX9_countOrders_15 1 rfl ?_
  refine gf_0_5 o mw_241 dX9_countOrders_16 ?_
  refine r_aload_n o dX9_countOrders_19 1 rfl ?_
  refine gf_0_2 o mw_238 dX9_countOrders_20 ?_
  refine r_iconst o (v := nI 1) dX9_countOrders_23 (by decide) ?_
  refine r_callVV o (As := [.ref (gad G 2), .int (nI 1)]) (st := []) (c_X4_begin (xl X) G σ nq hnq (by omega) ((σ 21).1) rfl ((σ 26).1) rfl (nI 1)) om_X4_begin mw_465 mw_466 mw_464 (by decide) rfl rfl rfl (by decide) rfl rfl (Nat.le_of_ble_eq_true rfl) dX9_countOrders_24 (fun σσ24 hp24 => ?_)
  replace hp24 := Eq.symm hp24; subst hp24
  refine r_aload_n o dX9_countOrders_27 1 rfl ?_
  refine gf_0_5 o mw_241 dX9_countOrders_28 ?_
  refine r_callVV o (As := []) (st := []) (c_X4_sort (xl X) G (sta (stl (sti σ 5 1 (nI nq)) 5 2 ((nI 1).toInt64)) 26 (mix ((σ 21).1) ((σ 26).1) 0 nq)) (mix (σ 21).1 (σ 26).1 0 nq) rfl nq rfl (by omega) hn7.1) om_X4_sort mw_469 mw_470 mw_468 (by decide) rfl rfl rfl (by decide) rfl rfl (Nat.le_of_ble_eq_true rfl) dX9_countOrders_31 (fun σσ31 hp31 => ?_)
  replace hp31 := Eq.symm hp31; subst hp31
  refine r_iconst o (v := nI 0) dX9_countOrders_34 (by decide) ?_
  refine r_istore_n o (lv' := [(3, .int (nI 0)), (1, .long glq), (0, .ref (gad G 0))]) dX9_countOrders_35 (by decide) rfl ?_
  refine r_iconst o (v := nI 0) dX9_countOrders_36 (by decide) ?_
  refine r_istore o (lv' := [(4, .int (nI 0)), (3, .int (nI 0)), (1, .long glq), (0, .ref (gad G 0))]) dX9_countOrders_37 (by decide) rfl ?_
  refine r_iconst o (v := nI 1) dX9_countOrders_39 (by decide) ?_
  refine r_istore o (lv' := [(5, .int (nI 1)), (4, .int (nI 0)), (3, .int (nI 0)), (1, .long glq), (0, .ref (gad G 0))]) dX9_countOrders_40 (by decide) rfl ?_
  have L42 : ∀ (n : Nat) (alq : Nat) (req : Nat) (moq : Bool) (gf : Nat → Int32) (halq : alq ≤ 5040) (hreq : req ≤ alq) (hciq : coI yrq nq f1q (t1q + 1 - f1q) glq alq req moq gf = coR yrq nq f1q (t1q + 1 - f1q) glq 5040 (srS xf nq)), 5040 - alq + (if moq = true then 1 else 0) < n → WS X G 6 (sta (stl (sti σ 5 1 (nI nq)) 5 2 ((nI 1).toInt64)) 26 gf) 42 [(0, .ref (gad G 0)), (1, .long glq), (3, .int (nI alq)), (4, .int (nI req)), (5, .int (b01 moq))] [] := by
    intro n
    induction n with
    | zero => intro alq req moq gf halq hreq hciq hm; exact absurd hm (Nat.not_lt_zero _)
    | succ n ih42 =>
      intro alq req moq gf halq hreq hciq hm
      refine r_iload o dX9_countOrders_42 4 rfl ?_
      refine r_if_eq o (tgt := 90) dX9_countOrders_44 (by decide) (fun hb44 => ?_) (fun hb44 => ?_)
      · skip
        rw [b01_eq0] at hb44
        have hce : (req, alq) = coR yrq nq f1q (t1q + 1 - f1q) glq 5040 (srS xf nq) := by rw [← hciq, coI_e (Or.inl hb44)]
        refine r_aload_n o dX9_countOrders_90 0 rfl ?_
        refine gf_0_7 o mw_243 dX9_countOrders_91 ?_
        refine r_iload o dX9_countOrders_94 3 rfl ?_
        refine r_i2l o dX9_countOrders_96 rfl ?_
        refine r_iload_n o dX9_countOrders_97 2 rfl ?_
        refine r_i2l o dX9_countOrders_98 rfl ?_
        refine r_callVV o (As := [.long ((nI req).toInt64), .long ((nI alq).toInt64)]) (st := []) (c_X2_put_7 (xl X) G (sta (stl (sti σ 5 1 (nI nq)) 5 2 ((nI 1).toInt64)) 26 gf) ((nI req).toInt64) ((nI alq).toInt64)) om_X2_put mw_438 mw_439 mw_437 (by decide) rfl rfl rfl (by decide) rfl rfl (Nat.le_of_ble_eq_true rfl) dX9_countOrders_99 (fun σσ99 hp99 => ?_)
        replace hp99 := Eq.symm hp99; subst hp99
        exact r_return o q dX9_countOrders_102 (⟨by rw [← hgl, ← hce]; rfl, by rw [← hgl, ← hce]; rfl, fun cz hcz => by unfold scrC at hcz; simp (disch := omega) only [stl_ne, sta_ne, sti_ne]⟩)
      · skip
        rw [b01_ne0] at hb44
        subst hb44
        refine r_iload_n o dX9_countOrders_47 2 rfl ?_
        refine r_sipush o (v := nI 5040) dX9_countOrders_48 (by decide) ?_
        refine r_icmp_ge o (tgt := 90) dX9_countOrders_51 (by decide) (fun hb51 => ?_) (fun hb51 => ?_)
        · skip
          rw [nI_leI (by omega) (by omega)] at hb51
          have hce : (req, alq) = coR yrq nq f1q (t1q + 1 - f1q) glq 5040 (srS xf nq) := by rw [← hciq, coI_e (Or.inr hb51)]
          refine r_aload_n o dX9_countOrders_90 0 rfl ?_
          refine gf_0_7 o mw_243 dX9_countOrders_91 ?_
          refine r_iload o dX9_countOrders_94 3 rfl ?_
          refine r_i2l o dX9_countOrders_96 rfl ?_
          refine r_iload_n o dX9_countOrders_97 2 rfl ?_
          refine r_i2l o dX9_countOrders_98 rfl ?_
          refine r_callVV o (As := [.long ((nI req).toInt64), .long ((nI alq).toInt64)]) (st := []) (c_X2_put_7 (xl X) G (sta (stl (sti σ 5 1 (nI nq)) 5 2 ((nI 1).toInt64)) 26 gf) ((nI req).toInt64) ((nI alq).toInt64)) om_X2_put mw_438 mw_439 mw_437 (by decide) rfl rfl rfl (by decide) rfl rfl (Nat.le_of_ble_eq_true rfl) dX9_countOrders_99 (fun σσ99 hp99 => ?_)
          replace hp99 := Eq.symm hp99; subst hp99
          exact r_return o q dX9_countOrders_102 (⟨by rw [← hgl, ← hce]; rfl, by rw [← hgl, ← hce]; rfl, fun cz hcz => by unfold scrC at hcz; simp (disch := omega) only [stl_ne, sta_ne, sti_ne]⟩)
        · skip
          rw [nI_leI (by omega) (by omega)] at hb51
          refine r_iinc o (v := nI (alq + 1)) (lv' := [(3, .int (nI (alq + 1))), (0, .ref (gad G 0)), (1, .long glq), (4, .int (nI req)), (5, .int (b01 true))]) dX9_countOrders_54 2 rfl (nI_inc _) (by decide) rfl ?_
          refine r_aload_n o dX9_countOrders_57 1 rfl ?_
          refine gf_0_4 o mw_240 dX9_countOrders_58 ?_
          refine r_aload_n o dX9_countOrders_61 1 rfl ?_
          refine gf_0_5 o mw_241 dX9_countOrders_62 ?_
          refine gfN_5_0 o mw_146 dX9_countOrders_65 ?_
          refine r_lload_n o dX9_countOrders_68 2 rfl ?_
          refine r_callVI o (As := [.ref (gad G 26), .long glq]) (st := []) (c_X8_reach (xl X) G (sta (stl (sti σ 5 1 (nI nq)) 5 2 ((nI 1).toInt64)) 26 gf) yrq nq f1q t1q hft hf1q ht1 (fun jq hq1 hq2 => laid_ag (fun cz hc1 hc2 => by simp (disch := omega) only [sta_ne, stl_ne, sti_ne]) (by omega) (hla jq hq1 hq2)) gf rfl glq) om_X8_reach mw_477 mw_478 mw_476 (by decide) rfl rfl rfl (by decide) rfl rfl (Nat.le_of_ble_eq_true rfl) dX9_countOrders_69 (fun rr69 σσ69 hp69 => ?_)
          obtain ⟨hp69, hp69b⟩ := hp69; replace hp69 := Eq.symm hp69; replace hp69b := Eq.symm hp69b; subst hp69; subst hp69b
          refine r_if_eq o (tgt := 78) dX9_countOrders_72 (by decide) (fun hb72 => ?_) (fun hb72 => ?_)
          · skip
            rw [b01_eq0] at hb72
            refine r_aload_n o dX9_countOrders_78 1 rfl ?_
            refine gf_0_5 o mw_241 dX9_countOrders_79 ?_
            refine r_callVI o (As := []) (st := []) (c_X4_next (xl X) G (sta (stl (sti σ 5 1 (nI nq)) 5 2 ((nI 1).toInt64)) 26 gf) gf rfl nq rfl (by omega) hn7.1) om_X4_next mw_481 mw_482 mw_480 (by decide) rfl rfl rfl (by decide) rfl rfl (Nat.le_of_ble_eq_true rfl) dX9_countOrders_82 (fun rr82 σσ82 hp82 => ?_)
            obtain ⟨hp82, hp82b⟩ := hp82; replace hp82 := Eq.symm hp82; replace hp82b := Eq.symm hp82b; subst hp82; subst hp82b
            refine r_istore o (lv' := [(5, .int (b01 (decide (0 < riS gf (nq - 1))))), (3, .int (nI (alq + 1))), (0, .ref (gad G 0)), (1, .long glq), (4, .int (nI req))]) dX9_countOrders_85 (by decide) rfl ?_
            refine r_goto o (tgt := 42) dX9_countOrders_87 (by decide) ?_
            exact r_to sta_sta [2, 3, 1, 4, 0] rfl (ih42 (alq + 1) req (decide (0 < riS gf (nq - 1))) (nxS gf nq) (by omega) (by omega) (by rw [← hciq, coI_s (by omega), if_neg (by rw [hb72]; decide)]; rfl) (co_ms hm hb51))
          · skip
            rw [b01_ne0] at hb72
            refine r_iinc o (v := nI (req + 1)) (lv' := [(4, .int (nI (req + 1))), (3, .int (nI (alq + 1))), (0, .ref (gad G 0)), (1, .long glq), (5, .int (b01 true))]) dX9_countOrders_75 3 rfl (nI_inc _) (by decide) rfl ?_
            refine r_aload_n o dX9_countOrders_78 2 rfl ?_
            refine gf_0_5 o mw_241 dX9_countOrders_79 ?_
            refine r_callVI o (As := []) (st := []) (c_X4_next (xl X) G (sta (stl (sti σ 5 1 (nI nq)) 5 2 ((nI 1).toInt64)) 26 gf) gf rfl nq rfl (by omega) hn7.1) om_X4_next mw_481 mw_482 mw_480 (by decide) rfl rfl rfl (by decide) rfl rfl (Nat.le_of_ble_eq_true rfl) dX9_countOrders_82 (fun rr82 σσ82 hp82 => ?_)
            obtain ⟨hp82, hp82b⟩ := hp82; replace hp82 := Eq.symm hp82; replace hp82b := Eq.symm hp82b; subst hp82; subst hp82b
            refine r_istore o (lv' := [(5, .int (b01 (decide (0 < riS gf (nq - 1))))), (4, .int (nI (req + 1))), (3, .int (nI (alq + 1))), (0, .ref (gad G 0)), (1, .long glq)]) dX9_countOrders_85 (by decide) rfl ?_
            refine r_goto o (tgt := 42) dX9_countOrders_87 (by decide) ?_
            exact r_to sta_sta [3, 4, 2, 1, 0] rfl (ih42 (alq + 1) (req + 1) (decide (0 < riS gf (nq - 1))) (nxS gf nq) (by omega) (by omega) (by rw [← hciq, coI_s (by omega), if_pos hb72]) (co_ms hm hb51))
  refine r_lv (lv' := [(5, .int (b01 true)), (4, .int (nI 0)), (3, .int (nI 0)), (1, .long glq), (0, .ref (gad G 0))]) (congrArg (fun zz => ([(5, .int zz), (4, .int (nI 0)), (3, .int (nI 0)), (1, .long glq), (0, .ref (gad G 0))] : List (Nat × Value))) (show nI 1 = b01 true from rfl)) ?_
  exact r_to sta_sta [4, 3, 2, 1, 0] rfl (L42 _ 0 0 true (srS (mix (σ 21).1 (σ 26).1 0 nq) nq) (by omega) (by omega) hcoq (Nat.lt_succ_self _))
set_option maxHeartbeats 4000000 in
set_option maxRecDepth 100000 in
theorem c_X9_oddsOfGreatest (l : Launch) (G : Gl) (σ : Sto) (sn : Nat → Nat) (cntq : Nat) (hp : PadO σ sn cntq) (rz : Int32) (lz : Int32) (l2z : Int32) (pz : Int32) : CtL l G yX9_oddsOfGreatest cX9_oddsOfGreatest 7 (some .long) 6 135 [.ref (gad G 0), .int rz, .int lz, .int l2z, .int pz] σ (fun r σ' => r = (if refI (inB (nI 0) (nI 5) rz) ((inB (nI 2) (nI 12) lz && (inB (nI 2) (nI 12) l2z && (decide (lz ≤ l2z) && inB (nI 0) (nI 1) pz)))) (fltF sn cntq 21 0) = 0 then (if inB (nI 1) (nI 7) (nI (gcnt (dlF σ sn cntq rz.toNatClampNeg) 24)) = false then -1000000000000000003 else if pz = 0 then fU (nI (coR (yeF (dlF σ sn cntq rz.toNatClampNeg) 24) (gcnt (dlF σ sn cntq rz.toNatClampNeg) 24) lz.toNatClampNeg (l2z.toNatClampNeg + 1 - lz.toNatClampNeg) (wgt (yeF (dlF σ sn cntq rz.toNatClampNeg) 24) (gcnt (dlF σ sn cntq rz.toNatClampNeg) 24) (fgS (yeF (dlF σ sn cntq rz.toNatClampNeg) 24) (gcnt (dlF σ sn cntq rz.toNatClampNeg) 24) (nuF (dlF σ sn cntq rz.toNatClampNeg) 24) lz.toNatClampNeg (l2z.toNatClampNeg + 1 - lz.toNatClampNeg)).1 (nuF (dlF σ sn cntq rz.toNatClampNeg) 24)) 5040 (srS (nuF (dlF σ sn cntq rz.toNatClampNeg) 24) (gcnt (dlF σ sn cntq rz.toNatClampNeg) 24))).1).toInt64 (nI (coR (yeF (dlF σ sn cntq rz.toNatClampNeg) 24) (gcnt (dlF σ sn cntq rz.toNatClampNeg) 24) lz.toNatClampNeg (l2z.toNatClampNeg + 1 - lz.toNatClampNeg) (wgt (yeF (dlF σ sn cntq rz.toNatClampNeg) 24) (gcnt (dlF σ sn cntq rz.toNatClampNeg) 24) (fgS (yeF (dlF σ sn cntq rz.toNatClampNeg) 24) (gcnt (dlF σ sn cntq rz.toNatClampNeg) 24) (nuF (dlF σ sn cntq rz.toNatClampNeg) 24) lz.toNatClampNeg (l2z.toNatClampNeg + 1 - lz.toNatClampNeg)).1 (nuF (dlF σ sn cntq rz.toNatClampNeg) 24)) 5040 (srS (nuF (dlF σ sn cntq rz.toNatClampNeg) 24) (gcnt (dlF σ sn cntq rz.toNatClampNeg) 24))).2).toInt64 else fL (nI (coR (yeF (dlF σ sn cntq rz.toNatClampNeg) 24) (gcnt (dlF σ sn cntq rz.toNatClampNeg) 24) lz.toNatClampNeg (l2z.toNatClampNeg + 1 - lz.toNatClampNeg) (wgt (yeF (dlF σ sn cntq rz.toNatClampNeg) 24) (gcnt (dlF σ sn cntq rz.toNatClampNeg) 24) (fgS (yeF (dlF σ sn cntq rz.toNatClampNeg) 24) (gcnt (dlF σ sn cntq rz.toNatClampNeg) 24) (nuF (dlF σ sn cntq rz.toNatClampNeg) 24) lz.toNatClampNeg (l2z.toNatClampNeg + 1 - lz.toNatClampNeg)).1 (nuF (dlF σ sn cntq rz.toNatClampNeg) 24)) 5040 (srS (nuF (dlF σ sn cntq rz.toNatClampNeg) 24) (gcnt (dlF σ sn cntq rz.toNatClampNeg) 24))).1).toInt64 (nI (coR (yeF (dlF σ sn cntq rz.toNatClampNeg) 24) (gcnt (dlF σ sn cntq rz.toNatClampNeg) 24) lz.toNatClampNeg (l2z.toNatClampNeg + 1 - lz.toNatClampNeg) (wgt (yeF (dlF σ sn cntq rz.toNatClampNeg) 24) (gcnt (dlF σ sn cntq rz.toNatClampNeg) 24) (fgS (yeF (dlF σ sn cntq rz.toNatClampNeg) 24) (gcnt (dlF σ sn cntq rz.toNatClampNeg) 24) (nuF (dlF σ sn cntq rz.toNatClampNeg) 24) lz.toNatClampNeg (l2z.toNatClampNeg + 1 - lz.toNatClampNeg)).1 (nuF (dlF σ sn cntq rz.toNatClampNeg) 24)) 5040 (srS (nuF (dlF σ sn cntq rz.toNatClampNeg) 24) (gcnt (dlF σ sn cntq rz.toNatClampNeg) 24))).2).toInt64) else LOSTq + (refI (inB (nI 0) (nI 5) rz) ((inB (nI 2) (nI 12) lz && (inB (nI 2) (nI 12) l2z && (decide (lz ≤ l2z) && inB (nI 0) (nI 1) pz)))) (fltF sn cntq 21 0)).toInt64) ∧ keepC σ σ') := by
  refine CtL.of (by decide +kernel) (Nat.le_of_ble_eq_true rfl) (fun X o q => ?_)
  show WS X G 7 σ 0 [(0, .ref (gad G 0)), (1, .int rz), (2, .int lz), (3, .int l2z), (4, .int pz)] []
  obtain ⟨hcq, hcnt, hsg, hsn⟩ := id hp
  refine r_iload_n o dX9_oddsOfGreatest_0 2 rfl ?_
  refine r_callSI o (As := [.int lz]) (st := []) (c_X9_isLength (xl X) G σ lz) om_X9_isLength mw_386 mw_385 (by decide) rfl rfl (Nat.le_of_ble_eq_true rfl) dX9_oddsOfGreatest_1 (fun rr1 σσ1 hp1 => ?_)
  obtain ⟨hp1, hp1b⟩ := hp1; replace hp1 := Eq.symm hp1; replace hp1b := Eq.symm hp1b; subst hp1; subst hp1b
  refine r_if_eq o (tgt := 31) dX9_oddsOfGreatest_4 (by decide) (fun hb4 => ?_) (fun hb4 => ?_)
  · skip
    rw [b01_eq0] at hb4
    refine r_iconst o (v := nI 0) dX9_oddsOfGreatest_31 (by decide) ?_
    refine r_topi (y := b01 (inB (nI 2) (nI 12) lz && (inB (nI 2) (nI 12) l2z && (decide (lz ≤ l2z) && inB (nI 0) (nI 1) pz)))) (by first | (rw [hb4]; rfl) | (rw [hb11]; simp only [Bool.and_false, Bool.false_and]; rfl) | (rw [decide_eq_false (i_nle.mpr hb16)]; simp only [Bool.and_false, Bool.false_and]; rfl) | (rw [hb24]; simp only [Bool.and_false, Bool.false_and]; rfl) | (rw [hb4, hb11, decide_eq_true (i_nlt.mp hb16), hb24]; rfl)) ?_
    refine r_istore o (lv' := [(5, .int (b01 (inB (nI 2) (nI 12) lz && (inB (nI 2) (nI 12) l2z && (decide (lz ≤ l2z) && inB (nI 0) (nI 1) pz))))), (0, .ref (gad G 0)), (1, .int rz), (2, .int lz), (3, .int l2z), (4, .int pz)]) dX9_oddsOfGreatest_32 (by decide) rfl ?_
    refine r_aload_n o dX9_oddsOfGreatest_34 1 rfl ?_
    refine r_iload_n o dX9_oddsOfGreatest_35 2 rfl ?_
    refine r_callSI o (As := [.int rz]) (st := [.ref (gad G 0)]) (c_X9_isRow (xl X) G σ rz) om_X9_isRow mw_275 mw_274 (by decide) rfl rfl (Nat.le_of_ble_eq_true rfl) dX9_oddsOfGreatest_36 (fun rr36 σσ36 hp36 => ?_)
    obtain ⟨hp36, hp36b⟩ := hp36; replace hp36 := Eq.symm hp36; replace hp36b := Eq.symm hp36b; subst hp36; subst hp36b
    refine r_iload o dX9_oddsOfGreatest_39 0 rfl ?_
    refine r_callVI o (As := [.int (b01 (inB (nI 0) (nI 5) rz)), .int (b01 (inB (nI 2) (nI 12) lz && (inB (nI 2) (nI 12) l2z && (decide (lz ≤ l2z) && inB (nI 0) (nI 1) pz))))]) (st := []) (c_X9_refusalOf (xl X) G σ sn cntq hp (inB (nI 0) (nI 5) rz) (inB (nI 2) (nI 12) lz && (inB (nI 2) (nI 12) l2z && (decide (lz ≤ l2z) && inB (nI 0) (nI 1) pz)))) om_X9_refusalOf mw_343 mw_4 mw_341 (by decide) rfl rfl rfl (by decide) rfl rfl (Nat.le_of_ble_eq_true rfl) dX9_oddsOfGreatest_41 (fun rr41 σσ41 hp41 => ?_)
    obtain ⟨hp41, hp41b⟩ := hp41; replace hp41 := Eq.symm hp41; replace hp41b := Eq.symm hp41b; subst hp41; subst hp41b
    refine r_istore o (lv' := [(6, .int (refI (inB (nI 0) (nI 5) rz) (inB (nI 2) (nI 12) lz && (inB (nI 2) (nI 12) l2z && (decide (lz ≤ l2z) && inB (nI 0) (nI 1) pz))) (fltF sn cntq 21 0))), (5, .int (b01 (inB (nI 2) (nI 12) lz && (inB (nI 2) (nI 12) l2z && (decide (lz ≤ l2z) && inB (nI 0) (nI 1) pz))))), (0, .ref (gad G 0)), (1, .int rz), (2, .int lz), (3, .int l2z), (4, .int pz)]) dX9_oddsOfGreatest_44 (by decide) rfl ?_
    refine r_iload o dX9_oddsOfGreatest_46 0 rfl ?_
    refine r_if_eq o (tgt := 59) dX9_oddsOfGreatest_48 (by decide) (fun hb48 => ?_) (fun hb48 => ?_)
    · skip
      obtain ⟨hk1, hk2, hno⟩ := refI_z hb48
      obtain ⟨hr1, hr2⟩ := inB_nI (n := 5) (by decide) hk1
      rw [Bool.and_eq_true, Bool.and_eq_true, Bool.and_eq_true, decide_eq_true_eq] at hk2
      obtain ⟨hl1, hl2⟩ := inB_nI (n := 12) (by decide) (inB_wk hk2.1)
      have hl3 := inB_ge hk2.1
      obtain ⟨hm1, hm2⟩ := inB_nI (n := 12) (by decide) (inB_wk hk2.2.1)
      have hlm : lz.toNatClampNeg ≤ l2z.toNatClampNeg := by have hz1 := hk2.2.2.1; rw [hl1, hm1, nI_leI (by omega) (by omega)] at hz1; exact hz1
      have hgl := gcnt_le (dlF σ sn cntq rz.toNatClampNeg) 24
      refine r_lv (lv' := [(6, .int (refI (inB (nI 0) (nI 5) rz) (inB (nI 2) (nI 12) lz && (inB (nI 2) (nI 12) l2z && (decide (lz ≤ l2z) && inB (nI 0) (nI 1) pz))) (fltF sn cntq 21 0))), (5, .int (b01 (inB (nI 2) (nI 12) lz && (inB (nI 2) (nI 12) l2z && (decide (lz ≤ l2z) && inB (nI 0) (nI 1) pz))))), (0, .ref (gad G 0)), (1, .int (nI rz.toNatClampNeg)), (2, .int lz), (3, .int l2z), (4, .int pz)]) (congrArg (fun zz => ([(6, .int (refI (inB (nI 0) (nI 5) rz) (inB (nI 2) (nI 12) lz && (inB (nI 2) (nI 12) l2z && (decide (lz ≤ l2z) && inB (nI 0) (nI 1) pz))) (fltF sn cntq 21 0))), (5, .int (b01 (inB (nI 2) (nI 12) lz && (inB (nI 2) (nI 12) l2z && (decide (lz ≤ l2z) && inB (nI 0) (nI 1) pz))))), (0, .ref (gad G 0)), (1, .int zz), (2, .int lz), (3, .int l2z), (4, .int pz)] : List (Nat × Value))) (hr1)) ?_
      refine r_lv (lv' := [(6, .int (refI (inB (nI 0) (nI 5) rz) (inB (nI 2) (nI 12) lz && (inB (nI 2) (nI 12) l2z && (decide (lz ≤ l2z) && inB (nI 0) (nI 1) pz))) (fltF sn cntq 21 0))), (5, .int (b01 (inB (nI 2) (nI 12) lz && (inB (nI 2) (nI 12) l2z && (decide (lz ≤ l2z) && inB (nI 0) (nI 1) pz))))), (0, .ref (gad G 0)), (1, .int (nI rz.toNatClampNeg)), (2, .int (nI lz.toNatClampNeg)), (3, .int l2z), (4, .int pz)]) (congrArg (fun zz => ([(6, .int (refI (inB (nI 0) (nI 5) rz) (inB (nI 2) (nI 12) lz && (inB (nI 2) (nI 12) l2z && (decide (lz ≤ l2z) && inB (nI 0) (nI 1) pz))) (fltF sn cntq 21 0))), (5, .int (b01 (inB (nI 2) (nI 12) lz && (inB (nI 2) (nI 12) l2z && (decide (lz ≤ l2z) && inB (nI 0) (nI 1) pz))))), (0, .ref (gad G 0)), (1, .int (nI rz.toNatClampNeg)), (2, .int zz), (3, .int l2z), (4, .int pz)] : List (Nat × Value))) (hl1)) ?_
      refine r_lv (lv' := [(6, .int (refI (inB (nI 0) (nI 5) rz) (inB (nI 2) (nI 12) lz && (inB (nI 2) (nI 12) l2z && (decide (lz ≤ l2z) && inB (nI 0) (nI 1) pz))) (fltF sn cntq 21 0))), (5, .int (b01 (inB (nI 2) (nI 12) lz && (inB (nI 2) (nI 12) l2z && (decide (lz ≤ l2z) && inB (nI 0) (nI 1) pz))))), (0, .ref (gad G 0)), (1, .int (nI rz.toNatClampNeg)), (2, .int (nI lz.toNatClampNeg)), (3, .int (nI l2z.toNatClampNeg)), (4, .int pz)]) (congrArg (fun zz => ([(6, .int (refI (inB (nI 0) (nI 5) rz) (inB (nI 2) (nI 12) lz && (inB (nI 2) (nI 12) l2z && (decide (lz ≤ l2z) && inB (nI 0) (nI 1) pz))) (fltF sn cntq 21 0))), (5, .int (b01 (inB (nI 2) (nI 12) lz && (inB (nI 2) (nI 12) l2z && (decide (lz ≤ l2z) && inB (nI 0) (nI 1) pz))))), (0, .ref (gad G 0)), (1, .int (nI rz.toNatClampNeg)), (2, .int (nI lz.toNatClampNeg)), (3, .int zz), (4, .int pz)] : List (Nat × Value))) (hm1)) ?_
      refine r_aload_n o dX9_oddsOfGreatest_59 2 rfl ?_
      refine r_iload_n o dX9_oddsOfGreatest_60 3 rfl ?_
      refine r_bipush o (v := nI 24) dX9_oddsOfGreatest_61 (by decide) ?_
      refine r_iload_n o dX9_oddsOfGreatest_63 4 rfl ?_
      refine r_iload_n o dX9_oddsOfGreatest_64 5 rfl ?_
      refine r_callVV o (As := [.int (nI rz.toNatClampNeg), .int (nI 24), .int (nI lz.toNatClampNeg), .int (nI l2z.toNatClampNeg)]) (st := []) (c_X9_takeRounds (xl X) G σ sn cntq hp rz.toNatClampNeg (by omega) 24 (by omega) lz.toNatClampNeg l2z.toNatClampNeg (by omega) hno) om_X9_takeRounds mw_398 mw_7 mw_396 (by decide) rfl rfl rfl (by decide) rfl rfl (Nat.le_of_ble_eq_true rfl) dX9_oddsOfGreatest_65 (fun σσ65 hp65 => ?_)
      obtain ⟨hk2, hk21, hk22, hk20, hk4a, hk4b, hkla, hkag⟩ := hp65
      refine r_aload_n o dX9_oddsOfGreatest_68 2 rfl ?_
      refine gf_0_2 o mw_238 dX9_oddsOfGreatest_69 ?_
      refine gfN_2_3 o (v := nI (gcnt (dlF σ sn cntq rz.toNatClampNeg) 24)) hk2 mw_95 dX9_oddsOfGreatest_72 ?_
      refine r_iconst o (v := nI 1) dX9_oddsOfGreatest_75 (by decide) ?_
      refine r_bipush o (v := nI 7) dX9_oddsOfGreatest_76 (by decide) ?_
      refine r_callSI o (As := [.int (nI (gcnt (dlF σ sn cntq rz.toNatClampNeg) 24)), .int (nI 1), .int (nI 7)]) (st := []) (c_X9_isWithin (xl X) G σσ65 (nI (gcnt (dlF σ sn cntq rz.toNatClampNeg) 24)) (nI 1) (nI 7)) om_X9_isWithin mw_278 mw_277 (by decide) rfl rfl (Nat.le_of_ble_eq_true rfl) dX9_oddsOfGreatest_78 (fun rr78 σσ78 hp78 => ?_)
      obtain ⟨hp78, hp78b⟩ := hp78; replace hp78 := Eq.symm hp78; replace hp78b := Eq.symm hp78b; subst hp78; subst hp78b
      refine r_if_ne o (tgt := 88) dX9_oddsOfGreatest_81 (by decide) (fun hb81 => ?_) (fun hb81 => ?_)
      · skip
        rw [b01_ne0] at hb81
        have hb82 := hb81
        rw [inB_N (by decide) (by decide) (by omega), Bool.and_eq_true, decide_eq_true_eq, decide_eq_true_eq] at hb82
        refine r_aload_n o dX9_oddsOfGreatest_88 2 rfl ?_
        refine r_callVV o (As := []) (st := []) (c_X9_countOrders (xl X) G σσ65 (yeF (dlF σ sn cntq rz.toNatClampNeg) 24) (gcnt (dlF σ sn cntq rz.toNatClampNeg) 24) hk2 (by omega) lz.toNatClampNeg l2z.toNatClampNeg (by omega) hk4a hk4b hkla (nuF (dlF σ sn cntq rz.toNatClampNeg) 24) hk21) om_X9_countOrders mw_462 mw_9 mw_460 (by decide) rfl rfl rfl (by decide) rfl rfl (Nat.le_of_ble_eq_true rfl) dX9_oddsOfGreatest_89 (fun σσ89 hp89 => ?_)
        obtain ⟨hu, hl, hkp⟩ := hp89
        refine r_aload_n o dX9_oddsOfGreatest_92 2 rfl ?_
        refine gf_0_7 o mw_243 dX9_oddsOfGreatest_93 ?_
        refine r_iload o dX9_oddsOfGreatest_96 6 rfl ?_
        refine r_callVL o (As := [.int pz]) (st := []) (c_X2_partOf (xl X) G σσ89 (fU (nI (coR (yeF (dlF σ sn cntq rz.toNatClampNeg) 24) (gcnt (dlF σ sn cntq rz.toNatClampNeg) 24) lz.toNatClampNeg (l2z.toNatClampNeg + 1 - lz.toNatClampNeg) (wgt (yeF (dlF σ sn cntq rz.toNatClampNeg) 24) (gcnt (dlF σ sn cntq rz.toNatClampNeg) 24) (fgS (yeF (dlF σ sn cntq rz.toNatClampNeg) 24) (gcnt (dlF σ sn cntq rz.toNatClampNeg) 24) (nuF (dlF σ sn cntq rz.toNatClampNeg) 24) lz.toNatClampNeg (l2z.toNatClampNeg + 1 - lz.toNatClampNeg)).1 (nuF (dlF σ sn cntq rz.toNatClampNeg) 24)) 5040 (srS (nuF (dlF σ sn cntq rz.toNatClampNeg) 24) (gcnt (dlF σ sn cntq rz.toNatClampNeg) 24))).1).toInt64 (nI (coR (yeF (dlF σ sn cntq rz.toNatClampNeg) 24) (gcnt (dlF σ sn cntq rz.toNatClampNeg) 24) lz.toNatClampNeg (l2z.toNatClampNeg + 1 - lz.toNatClampNeg) (wgt (yeF (dlF σ sn cntq rz.toNatClampNeg) 24) (gcnt (dlF σ sn cntq rz.toNatClampNeg) 24) (fgS (yeF (dlF σ sn cntq rz.toNatClampNeg) 24) (gcnt (dlF σ sn cntq rz.toNatClampNeg) 24) (nuF (dlF σ sn cntq rz.toNatClampNeg) 24) lz.toNatClampNeg (l2z.toNatClampNeg + 1 - lz.toNatClampNeg)).1 (nuF (dlF σ sn cntq rz.toNatClampNeg) 24)) 5040 (srS (nuF (dlF σ sn cntq rz.toNatClampNeg) 24) (gcnt (dlF σ sn cntq rz.toNatClampNeg) 24))).2).toInt64) hu (fL (nI (coR (yeF (dlF σ sn cntq rz.toNatClampNeg) 24) (gcnt (dlF σ sn cntq rz.toNatClampNeg) 24) lz.toNatClampNeg (l2z.toNatClampNeg + 1 - lz.toNatClampNeg) (wgt (yeF (dlF σ sn cntq rz.toNatClampNeg) 24) (gcnt (dlF σ sn cntq rz.toNatClampNeg) 24) (fgS (yeF (dlF σ sn cntq rz.toNatClampNeg) 24) (gcnt (dlF σ sn cntq rz.toNatClampNeg) 24) (nuF (dlF σ sn cntq rz.toNatClampNeg) 24) lz.toNatClampNeg (l2z.toNatClampNeg + 1 - lz.toNatClampNeg)).1 (nuF (dlF σ sn cntq rz.toNatClampNeg) 24)) 5040 (srS (nuF (dlF σ sn cntq rz.toNatClampNeg) 24) (gcnt (dlF σ sn cntq rz.toNatClampNeg) 24))).1).toInt64 (nI (coR (yeF (dlF σ sn cntq rz.toNatClampNeg) 24) (gcnt (dlF σ sn cntq rz.toNatClampNeg) 24) lz.toNatClampNeg (l2z.toNatClampNeg + 1 - lz.toNatClampNeg) (wgt (yeF (dlF σ sn cntq rz.toNatClampNeg) 24) (gcnt (dlF σ sn cntq rz.toNatClampNeg) 24) (fgS (yeF (dlF σ sn cntq rz.toNatClampNeg) 24) (gcnt (dlF σ sn cntq rz.toNatClampNeg) 24) (nuF (dlF σ sn cntq rz.toNatClampNeg) 24) lz.toNatClampNeg (l2z.toNatClampNeg + 1 - lz.toNatClampNeg)).1 (nuF (dlF σ sn cntq rz.toNatClampNeg) 24)) 5040 (srS (nuF (dlF σ sn cntq rz.toNatClampNeg) 24) (gcnt (dlF σ sn cntq rz.toNatClampNeg) 24))).2).toInt64) hl pz) om_X2_partOf mw_448 mw_449 mw_447 (by decide) rfl rfl rfl (by decide) rfl rfl (Nat.le_of_ble_eq_true rfl) dX9_oddsOfGreatest_98 (fun rr98 σσ98 hp98 => ?_)
        obtain ⟨hp98, hp98b⟩ := hp98; replace hp98 := Eq.symm hp98; replace hp98b := Eq.symm hp98b; subst hp98; subst hp98b
        exact r_lreturn o q dX9_oddsOfGreatest_101 (⟨((if_pos hb48).trans (if_neg (by rw [hb81]; decide))).symm, fun cz hcz => by rw [hkp cz hcz]; exact hkag cz (fun hz => hcz (by unfold scr1 at hz; unfold scrC; omega))⟩)
      · skip
        rw [b01_eq0] at hb81
        refine r_ldc2_w o mw_459 dX9_oddsOfGreatest_84 ?_
        exact r_lreturn o q dX9_oddsOfGreatest_87 (⟨((if_pos hb48).trans (if_pos hb81)).symm, fun cz hcz => hkag cz (fun hz => hcz (by unfold scr1 at hz; unfold scrC; omega))⟩)
    · skip
      refine r_ldc2_w o mw_391 dX9_oddsOfGreatest_51 ?_
      refine r_iload o dX9_oddsOfGreatest_54 0 rfl ?_
      refine r_i2l o dX9_oddsOfGreatest_56 rfl ?_
      refine r_ladd o dX9_oddsOfGreatest_57 ?_
      exact r_lreturn o q dX9_oddsOfGreatest_58 (⟨by rw [if_neg hb48]; rfl, fun _ _ => rfl⟩)
  · skip
    rw [b01_ne0] at hb4
    refine r_iload_n o dX9_oddsOfGreatest_7 3 rfl ?_
    refine r_callSI o (As := [.int l2z]) (st := []) (c_X9_isLength (xl X) G σ l2z) om_X9_isLength mw_386 mw_385 (by decide) rfl rfl (Nat.le_of_ble_eq_true rfl) dX9_oddsOfGreatest_8 (fun rr8 σσ8 hp8 => ?_)
    obtain ⟨hp8, hp8b⟩ := hp8; replace hp8 := Eq.symm hp8; replace hp8b := Eq.symm hp8b; subst hp8; subst hp8b
    refine r_if_eq o (tgt := 31) dX9_oddsOfGreatest_11 (by decide) (fun hb11 => ?_) (fun hb11 => ?_)
    · skip
      rw [b01_eq0] at hb11
      refine r_iconst o (v := nI 0) dX9_oddsOfGreatest_31 (by decide) ?_
      refine r_topi (y := b01 (inB (nI 2) (nI 12) lz && (inB (nI 2) (nI 12) l2z && (decide (lz ≤ l2z) && inB (nI 0) (nI 1) pz)))) (by first | (rw [hb4]; rfl) | (rw [hb11]; simp only [Bool.and_false, Bool.false_and]; rfl) | (rw [decide_eq_false (i_nle.mpr hb16)]; simp only [Bool.and_false, Bool.false_and]; rfl) | (rw [hb24]; simp only [Bool.and_false, Bool.false_and]; rfl) | (rw [hb4, hb11, decide_eq_true (i_nlt.mp hb16), hb24]; rfl)) ?_
      refine r_istore o (lv' := [(5, .int (b01 (inB (nI 2) (nI 12) lz && (inB (nI 2) (nI 12) l2z && (decide (lz ≤ l2z) && inB (nI 0) (nI 1) pz))))), (0, .ref (gad G 0)), (1, .int rz), (2, .int lz), (3, .int l2z), (4, .int pz)]) dX9_oddsOfGreatest_32 (by decide) rfl ?_
      refine r_aload_n o dX9_oddsOfGreatest_34 1 rfl ?_
      refine r_iload_n o dX9_oddsOfGreatest_35 2 rfl ?_
      refine r_callSI o (As := [.int rz]) (st := [.ref (gad G 0)]) (c_X9_isRow (xl X) G σ rz) om_X9_isRow mw_275 mw_274 (by decide) rfl rfl (Nat.le_of_ble_eq_true rfl) dX9_oddsOfGreatest_36 (fun rr36 σσ36 hp36 => ?_)
      obtain ⟨hp36, hp36b⟩ := hp36; replace hp36 := Eq.symm hp36; replace hp36b := Eq.symm hp36b; subst hp36; subst hp36b
      refine r_iload o dX9_oddsOfGreatest_39 0 rfl ?_
      refine r_callVI o (As := [.int (b01 (inB (nI 0) (nI 5) rz)), .int (b01 (inB (nI 2) (nI 12) lz && (inB (nI 2) (nI 12) l2z && (decide (lz ≤ l2z) && inB (nI 0) (nI 1) pz))))]) (st := []) (c_X9_refusalOf (xl X) G σ sn cntq hp (inB (nI 0) (nI 5) rz) (inB (nI 2) (nI 12) lz && (inB (nI 2) (nI 12) l2z && (decide (lz ≤ l2z) && inB (nI 0) (nI 1) pz)))) om_X9_refusalOf mw_343 mw_4 mw_341 (by decide) rfl rfl rfl (by decide) rfl rfl (Nat.le_of_ble_eq_true rfl) dX9_oddsOfGreatest_41 (fun rr41 σσ41 hp41 => ?_)
      obtain ⟨hp41, hp41b⟩ := hp41; replace hp41 := Eq.symm hp41; replace hp41b := Eq.symm hp41b; subst hp41; subst hp41b
      refine r_istore o (lv' := [(6, .int (refI (inB (nI 0) (nI 5) rz) (inB (nI 2) (nI 12) lz && (inB (nI 2) (nI 12) l2z && (decide (lz ≤ l2z) && inB (nI 0) (nI 1) pz))) (fltF sn cntq 21 0))), (5, .int (b01 (inB (nI 2) (nI 12) lz && (inB (nI 2) (nI 12) l2z && (decide (lz ≤ l2z) && inB (nI 0) (nI 1) pz))))), (0, .ref (gad G 0)), (1, .int rz), (2, .int lz), (3, .int l2z), (4, .int pz)]) dX9_oddsOfGreatest_44 (by decide) rfl ?_
      refine r_iload o dX9_oddsOfGreatest_46 0 rfl ?_
      refine r_if_eq o (tgt := 59) dX9_oddsOfGreatest_48 (by decide) (fun hb48 => ?_) (fun hb48 => ?_)
      · skip
        obtain ⟨hk1, hk2, hno⟩ := refI_z hb48
        obtain ⟨hr1, hr2⟩ := inB_nI (n := 5) (by decide) hk1
        rw [Bool.and_eq_true, Bool.and_eq_true, Bool.and_eq_true, decide_eq_true_eq] at hk2
        obtain ⟨hl1, hl2⟩ := inB_nI (n := 12) (by decide) (inB_wk hk2.1)
        have hl3 := inB_ge hk2.1
        obtain ⟨hm1, hm2⟩ := inB_nI (n := 12) (by decide) (inB_wk hk2.2.1)
        have hlm : lz.toNatClampNeg ≤ l2z.toNatClampNeg := by have hz1 := hk2.2.2.1; rw [hl1, hm1, nI_leI (by omega) (by omega)] at hz1; exact hz1
        have hgl := gcnt_le (dlF σ sn cntq rz.toNatClampNeg) 24
        refine r_lv (lv' := [(6, .int (refI (inB (nI 0) (nI 5) rz) (inB (nI 2) (nI 12) lz && (inB (nI 2) (nI 12) l2z && (decide (lz ≤ l2z) && inB (nI 0) (nI 1) pz))) (fltF sn cntq 21 0))), (5, .int (b01 (inB (nI 2) (nI 12) lz && (inB (nI 2) (nI 12) l2z && (decide (lz ≤ l2z) && inB (nI 0) (nI 1) pz))))), (0, .ref (gad G 0)), (1, .int (nI rz.toNatClampNeg)), (2, .int lz), (3, .int l2z), (4, .int pz)]) (congrArg (fun zz => ([(6, .int (refI (inB (nI 0) (nI 5) rz) (inB (nI 2) (nI 12) lz && (inB (nI 2) (nI 12) l2z && (decide (lz ≤ l2z) && inB (nI 0) (nI 1) pz))) (fltF sn cntq 21 0))), (5, .int (b01 (inB (nI 2) (nI 12) lz && (inB (nI 2) (nI 12) l2z && (decide (lz ≤ l2z) && inB (nI 0) (nI 1) pz))))), (0, .ref (gad G 0)), (1, .int zz), (2, .int lz), (3, .int l2z), (4, .int pz)] : List (Nat × Value))) (hr1)) ?_
        refine r_lv (lv' := [(6, .int (refI (inB (nI 0) (nI 5) rz) (inB (nI 2) (nI 12) lz && (inB (nI 2) (nI 12) l2z && (decide (lz ≤ l2z) && inB (nI 0) (nI 1) pz))) (fltF sn cntq 21 0))), (5, .int (b01 (inB (nI 2) (nI 12) lz && (inB (nI 2) (nI 12) l2z && (decide (lz ≤ l2z) && inB (nI 0) (nI 1) pz))))), (0, .ref (gad G 0)), (1, .int (nI rz.toNatClampNeg)), (2, .int (nI lz.toNatClampNeg)), (3, .int l2z), (4, .int pz)]) (congrArg (fun zz => ([(6, .int (refI (inB (nI 0) (nI 5) rz) (inB (nI 2) (nI 12) lz && (inB (nI 2) (nI 12) l2z && (decide (lz ≤ l2z) && inB (nI 0) (nI 1) pz))) (fltF sn cntq 21 0))), (5, .int (b01 (inB (nI 2) (nI 12) lz && (inB (nI 2) (nI 12) l2z && (decide (lz ≤ l2z) && inB (nI 0) (nI 1) pz))))), (0, .ref (gad G 0)), (1, .int (nI rz.toNatClampNeg)), (2, .int zz), (3, .int l2z), (4, .int pz)] : List (Nat × Value))) (hl1)) ?_
        refine r_lv (lv' := [(6, .int (refI (inB (nI 0) (nI 5) rz) (inB (nI 2) (nI 12) lz && (inB (nI 2) (nI 12) l2z && (decide (lz ≤ l2z) && inB (nI 0) (nI 1) pz))) (fltF sn cntq 21 0))), (5, .int (b01 (inB (nI 2) (nI 12) lz && (inB (nI 2) (nI 12) l2z && (decide (lz ≤ l2z) && inB (nI 0) (nI 1) pz))))), (0, .ref (gad G 0)), (1, .int (nI rz.toNatClampNeg)), (2, .int (nI lz.toNatClampNeg)), (3, .int (nI l2z.toNatClampNeg)), (4, .int pz)]) (congrArg (fun zz => ([(6, .int (refI (inB (nI 0) (nI 5) rz) (inB (nI 2) (nI 12) lz && (inB (nI 2) (nI 12) l2z && (decide (lz ≤ l2z) && inB (nI 0) (nI 1) pz))) (fltF sn cntq 21 0))), (5, .int (b01 (inB (nI 2) (nI 12) lz && (inB (nI 2) (nI 12) l2z && (decide (lz ≤ l2z) && inB (nI 0) (nI 1) pz))))), (0, .ref (gad G 0)), (1, .int (nI rz.toNatClampNeg)), (2, .int (nI lz.toNatClampNeg)), (3, .int zz), (4, .int pz)] : List (Nat × Value))) (hm1)) ?_
        refine r_aload_n o dX9_oddsOfGreatest_59 2 rfl ?_
        refine r_iload_n o dX9_oddsOfGreatest_60 3 rfl ?_
        refine r_bipush o (v := nI 24) dX9_oddsOfGreatest_61 (by decide) ?_
        refine r_iload_n o dX9_oddsOfGreatest_63 4 rfl ?_
        refine r_iload_n o dX9_oddsOfGreatest_64 5 rfl ?_
        refine r_callVV o (As := [.int (nI rz.toNatClampNeg), .int (nI 24), .int (nI lz.toNatClampNeg), .int (nI l2z.toNatClampNeg)]) (st := []) (c_X9_takeRounds (xl X) G σ sn cntq hp rz.toNatClampNeg (by omega) 24 (by omega) lz.toNatClampNeg l2z.toNatClampNeg (by omega) hno) om_X9_takeRounds mw_398 mw_7 mw_396 (by decide) rfl rfl rfl (by decide) rfl rfl (Nat.le_of_ble_eq_true rfl) dX9_oddsOfGreatest_65 (fun σσ65 hp65 => ?_)
        obtain ⟨hk2, hk21, hk22, hk20, hk4a, hk4b, hkla, hkag⟩ := hp65
        refine r_aload_n o dX9_oddsOfGreatest_68 2 rfl ?_
        refine gf_0_2 o mw_238 dX9_oddsOfGreatest_69 ?_
        refine gfN_2_3 o (v := nI (gcnt (dlF σ sn cntq rz.toNatClampNeg) 24)) hk2 mw_95 dX9_oddsOfGreatest_72 ?_
        refine r_iconst o (v := nI 1) dX9_oddsOfGreatest_75 (by decide) ?_
        refine r_bipush o (v := nI 7) dX9_oddsOfGreatest_76 (by decide) ?_
        refine r_callSI o (As := [.int (nI (gcnt (dlF σ sn cntq rz.toNatClampNeg) 24)), .int (nI 1), .int (nI 7)]) (st := []) (c_X9_isWithin (xl X) G σσ65 (nI (gcnt (dlF σ sn cntq rz.toNatClampNeg) 24)) (nI 1) (nI 7)) om_X9_isWithin mw_278 mw_277 (by decide) rfl rfl (Nat.le_of_ble_eq_true rfl) dX9_oddsOfGreatest_78 (fun rr78 σσ78 hp78 => ?_)
        obtain ⟨hp78, hp78b⟩ := hp78; replace hp78 := Eq.symm hp78; replace hp78b := Eq.symm hp78b; subst hp78; subst hp78b
        refine r_if_ne o (tgt := 88) dX9_oddsOfGreatest_81 (by decide) (fun hb81 => ?_) (fun hb81 => ?_)
        · skip
          rw [b01_ne0] at hb81
          have hb82 := hb81
          rw [inB_N (by decide) (by decide) (by omega), Bool.and_eq_true, decide_eq_true_eq, decide_eq_true_eq] at hb82
          refine r_aload_n o dX9_oddsOfGreatest_88 2 rfl ?_
          refine r_callVV o (As := []) (st := []) (c_X9_countOrders (xl X) G σσ65 (yeF (dlF σ sn cntq rz.toNatClampNeg) 24) (gcnt (dlF σ sn cntq rz.toNatClampNeg) 24) hk2 (by omega) lz.toNatClampNeg l2z.toNatClampNeg (by omega) hk4a hk4b hkla (nuF (dlF σ sn cntq rz.toNatClampNeg) 24) hk21) om_X9_countOrders mw_462 mw_9 mw_460 (by decide) rfl rfl rfl (by decide) rfl rfl (Nat.le_of_ble_eq_true rfl) dX9_oddsOfGreatest_89 (fun σσ89 hp89 => ?_)
          obtain ⟨hu, hl, hkp⟩ := hp89
          refine r_aload_n o dX9_oddsOfGreatest_92 2 rfl ?_
          refine gf_0_7 o mw_243 dX9_oddsOfGreatest_93 ?_
          refine r_iload o dX9_oddsOfGreatest_96 6 rfl ?_
          refine r_callVL o (As := [.int pz]) (st := []) (c_X2_partOf (xl X) G σσ89 (fU (nI (coR (yeF (dlF σ sn cntq rz.toNatClampNeg) 24) (gcnt (dlF σ sn cntq rz.toNatClampNeg) 24) lz.toNatClampNeg (l2z.toNatClampNeg + 1 - lz.toNatClampNeg) (wgt (yeF (dlF σ sn cntq rz.toNatClampNeg) 24) (gcnt (dlF σ sn cntq rz.toNatClampNeg) 24) (fgS (yeF (dlF σ sn cntq rz.toNatClampNeg) 24) (gcnt (dlF σ sn cntq rz.toNatClampNeg) 24) (nuF (dlF σ sn cntq rz.toNatClampNeg) 24) lz.toNatClampNeg (l2z.toNatClampNeg + 1 - lz.toNatClampNeg)).1 (nuF (dlF σ sn cntq rz.toNatClampNeg) 24)) 5040 (srS (nuF (dlF σ sn cntq rz.toNatClampNeg) 24) (gcnt (dlF σ sn cntq rz.toNatClampNeg) 24))).1).toInt64 (nI (coR (yeF (dlF σ sn cntq rz.toNatClampNeg) 24) (gcnt (dlF σ sn cntq rz.toNatClampNeg) 24) lz.toNatClampNeg (l2z.toNatClampNeg + 1 - lz.toNatClampNeg) (wgt (yeF (dlF σ sn cntq rz.toNatClampNeg) 24) (gcnt (dlF σ sn cntq rz.toNatClampNeg) 24) (fgS (yeF (dlF σ sn cntq rz.toNatClampNeg) 24) (gcnt (dlF σ sn cntq rz.toNatClampNeg) 24) (nuF (dlF σ sn cntq rz.toNatClampNeg) 24) lz.toNatClampNeg (l2z.toNatClampNeg + 1 - lz.toNatClampNeg)).1 (nuF (dlF σ sn cntq rz.toNatClampNeg) 24)) 5040 (srS (nuF (dlF σ sn cntq rz.toNatClampNeg) 24) (gcnt (dlF σ sn cntq rz.toNatClampNeg) 24))).2).toInt64) hu (fL (nI (coR (yeF (dlF σ sn cntq rz.toNatClampNeg) 24) (gcnt (dlF σ sn cntq rz.toNatClampNeg) 24) lz.toNatClampNeg (l2z.toNatClampNeg + 1 - lz.toNatClampNeg) (wgt (yeF (dlF σ sn cntq rz.toNatClampNeg) 24) (gcnt (dlF σ sn cntq rz.toNatClampNeg) 24) (fgS (yeF (dlF σ sn cntq rz.toNatClampNeg) 24) (gcnt (dlF σ sn cntq rz.toNatClampNeg) 24) (nuF (dlF σ sn cntq rz.toNatClampNeg) 24) lz.toNatClampNeg (l2z.toNatClampNeg + 1 - lz.toNatClampNeg)).1 (nuF (dlF σ sn cntq rz.toNatClampNeg) 24)) 5040 (srS (nuF (dlF σ sn cntq rz.toNatClampNeg) 24) (gcnt (dlF σ sn cntq rz.toNatClampNeg) 24))).1).toInt64 (nI (coR (yeF (dlF σ sn cntq rz.toNatClampNeg) 24) (gcnt (dlF σ sn cntq rz.toNatClampNeg) 24) lz.toNatClampNeg (l2z.toNatClampNeg + 1 - lz.toNatClampNeg) (wgt (yeF (dlF σ sn cntq rz.toNatClampNeg) 24) (gcnt (dlF σ sn cntq rz.toNatClampNeg) 24) (fgS (yeF (dlF σ sn cntq rz.toNatClampNeg) 24) (gcnt (dlF σ sn cntq rz.toNatClampNeg) 24) (nuF (dlF σ sn cntq rz.toNatClampNeg) 24) lz.toNatClampNeg (l2z.toNatClampNeg + 1 - lz.toNatClampNeg)).1 (nuF (dlF σ sn cntq rz.toNatClampNeg) 24)) 5040 (srS (nuF (dlF σ sn cntq rz.toNatClampNeg) 24) (gcnt (dlF σ sn cntq rz.toNatClampNeg) 24))).2).toInt64) hl pz) om_X2_partOf mw_448 mw_449 mw_447 (by decide) rfl rfl rfl (by decide) rfl rfl (Nat.le_of_ble_eq_true rfl) dX9_oddsOfGreatest_98 (fun rr98 σσ98 hp98 => ?_)
          obtain ⟨hp98, hp98b⟩ := hp98; replace hp98 := Eq.symm hp98; replace hp98b := Eq.symm hp98b; subst hp98; subst hp98b
          exact r_lreturn o q dX9_oddsOfGreatest_101 (⟨((if_pos hb48).trans (if_neg (by rw [hb81]; decide))).symm, fun cz hcz => by rw [hkp cz hcz]; exact hkag cz (fun hz => hcz (by unfold scr1 at hz; unfold scrC; omega))⟩)
        · skip
          rw [b01_eq0] at hb81
          refine r_ldc2_w o mw_459 dX9_oddsOfGreatest_84 ?_
          exact r_lreturn o q dX9_oddsOfGreatest_87 (⟨((if_pos hb48).trans (if_pos hb81)).symm, fun cz hcz => hkag cz (fun hz => hcz (by unfold scr1 at hz; unfold scrC; omega))⟩)
      · skip
        refine r_ldc2_w o mw_391 dX9_oddsOfGreatest_51 ?_
        refine r_iload o dX9_oddsOfGreatest_54 0 rfl ?_
        refine r_i2l o dX9_oddsOfGreatest_56 rfl ?_
        refine r_ladd o dX9_oddsOfGreatest_57 ?_
        exact r_lreturn o q dX9_oddsOfGreatest_58 (⟨by rw [if_neg hb48]; rfl, fun _ _ => rfl⟩)
    · skip
      rw [b01_ne0] at hb11
      refine r_iload_n o dX9_oddsOfGreatest_14 2 rfl ?_
      refine r_iload_n o dX9_oddsOfGreatest_15 3 rfl ?_
      refine r_icmp_gt o (tgt := 31) dX9_oddsOfGreatest_16 (by decide) (fun hb16 => ?_) (fun hb16 => ?_)
      · skip
        refine r_iconst o (v := nI 0) dX9_oddsOfGreatest_31 (by decide) ?_
        refine r_topi (y := b01 (inB (nI 2) (nI 12) lz && (inB (nI 2) (nI 12) l2z && (decide (lz ≤ l2z) && inB (nI 0) (nI 1) pz)))) (by first | (rw [hb4]; rfl) | (rw [hb11]; simp only [Bool.and_false, Bool.false_and]; rfl) | (rw [decide_eq_false (i_nle.mpr hb16)]; simp only [Bool.and_false, Bool.false_and]; rfl) | (rw [hb24]; simp only [Bool.and_false, Bool.false_and]; rfl) | (rw [hb4, hb11, decide_eq_true (i_nlt.mp hb16), hb24]; rfl)) ?_
        refine r_istore o (lv' := [(5, .int (b01 (inB (nI 2) (nI 12) lz && (inB (nI 2) (nI 12) l2z && (decide (lz ≤ l2z) && inB (nI 0) (nI 1) pz))))), (0, .ref (gad G 0)), (1, .int rz), (2, .int lz), (3, .int l2z), (4, .int pz)]) dX9_oddsOfGreatest_32 (by decide) rfl ?_
        refine r_aload_n o dX9_oddsOfGreatest_34 1 rfl ?_
        refine r_iload_n o dX9_oddsOfGreatest_35 2 rfl ?_
        refine r_callSI o (As := [.int rz]) (st := [.ref (gad G 0)]) (c_X9_isRow (xl X) G σ rz) om_X9_isRow mw_275 mw_274 (by decide) rfl rfl (Nat.le_of_ble_eq_true rfl) dX9_oddsOfGreatest_36 (fun rr36 σσ36 hp36 => ?_)
        obtain ⟨hp36, hp36b⟩ := hp36; replace hp36 := Eq.symm hp36; replace hp36b := Eq.symm hp36b; subst hp36; subst hp36b
        refine r_iload o dX9_oddsOfGreatest_39 0 rfl ?_
        refine r_callVI o (As := [.int (b01 (inB (nI 0) (nI 5) rz)), .int (b01 (inB (nI 2) (nI 12) lz && (inB (nI 2) (nI 12) l2z && (decide (lz ≤ l2z) && inB (nI 0) (nI 1) pz))))]) (st := []) (c_X9_refusalOf (xl X) G σ sn cntq hp (inB (nI 0) (nI 5) rz) (inB (nI 2) (nI 12) lz && (inB (nI 2) (nI 12) l2z && (decide (lz ≤ l2z) && inB (nI 0) (nI 1) pz)))) om_X9_refusalOf mw_343 mw_4 mw_341 (by decide) rfl rfl rfl (by decide) rfl rfl (Nat.le_of_ble_eq_true rfl) dX9_oddsOfGreatest_41 (fun rr41 σσ41 hp41 => ?_)
        obtain ⟨hp41, hp41b⟩ := hp41; replace hp41 := Eq.symm hp41; replace hp41b := Eq.symm hp41b; subst hp41; subst hp41b
        refine r_istore o (lv' := [(6, .int (refI (inB (nI 0) (nI 5) rz) (inB (nI 2) (nI 12) lz && (inB (nI 2) (nI 12) l2z && (decide (lz ≤ l2z) && inB (nI 0) (nI 1) pz))) (fltF sn cntq 21 0))), (5, .int (b01 (inB (nI 2) (nI 12) lz && (inB (nI 2) (nI 12) l2z && (decide (lz ≤ l2z) && inB (nI 0) (nI 1) pz))))), (0, .ref (gad G 0)), (1, .int rz), (2, .int lz), (3, .int l2z), (4, .int pz)]) dX9_oddsOfGreatest_44 (by decide) rfl ?_
        refine r_iload o dX9_oddsOfGreatest_46 0 rfl ?_
        refine r_if_eq o (tgt := 59) dX9_oddsOfGreatest_48 (by decide) (fun hb48 => ?_) (fun hb48 => ?_)
        · skip
          obtain ⟨hk1, hk2, hno⟩ := refI_z hb48
          obtain ⟨hr1, hr2⟩ := inB_nI (n := 5) (by decide) hk1
          rw [Bool.and_eq_true, Bool.and_eq_true, Bool.and_eq_true, decide_eq_true_eq] at hk2
          obtain ⟨hl1, hl2⟩ := inB_nI (n := 12) (by decide) (inB_wk hk2.1)
          have hl3 := inB_ge hk2.1
          obtain ⟨hm1, hm2⟩ := inB_nI (n := 12) (by decide) (inB_wk hk2.2.1)
          have hlm : lz.toNatClampNeg ≤ l2z.toNatClampNeg := by have hz1 := hk2.2.2.1; rw [hl1, hm1, nI_leI (by omega) (by omega)] at hz1; exact hz1
          have hgl := gcnt_le (dlF σ sn cntq rz.toNatClampNeg) 24
          refine r_lv (lv' := [(6, .int (refI (inB (nI 0) (nI 5) rz) (inB (nI 2) (nI 12) lz && (inB (nI 2) (nI 12) l2z && (decide (lz ≤ l2z) && inB (nI 0) (nI 1) pz))) (fltF sn cntq 21 0))), (5, .int (b01 (inB (nI 2) (nI 12) lz && (inB (nI 2) (nI 12) l2z && (decide (lz ≤ l2z) && inB (nI 0) (nI 1) pz))))), (0, .ref (gad G 0)), (1, .int (nI rz.toNatClampNeg)), (2, .int lz), (3, .int l2z), (4, .int pz)]) (congrArg (fun zz => ([(6, .int (refI (inB (nI 0) (nI 5) rz) (inB (nI 2) (nI 12) lz && (inB (nI 2) (nI 12) l2z && (decide (lz ≤ l2z) && inB (nI 0) (nI 1) pz))) (fltF sn cntq 21 0))), (5, .int (b01 (inB (nI 2) (nI 12) lz && (inB (nI 2) (nI 12) l2z && (decide (lz ≤ l2z) && inB (nI 0) (nI 1) pz))))), (0, .ref (gad G 0)), (1, .int zz), (2, .int lz), (3, .int l2z), (4, .int pz)] : List (Nat × Value))) (hr1)) ?_
          refine r_lv (lv' := [(6, .int (refI (inB (nI 0) (nI 5) rz) (inB (nI 2) (nI 12) lz && (inB (nI 2) (nI 12) l2z && (decide (lz ≤ l2z) && inB (nI 0) (nI 1) pz))) (fltF sn cntq 21 0))), (5, .int (b01 (inB (nI 2) (nI 12) lz && (inB (nI 2) (nI 12) l2z && (decide (lz ≤ l2z) && inB (nI 0) (nI 1) pz))))), (0, .ref (gad G 0)), (1, .int (nI rz.toNatClampNeg)), (2, .int (nI lz.toNatClampNeg)), (3, .int l2z), (4, .int pz)]) (congrArg (fun zz => ([(6, .int (refI (inB (nI 0) (nI 5) rz) (inB (nI 2) (nI 12) lz && (inB (nI 2) (nI 12) l2z && (decide (lz ≤ l2z) && inB (nI 0) (nI 1) pz))) (fltF sn cntq 21 0))), (5, .int (b01 (inB (nI 2) (nI 12) lz && (inB (nI 2) (nI 12) l2z && (decide (lz ≤ l2z) && inB (nI 0) (nI 1) pz))))), (0, .ref (gad G 0)), (1, .int (nI rz.toNatClampNeg)), (2, .int zz), (3, .int l2z), (4, .int pz)] : List (Nat × Value))) (hl1)) ?_
          refine r_lv (lv' := [(6, .int (refI (inB (nI 0) (nI 5) rz) (inB (nI 2) (nI 12) lz && (inB (nI 2) (nI 12) l2z && (decide (lz ≤ l2z) && inB (nI 0) (nI 1) pz))) (fltF sn cntq 21 0))), (5, .int (b01 (inB (nI 2) (nI 12) lz && (inB (nI 2) (nI 12) l2z && (decide (lz ≤ l2z) && inB (nI 0) (nI 1) pz))))), (0, .ref (gad G 0)), (1, .int (nI rz.toNatClampNeg)), (2, .int (nI lz.toNatClampNeg)), (3, .int (nI l2z.toNatClampNeg)), (4, .int pz)]) (congrArg (fun zz => ([(6, .int (refI (inB (nI 0) (nI 5) rz) (inB (nI 2) (nI 12) lz && (inB (nI 2) (nI 12) l2z && (decide (lz ≤ l2z) && inB (nI 0) (nI 1) pz))) (fltF sn cntq 21 0))), (5, .int (b01 (inB (nI 2) (nI 12) lz && (inB (nI 2) (nI 12) l2z && (decide (lz ≤ l2z) && inB (nI 0) (nI 1) pz))))), (0, .ref (gad G 0)), (1, .int (nI rz.toNatClampNeg)), (2, .int (nI lz.toNatClampNeg)), (3, .int zz), (4, .int pz)] : List (Nat × Value))) (hm1)) ?_
          refine r_aload_n o dX9_oddsOfGreatest_59 2 rfl ?_
          refine r_iload_n o dX9_oddsOfGreatest_60 3 rfl ?_
          refine r_bipush o (v := nI 24) dX9_oddsOfGreatest_61 (by decide) ?_
          refine r_iload_n o dX9_oddsOfGreatest_63 4 rfl ?_
          refine r_iload_n o dX9_oddsOfGreatest_64 5 rfl ?_
          refine r_callVV o (As := [.int (nI rz.toNatClampNeg), .int (nI 24), .int (nI lz.toNatClampNeg), .int (nI l2z.toNatClampNeg)]) (st := []) (c_X9_takeRounds (xl X) G σ sn cntq hp rz.toNatClampNeg (by omega) 24 (by omega) lz.toNatClampNeg l2z.toNatClampNeg (by omega) hno) om_X9_takeRounds mw_398 mw_7 mw_396 (by decide) rfl rfl rfl (by decide) rfl rfl (Nat.le_of_ble_eq_true rfl) dX9_oddsOfGreatest_65 (fun σσ65 hp65 => ?_)
          obtain ⟨hk2, hk21, hk22, hk20, hk4a, hk4b, hkla, hkag⟩ := hp65
          refine r_aload_n o dX9_oddsOfGreatest_68 2 rfl ?_
          refine gf_0_2 o mw_238 dX9_oddsOfGreatest_69 ?_
          refine gfN_2_3 o (v := nI (gcnt (dlF σ sn cntq rz.toNatClampNeg) 24)) hk2 mw_95 dX9_oddsOfGreatest_72 ?_
          refine r_iconst o (v := nI 1) dX9_oddsOfGreatest_75 (by decide) ?_
          refine r_bipush o (v := nI 7) dX9_oddsOfGreatest_76 (by decide) ?_
          refine r_callSI o (As := [.int (nI (gcnt (dlF σ sn cntq rz.toNatClampNeg) 24)), .int (nI 1), .int (nI 7)]) (st := []) (c_X9_isWithin (xl X) G σσ65 (nI (gcnt (dlF σ sn cntq rz.toNatClampNeg) 24)) (nI 1) (nI 7)) om_X9_isWithin mw_278 mw_277 (by decide) rfl rfl (Nat.le_of_ble_eq_true rfl) dX9_oddsOfGreatest_78 (fun rr78 σσ78 hp78 => ?_)
          obtain ⟨hp78, hp78b⟩ := hp78; replace hp78 := Eq.symm hp78; replace hp78b := Eq.symm hp78b; subst hp78; subst hp78b
          refine r_if_ne o (tgt := 88) dX9_oddsOfGreatest_81 (by decide) (fun hb81 => ?_) (fun hb81 => ?_)
          · skip
            rw [b01_ne0] at hb81
            have hb82 := hb81
            rw [inB_N (by decide) (by decide) (by omega), Bool.and_eq_true, decide_eq_true_eq, decide_eq_true_eq] at hb82
            refine r_aload_n o dX9_oddsOfGreatest_88 2 rfl ?_
            refine r_callVV o (As := []) (st := []) (c_X9_countOrders (xl X) G σσ65 (yeF (dlF σ sn cntq rz.toNatClampNeg) 24) (gcnt (dlF σ sn cntq rz.toNatClampNeg) 24) hk2 (by omega) lz.toNatClampNeg l2z.toNatClampNeg (by omega) hk4a hk4b hkla (nuF (dlF σ sn cntq rz.toNatClampNeg) 24) hk21) om_X9_countOrders mw_462 mw_9 mw_460 (by decide) rfl rfl rfl (by decide) rfl rfl (Nat.le_of_ble_eq_true rfl) dX9_oddsOfGreatest_89 (fun σσ89 hp89 => ?_)
            obtain ⟨hu, hl, hkp⟩ := hp89
            refine r_aload_n o dX9_oddsOfGreatest_92 2 rfl ?_
            refine gf_0_7 o mw_243 dX9_oddsOfGreatest_93 ?_
            refine r_iload o dX9_oddsOfGreatest_96 6 rfl ?_
            refine r_callVL o (As := [.int pz]) (st := []) (c_X2_partOf (xl X) G σσ89 (fU (nI (coR (yeF (dlF σ sn cntq rz.toNatClampNeg) 24) (gcnt (dlF σ sn cntq rz.toNatClampNeg) 24) lz.toNatClampNeg (l2z.toNatClampNeg + 1 - lz.toNatClampNeg) (wgt (yeF (dlF σ sn cntq rz.toNatClampNeg) 24) (gcnt (dlF σ sn cntq rz.toNatClampNeg) 24) (fgS (yeF (dlF σ sn cntq rz.toNatClampNeg) 24) (gcnt (dlF σ sn cntq rz.toNatClampNeg) 24) (nuF (dlF σ sn cntq rz.toNatClampNeg) 24) lz.toNatClampNeg (l2z.toNatClampNeg + 1 - lz.toNatClampNeg)).1 (nuF (dlF σ sn cntq rz.toNatClampNeg) 24)) 5040 (srS (nuF (dlF σ sn cntq rz.toNatClampNeg) 24) (gcnt (dlF σ sn cntq rz.toNatClampNeg) 24))).1).toInt64 (nI (coR (yeF (dlF σ sn cntq rz.toNatClampNeg) 24) (gcnt (dlF σ sn cntq rz.toNatClampNeg) 24) lz.toNatClampNeg (l2z.toNatClampNeg + 1 - lz.toNatClampNeg) (wgt (yeF (dlF σ sn cntq rz.toNatClampNeg) 24) (gcnt (dlF σ sn cntq rz.toNatClampNeg) 24) (fgS (yeF (dlF σ sn cntq rz.toNatClampNeg) 24) (gcnt (dlF σ sn cntq rz.toNatClampNeg) 24) (nuF (dlF σ sn cntq rz.toNatClampNeg) 24) lz.toNatClampNeg (l2z.toNatClampNeg + 1 - lz.toNatClampNeg)).1 (nuF (dlF σ sn cntq rz.toNatClampNeg) 24)) 5040 (srS (nuF (dlF σ sn cntq rz.toNatClampNeg) 24) (gcnt (dlF σ sn cntq rz.toNatClampNeg) 24))).2).toInt64) hu (fL (nI (coR (yeF (dlF σ sn cntq rz.toNatClampNeg) 24) (gcnt (dlF σ sn cntq rz.toNatClampNeg) 24) lz.toNatClampNeg (l2z.toNatClampNeg + 1 - lz.toNatClampNeg) (wgt (yeF (dlF σ sn cntq rz.toNatClampNeg) 24) (gcnt (dlF σ sn cntq rz.toNatClampNeg) 24) (fgS (yeF (dlF σ sn cntq rz.toNatClampNeg) 24) (gcnt (dlF σ sn cntq rz.toNatClampNeg) 24) (nuF (dlF σ sn cntq rz.toNatClampNeg) 24) lz.toNatClampNeg (l2z.toNatClampNeg + 1 - lz.toNatClampNeg)).1 (nuF (dlF σ sn cntq rz.toNatClampNeg) 24)) 5040 (srS (nuF (dlF σ sn cntq rz.toNatClampNeg) 24) (gcnt (dlF σ sn cntq rz.toNatClampNeg) 24))).1).toInt64 (nI (coR (yeF (dlF σ sn cntq rz.toNatClampNeg) 24) (gcnt (dlF σ sn cntq rz.toNatClampNeg) 24) lz.toNatClampNeg (l2z.toNatClampNeg + 1 - lz.toNatClampNeg) (wgt (yeF (dlF σ sn cntq rz.toNatClampNeg) 24) (gcnt (dlF σ sn cntq rz.toNatClampNeg) 24) (fgS (yeF (dlF σ sn cntq rz.toNatClampNeg) 24) (gcnt (dlF σ sn cntq rz.toNatClampNeg) 24) (nuF (dlF σ sn cntq rz.toNatClampNeg) 24) lz.toNatClampNeg (l2z.toNatClampNeg + 1 - lz.toNatClampNeg)).1 (nuF (dlF σ sn cntq rz.toNatClampNeg) 24)) 5040 (srS (nuF (dlF σ sn cntq rz.toNatClampNeg) 24) (gcnt (dlF σ sn cntq rz.toNatClampNeg) 24))).2).toInt64) hl pz) om_X2_partOf mw_448 mw_449 mw_447 (by decide) rfl rfl rfl (by decide) rfl rfl (Nat.le_of_ble_eq_true rfl) dX9_oddsOfGreatest_98 (fun rr98 σσ98 hp98 => ?_)
            obtain ⟨hp98, hp98b⟩ := hp98; replace hp98 := Eq.symm hp98; replace hp98b := Eq.symm hp98b; subst hp98; subst hp98b
            exact r_lreturn o q dX9_oddsOfGreatest_101 (⟨((if_pos hb48).trans (if_neg (by rw [hb81]; decide))).symm, fun cz hcz => by rw [hkp cz hcz]; exact hkag cz (fun hz => hcz (by unfold scr1 at hz; unfold scrC; omega))⟩)
          · skip
            rw [b01_eq0] at hb81
            refine r_ldc2_w o mw_459 dX9_oddsOfGreatest_84 ?_
            exact r_lreturn o q dX9_oddsOfGreatest_87 (⟨((if_pos hb48).trans (if_pos hb81)).symm, fun cz hcz => hkag cz (fun hz => hcz (by unfold scr1 at hz; unfold scrC; omega))⟩)
        · skip
          refine r_ldc2_w o mw_391 dX9_oddsOfGreatest_51 ?_
          refine r_iload o dX9_oddsOfGreatest_54 0 rfl ?_
          refine r_i2l o dX9_oddsOfGreatest_56 rfl ?_
          refine r_ladd o dX9_oddsOfGreatest_57 ?_
          exact r_lreturn o q dX9_oddsOfGreatest_58 (⟨by rw [if_neg hb48]; rfl, fun _ _ => rfl⟩)
      · skip
        refine r_iload o dX9_oddsOfGreatest_19 4 rfl ?_
        refine r_callSI o (As := [.int pz]) (st := []) (c_X9_isPart (xl X) G σ pz) om_X9_isPart mw_389 mw_388 (by decide) rfl rfl (Nat.le_of_ble_eq_true rfl) dX9_oddsOfGreatest_21 (fun rr21 σσ21 hp21 => ?_)
        obtain ⟨hp21, hp21b⟩ := hp21; replace hp21 := Eq.symm hp21; replace hp21b := Eq.symm hp21b; subst hp21; subst hp21b
        refine r_if_eq o (tgt := 31) dX9_oddsOfGreatest_24 (by decide) (fun hb24 => ?_) (fun hb24 => ?_)
        · skip
          rw [b01_eq0] at hb24
          refine r_iconst o (v := nI 0) dX9_oddsOfGreatest_31 (by decide) ?_
          refine r_topi (y := b01 (inB (nI 2) (nI 12) lz && (inB (nI 2) (nI 12) l2z && (decide (lz ≤ l2z) && inB (nI 0) (nI 1) pz)))) (by first | (rw [hb4]; rfl) | (rw [hb11]; simp only [Bool.and_false, Bool.false_and]; rfl) | (rw [decide_eq_false (i_nle.mpr hb16)]; simp only [Bool.and_false, Bool.false_and]; rfl) | (rw [hb24]; simp only [Bool.and_false, Bool.false_and]; rfl) | (rw [hb4, hb11, decide_eq_true (i_nlt.mp hb16), hb24]; rfl)) ?_
          refine r_istore o (lv' := [(5, .int (b01 (inB (nI 2) (nI 12) lz && (inB (nI 2) (nI 12) l2z && (decide (lz ≤ l2z) && inB (nI 0) (nI 1) pz))))), (0, .ref (gad G 0)), (1, .int rz), (2, .int lz), (3, .int l2z), (4, .int pz)]) dX9_oddsOfGreatest_32 (by decide) rfl ?_
          refine r_aload_n o dX9_oddsOfGreatest_34 1 rfl ?_
          refine r_iload_n o dX9_oddsOfGreatest_35 2 rfl ?_
          refine r_callSI o (As := [.int rz]) (st := [.ref (gad G 0)]) (c_X9_isRow (xl X) G σ rz) om_X9_isRow mw_275 mw_274 (by decide) rfl rfl (Nat.le_of_ble_eq_true rfl) dX9_oddsOfGreatest_36 (fun rr36 σσ36 hp36 => ?_)
          obtain ⟨hp36, hp36b⟩ := hp36; replace hp36 := Eq.symm hp36; replace hp36b := Eq.symm hp36b; subst hp36; subst hp36b
          refine r_iload o dX9_oddsOfGreatest_39 0 rfl ?_
          refine r_callVI o (As := [.int (b01 (inB (nI 0) (nI 5) rz)), .int (b01 (inB (nI 2) (nI 12) lz && (inB (nI 2) (nI 12) l2z && (decide (lz ≤ l2z) && inB (nI 0) (nI 1) pz))))]) (st := []) (c_X9_refusalOf (xl X) G σ sn cntq hp (inB (nI 0) (nI 5) rz) (inB (nI 2) (nI 12) lz && (inB (nI 2) (nI 12) l2z && (decide (lz ≤ l2z) && inB (nI 0) (nI 1) pz)))) om_X9_refusalOf mw_343 mw_4 mw_341 (by decide) rfl rfl rfl (by decide) rfl rfl (Nat.le_of_ble_eq_true rfl) dX9_oddsOfGreatest_41 (fun rr41 σσ41 hp41 => ?_)
          obtain ⟨hp41, hp41b⟩ := hp41; replace hp41 := Eq.symm hp41; replace hp41b := Eq.symm hp41b; subst hp41; subst hp41b
          refine r_istore o (lv' := [(6, .int (refI (inB (nI 0) (nI 5) rz) (inB (nI 2) (nI 12) lz && (inB (nI 2) (nI 12) l2z && (decide (lz ≤ l2z) && inB (nI 0) (nI 1) pz))) (fltF sn cntq 21 0))), (5, .int (b01 (inB (nI 2) (nI 12) lz && (inB (nI 2) (nI 12) l2z && (decide (lz ≤ l2z) && inB (nI 0) (nI 1) pz))))), (0, .ref (gad G 0)), (1, .int rz), (2, .int lz), (3, .int l2z), (4, .int pz)]) dX9_oddsOfGreatest_44 (by decide) rfl ?_
          refine r_iload o dX9_oddsOfGreatest_46 0 rfl ?_
          refine r_if_eq o (tgt := 59) dX9_oddsOfGreatest_48 (by decide) (fun hb48 => ?_) (fun hb48 => ?_)
          · skip
            obtain ⟨hk1, hk2, hno⟩ := refI_z hb48
            obtain ⟨hr1, hr2⟩ := inB_nI (n := 5) (by decide) hk1
            rw [Bool.and_eq_true, Bool.and_eq_true, Bool.and_eq_true, decide_eq_true_eq] at hk2
            obtain ⟨hl1, hl2⟩ := inB_nI (n := 12) (by decide) (inB_wk hk2.1)
            have hl3 := inB_ge hk2.1
            obtain ⟨hm1, hm2⟩ := inB_nI (n := 12) (by decide) (inB_wk hk2.2.1)
            have hlm : lz.toNatClampNeg ≤ l2z.toNatClampNeg := by have hz1 := hk2.2.2.1; rw [hl1, hm1, nI_leI (by omega) (by omega)] at hz1; exact hz1
            have hgl := gcnt_le (dlF σ sn cntq rz.toNatClampNeg) 24
            refine r_lv (lv' := [(6, .int (refI (inB (nI 0) (nI 5) rz) (inB (nI 2) (nI 12) lz && (inB (nI 2) (nI 12) l2z && (decide (lz ≤ l2z) && inB (nI 0) (nI 1) pz))) (fltF sn cntq 21 0))), (5, .int (b01 (inB (nI 2) (nI 12) lz && (inB (nI 2) (nI 12) l2z && (decide (lz ≤ l2z) && inB (nI 0) (nI 1) pz))))), (0, .ref (gad G 0)), (1, .int (nI rz.toNatClampNeg)), (2, .int lz), (3, .int l2z), (4, .int pz)]) (congrArg (fun zz => ([(6, .int (refI (inB (nI 0) (nI 5) rz) (inB (nI 2) (nI 12) lz && (inB (nI 2) (nI 12) l2z && (decide (lz ≤ l2z) && inB (nI 0) (nI 1) pz))) (fltF sn cntq 21 0))), (5, .int (b01 (inB (nI 2) (nI 12) lz && (inB (nI 2) (nI 12) l2z && (decide (lz ≤ l2z) && inB (nI 0) (nI 1) pz))))), (0, .ref (gad G 0)), (1, .int zz), (2, .int lz), (3, .int l2z), (4, .int pz)] : List (Nat × Value))) (hr1)) ?_
            refine r_lv (lv' := [(6, .int (refI (inB (nI 0) (nI 5) rz) (inB (nI 2) (nI 12) lz && (inB (nI 2) (nI 12) l2z && (decide (lz ≤ l2z) && inB (nI 0) (nI 1) pz))) (fltF sn cntq 21 0))), (5, .int (b01 (inB (nI 2) (nI 12) lz && (inB (nI 2) (nI 12) l2z && (decide (lz ≤ l2z) && inB (nI 0) (nI 1) pz))))), (0, .ref (gad G 0)), (1, .int (nI rz.toNatClampNeg)), (2, .int (nI lz.toNatClampNeg)), (3, .int l2z), (4, .int pz)]) (congrArg (fun zz => ([(6, .int (refI (inB (nI 0) (nI 5) rz) (inB (nI 2) (nI 12) lz && (inB (nI 2) (nI 12) l2z && (decide (lz ≤ l2z) && inB (nI 0) (nI 1) pz))) (fltF sn cntq 21 0))), (5, .int (b01 (inB (nI 2) (nI 12) lz && (inB (nI 2) (nI 12) l2z && (decide (lz ≤ l2z) && inB (nI 0) (nI 1) pz))))), (0, .ref (gad G 0)), (1, .int (nI rz.toNatClampNeg)), (2, .int zz), (3, .int l2z), (4, .int pz)] : List (Nat × Value))) (hl1)) ?_
            refine r_lv (lv' := [(6, .int (refI (inB (nI 0) (nI 5) rz) (inB (nI 2) (nI 12) lz && (inB (nI 2) (nI 12) l2z && (decide (lz ≤ l2z) && inB (nI 0) (nI 1) pz))) (fltF sn cntq 21 0))), (5, .int (b01 (inB (nI 2) (nI 12) lz && (inB (nI 2) (nI 12) l2z && (decide (lz ≤ l2z) && inB (nI 0) (nI 1) pz))))), (0, .ref (gad G 0)), (1, .int (nI rz.toNatClampNeg)), (2, .int (nI lz.toNatClampNeg)), (3, .int (nI l2z.toNatClampNeg)), (4, .int pz)]) (congrArg (fun zz => ([(6, .int (refI (inB (nI 0) (nI 5) rz) (inB (nI 2) (nI 12) lz && (inB (nI 2) (nI 12) l2z && (decide (lz ≤ l2z) && inB (nI 0) (nI 1) pz))) (fltF sn cntq 21 0))), (5, .int (b01 (inB (nI 2) (nI 12) lz && (inB (nI 2) (nI 12) l2z && (decide (lz ≤ l2z) && inB (nI 0) (nI 1) pz))))), (0, .ref (gad G 0)), (1, .int (nI rz.toNatClampNeg)), (2, .int (nI lz.toNatClampNeg)), (3, .int zz), (4, .int pz)] : List (Nat × Value))) (hm1)) ?_
            refine r_aload_n o dX9_oddsOfGreatest_59 2 rfl ?_
            refine r_iload_n o dX9_oddsOfGreatest_60 3 rfl ?_
            refine r_bipush o (v := nI 24) dX9_oddsOfGreatest_61 (by decide) ?_
            refine r_iload_n o dX9_oddsOfGreatest_63 4 rfl ?_
            refine r_iload_n o dX9_oddsOfGreatest_64 5 rfl ?_
            refine r_callVV o (As := [.int (nI rz.toNatClampNeg), .int (nI 24), .int (nI lz.toNatClampNeg), .int (nI l2z.toNatClampNeg)]) (st := []) (c_X9_takeRounds (xl X) G σ sn cntq hp rz.toNatClampNeg (by omega) 24 (by omega) lz.toNatClampNeg l2z.toNatClampNeg (by omega) hno) om_X9_takeRounds mw_398 mw_7 mw_396 (by decide) rfl rfl rfl (by decide) rfl rfl (Nat.le_of_ble_eq_true rfl) dX9_oddsOfGreatest_65 (fun σσ65 hp65 => ?_)
            obtain ⟨hk2, hk21, hk22, hk20, hk4a, hk4b, hkla, hkag⟩ := hp65
            refine r_aload_n o dX9_oddsOfGreatest_68 2 rfl ?_
            refine gf_0_2 o mw_238 dX9_oddsOfGreatest_69 ?_
            refine gfN_2_3 o (v := nI (gcnt (dlF σ sn cntq rz.toNatClampNeg) 24)) hk2 mw_95 dX9_oddsOfGreatest_72 ?_
            refine r_iconst o (v := nI 1) dX9_oddsOfGreatest_75 (by decide) ?_
            refine r_bipush o (v := nI 7) dX9_oddsOfGreatest_76 (by decide) ?_
            refine r_callSI o (As := [.int (nI (gcnt (dlF σ sn cntq rz.toNatClampNeg) 24)), .int (nI 1), .int (nI 7)]) (st := []) (c_X9_isWithin (xl X) G σσ65 (nI (gcnt (dlF σ sn cntq rz.toNatClampNeg) 24)) (nI 1) (nI 7)) om_X9_isWithin mw_278 mw_277 (by decide) rfl rfl (Nat.le_of_ble_eq_true rfl) dX9_oddsOfGreatest_78 (fun rr78 σσ78 hp78 => ?_)
            obtain ⟨hp78, hp78b⟩ := hp78; replace hp78 := Eq.symm hp78; replace hp78b := Eq.symm hp78b; subst hp78; subst hp78b
            refine r_if_ne o (tgt := 88) dX9_oddsOfGreatest_81 (by decide) (fun hb81 => ?_) (fun hb81 => ?_)
            · skip
              rw [b01_ne0] at hb81
              have hb82 := hb81
              rw [inB_N (by decide) (by decide) (by omega), Bool.and_eq_true, decide_eq_true_eq, decide_eq_true_eq] at hb82
              refine r_aload_n o dX9_oddsOfGreatest_88 2 rfl ?_
              refine r_callVV o (As := []) (st := []) (c_X9_countOrders (xl X) G σσ65 (yeF (dlF σ sn cntq rz.toNatClampNeg) 24) (gcnt (dlF σ sn cntq rz.toNatClampNeg) 24) hk2 (by omega) lz.toNatClampNeg l2z.toNatClampNeg (by omega) hk4a hk4b hkla (nuF (dlF σ sn cntq rz.toNatClampNeg) 24) hk21) om_X9_countOrders mw_462 mw_9 mw_460 (by decide) rfl rfl rfl (by decide) rfl rfl (Nat.le_of_ble_eq_true rfl) dX9_oddsOfGreatest_89 (fun σσ89 hp89 => ?_)
              obtain ⟨hu, hl, hkp⟩ := hp89
              refine r_aload_n o dX9_oddsOfGreatest_92 2 rfl ?_
              refine gf_0_7 o mw_243 dX9_oddsOfGreatest_93 ?_
              refine r_iload o dX9_oddsOfGreatest_96 6 rfl ?_
              refine r_callVL o (As := [.int pz]) (st := []) (c_X2_partOf (xl X) G σσ89 (fU (nI (coR (yeF (dlF σ sn cntq rz.toNatClampNeg) 24) (gcnt (dlF σ sn cntq rz.toNatClampNeg) 24) lz.toNatClampNeg (l2z.toNatClampNeg + 1 - lz.toNatClampNeg) (wgt (yeF (dlF σ sn cntq rz.toNatClampNeg) 24) (gcnt (dlF σ sn cntq rz.toNatClampNeg) 24) (fgS (yeF (dlF σ sn cntq rz.toNatClampNeg) 24) (gcnt (dlF σ sn cntq rz.toNatClampNeg) 24) (nuF (dlF σ sn cntq rz.toNatClampNeg) 24) lz.toNatClampNeg (l2z.toNatClampNeg + 1 - lz.toNatClampNeg)).1 (nuF (dlF σ sn cntq rz.toNatClampNeg) 24)) 5040 (srS (nuF (dlF σ sn cntq rz.toNatClampNeg) 24) (gcnt (dlF σ sn cntq rz.toNatClampNeg) 24))).1).toInt64 (nI (coR (yeF (dlF σ sn cntq rz.toNatClampNeg) 24) (gcnt (dlF σ sn cntq rz.toNatClampNeg) 24) lz.toNatClampNeg (l2z.toNatClampNeg + 1 - lz.toNatClampNeg) (wgt (yeF (dlF σ sn cntq rz.toNatClampNeg) 24) (gcnt (dlF σ sn cntq rz.toNatClampNeg) 24) (fgS (yeF (dlF σ sn cntq rz.toNatClampNeg) 24) (gcnt (dlF σ sn cntq rz.toNatClampNeg) 24) (nuF (dlF σ sn cntq rz.toNatClampNeg) 24) lz.toNatClampNeg (l2z.toNatClampNeg + 1 - lz.toNatClampNeg)).1 (nuF (dlF σ sn cntq rz.toNatClampNeg) 24)) 5040 (srS (nuF (dlF σ sn cntq rz.toNatClampNeg) 24) (gcnt (dlF σ sn cntq rz.toNatClampNeg) 24))).2).toInt64) hu (fL (nI (coR (yeF (dlF σ sn cntq rz.toNatClampNeg) 24) (gcnt (dlF σ sn cntq rz.toNatClampNeg) 24) lz.toNatClampNeg (l2z.toNatClampNeg + 1 - lz.toNatClampNeg) (wgt (yeF (dlF σ sn cntq rz.toNatClampNeg) 24) (gcnt (dlF σ sn cntq rz.toNatClampNeg) 24) (fgS (yeF (dlF σ sn cntq rz.toNatClampNeg) 24) (gcnt (dlF σ sn cntq rz.toNatClampNeg) 24) (nuF (dlF σ sn cntq rz.toNatClampNeg) 24) lz.toNatClampNeg (l2z.toNatClampNeg + 1 - lz.toNatClampNeg)).1 (nuF (dlF σ sn cntq rz.toNatClampNeg) 24)) 5040 (srS (nuF (dlF σ sn cntq rz.toNatClampNeg) 24) (gcnt (dlF σ sn cntq rz.toNatClampNeg) 24))).1).toInt64 (nI (coR (yeF (dlF σ sn cntq rz.toNatClampNeg) 24) (gcnt (dlF σ sn cntq rz.toNatClampNeg) 24) lz.toNatClampNeg (l2z.toNatClampNeg + 1 - lz.toNatClampNeg) (wgt (yeF (dlF σ sn cntq rz.toNatClampNeg) 24) (gcnt (dlF σ sn cntq rz.toNatClampNeg) 24) (fgS (yeF (dlF σ sn cntq rz.toNatClampNeg) 24) (gcnt (dlF σ sn cntq rz.toNatClampNeg) 24) (nuF (dlF σ sn cntq rz.toNatClampNeg) 24) lz.toNatClampNeg (l2z.toNatClampNeg + 1 - lz.toNatClampNeg)).1 (nuF (dlF σ sn cntq rz.toNatClampNeg) 24)) 5040 (srS (nuF (dlF σ sn cntq rz.toNatClampNeg) 24) (gcnt (dlF σ sn cntq rz.toNatClampNeg) 24))).2).toInt64) hl pz) om_X2_partOf mw_448 mw_449 mw_447 (by decide) rfl rfl rfl (by decide) rfl rfl (Nat.le_of_ble_eq_true rfl) dX9_oddsOfGreatest_98 (fun rr98 σσ98 hp98 => ?_)
              obtain ⟨hp98, hp98b⟩ := hp98; replace hp98 := Eq.symm hp98; replace hp98b := Eq.symm hp98b; subst hp98; subst hp98b
              exact r_lreturn o q dX9_oddsOfGreatest_101 (⟨((if_pos hb48).trans (if_neg (by rw [hb81]; decide))).symm, fun cz hcz => by rw [hkp cz hcz]; exact hkag cz (fun hz => hcz (by unfold scr1 at hz; unfold scrC; omega))⟩)
            · skip
              rw [b01_eq0] at hb81
              refine r_ldc2_w o mw_459 dX9_oddsOfGreatest_84 ?_
              exact r_lreturn o q dX9_oddsOfGreatest_87 (⟨((if_pos hb48).trans (if_pos hb81)).symm, fun cz hcz => hkag cz (fun hz => hcz (by unfold scr1 at hz; unfold scrC; omega))⟩)
          · skip
            refine r_ldc2_w o mw_391 dX9_oddsOfGreatest_51 ?_
            refine r_iload o dX9_oddsOfGreatest_54 0 rfl ?_
            refine r_i2l o dX9_oddsOfGreatest_56 rfl ?_
            refine r_ladd o dX9_oddsOfGreatest_57 ?_
            exact r_lreturn o q dX9_oddsOfGreatest_58 (⟨by rw [if_neg hb48]; rfl, fun _ _ => rfl⟩)
        · skip
          rw [b01_ne0] at hb24
          refine r_iconst o (v := nI 1) dX9_oddsOfGreatest_27 (by decide) ?_
          refine r_goto o (tgt := 32) dX9_oddsOfGreatest_28 (by decide) ?_
          refine r_topi (y := b01 (inB (nI 2) (nI 12) lz && (inB (nI 2) (nI 12) l2z && (decide (lz ≤ l2z) && inB (nI 0) (nI 1) pz)))) (by first | (rw [hb4]; rfl) | (rw [hb11]; simp only [Bool.and_false, Bool.false_and]; rfl) | (rw [decide_eq_false (i_nle.mpr hb16)]; simp only [Bool.and_false, Bool.false_and]; rfl) | (rw [hb24]; simp only [Bool.and_false, Bool.false_and]; rfl) | (rw [hb4, hb11, decide_eq_true (i_nlt.mp hb16), hb24]; rfl)) ?_
          refine r_istore o (lv' := [(5, .int (b01 (inB (nI 2) (nI 12) lz && (inB (nI 2) (nI 12) l2z && (decide (lz ≤ l2z) && inB (nI 0) (nI 1) pz))))), (0, .ref (gad G 0)), (1, .int rz), (2, .int lz), (3, .int l2z), (4, .int pz)]) dX9_oddsOfGreatest_32 (by decide) rfl ?_
          refine r_aload_n o dX9_oddsOfGreatest_34 1 rfl ?_
          refine r_iload_n o dX9_oddsOfGreatest_35 2 rfl ?_
          refine r_callSI o (As := [.int rz]) (st := [.ref (gad G 0)]) (c_X9_isRow (xl X) G σ rz) om_X9_isRow mw_275 mw_274 (by decide) rfl rfl (Nat.le_of_ble_eq_true rfl) dX9_oddsOfGreatest_36 (fun rr36 σσ36 hp36 => ?_)
          obtain ⟨hp36, hp36b⟩ := hp36; replace hp36 := Eq.symm hp36; replace hp36b := Eq.symm hp36b; subst hp36; subst hp36b
          refine r_iload o dX9_oddsOfGreatest_39 0 rfl ?_
          refine r_callVI o (As := [.int (b01 (inB (nI 0) (nI 5) rz)), .int (b01 (inB (nI 2) (nI 12) lz && (inB (nI 2) (nI 12) l2z && (decide (lz ≤ l2z) && inB (nI 0) (nI 1) pz))))]) (st := []) (c_X9_refusalOf (xl X) G σ sn cntq hp (inB (nI 0) (nI 5) rz) (inB (nI 2) (nI 12) lz && (inB (nI 2) (nI 12) l2z && (decide (lz ≤ l2z) && inB (nI 0) (nI 1) pz)))) om_X9_refusalOf mw_343 mw_4 mw_341 (by decide) rfl rfl rfl (by decide) rfl rfl (Nat.le_of_ble_eq_true rfl) dX9_oddsOfGreatest_41 (fun rr41 σσ41 hp41 => ?_)
          obtain ⟨hp41, hp41b⟩ := hp41; replace hp41 := Eq.symm hp41; replace hp41b := Eq.symm hp41b; subst hp41; subst hp41b
          refine r_istore o (lv' := [(6, .int (refI (inB (nI 0) (nI 5) rz) (inB (nI 2) (nI 12) lz && (inB (nI 2) (nI 12) l2z && (decide (lz ≤ l2z) && inB (nI 0) (nI 1) pz))) (fltF sn cntq 21 0))), (5, .int (b01 (inB (nI 2) (nI 12) lz && (inB (nI 2) (nI 12) l2z && (decide (lz ≤ l2z) && inB (nI 0) (nI 1) pz))))), (0, .ref (gad G 0)), (1, .int rz), (2, .int lz), (3, .int l2z), (4, .int pz)]) dX9_oddsOfGreatest_44 (by decide) rfl ?_
          refine r_iload o dX9_oddsOfGreatest_46 0 rfl ?_
          refine r_if_eq o (tgt := 59) dX9_oddsOfGreatest_48 (by decide) (fun hb48 => ?_) (fun hb48 => ?_)
          · skip
            obtain ⟨hk1, hk2, hno⟩ := refI_z hb48
            obtain ⟨hr1, hr2⟩ := inB_nI (n := 5) (by decide) hk1
            rw [Bool.and_eq_true, Bool.and_eq_true, Bool.and_eq_true, decide_eq_true_eq] at hk2
            obtain ⟨hl1, hl2⟩ := inB_nI (n := 12) (by decide) (inB_wk hk2.1)
            have hl3 := inB_ge hk2.1
            obtain ⟨hm1, hm2⟩ := inB_nI (n := 12) (by decide) (inB_wk hk2.2.1)
            have hlm : lz.toNatClampNeg ≤ l2z.toNatClampNeg := by have hz1 := hk2.2.2.1; rw [hl1, hm1, nI_leI (by omega) (by omega)] at hz1; exact hz1
            have hgl := gcnt_le (dlF σ sn cntq rz.toNatClampNeg) 24
            refine r_lv (lv' := [(6, .int (refI (inB (nI 0) (nI 5) rz) (inB (nI 2) (nI 12) lz && (inB (nI 2) (nI 12) l2z && (decide (lz ≤ l2z) && inB (nI 0) (nI 1) pz))) (fltF sn cntq 21 0))), (5, .int (b01 (inB (nI 2) (nI 12) lz && (inB (nI 2) (nI 12) l2z && (decide (lz ≤ l2z) && inB (nI 0) (nI 1) pz))))), (0, .ref (gad G 0)), (1, .int (nI rz.toNatClampNeg)), (2, .int lz), (3, .int l2z), (4, .int pz)]) (congrArg (fun zz => ([(6, .int (refI (inB (nI 0) (nI 5) rz) (inB (nI 2) (nI 12) lz && (inB (nI 2) (nI 12) l2z && (decide (lz ≤ l2z) && inB (nI 0) (nI 1) pz))) (fltF sn cntq 21 0))), (5, .int (b01 (inB (nI 2) (nI 12) lz && (inB (nI 2) (nI 12) l2z && (decide (lz ≤ l2z) && inB (nI 0) (nI 1) pz))))), (0, .ref (gad G 0)), (1, .int zz), (2, .int lz), (3, .int l2z), (4, .int pz)] : List (Nat × Value))) (hr1)) ?_
            refine r_lv (lv' := [(6, .int (refI (inB (nI 0) (nI 5) rz) (inB (nI 2) (nI 12) lz && (inB (nI 2) (nI 12) l2z && (decide (lz ≤ l2z) && inB (nI 0) (nI 1) pz))) (fltF sn cntq 21 0))), (5, .int (b01 (inB (nI 2) (nI 12) lz && (inB (nI 2) (nI 12) l2z && (decide (lz ≤ l2z) && inB (nI 0) (nI 1) pz))))), (0, .ref (gad G 0)), (1, .int (nI rz.toNatClampNeg)), (2, .int (nI lz.toNatClampNeg)), (3, .int l2z), (4, .int pz)]) (congrArg (fun zz => ([(6, .int (refI (inB (nI 0) (nI 5) rz) (inB (nI 2) (nI 12) lz && (inB (nI 2) (nI 12) l2z && (decide (lz ≤ l2z) && inB (nI 0) (nI 1) pz))) (fltF sn cntq 21 0))), (5, .int (b01 (inB (nI 2) (nI 12) lz && (inB (nI 2) (nI 12) l2z && (decide (lz ≤ l2z) && inB (nI 0) (nI 1) pz))))), (0, .ref (gad G 0)), (1, .int (nI rz.toNatClampNeg)), (2, .int zz), (3, .int l2z), (4, .int pz)] : List (Nat × Value))) (hl1)) ?_
            refine r_lv (lv' := [(6, .int (refI (inB (nI 0) (nI 5) rz) (inB (nI 2) (nI 12) lz && (inB (nI 2) (nI 12) l2z && (decide (lz ≤ l2z) && inB (nI 0) (nI 1) pz))) (fltF sn cntq 21 0))), (5, .int (b01 (inB (nI 2) (nI 12) lz && (inB (nI 2) (nI 12) l2z && (decide (lz ≤ l2z) && inB (nI 0) (nI 1) pz))))), (0, .ref (gad G 0)), (1, .int (nI rz.toNatClampNeg)), (2, .int (nI lz.toNatClampNeg)), (3, .int (nI l2z.toNatClampNeg)), (4, .int pz)]) (congrArg (fun zz => ([(6, .int (refI (inB (nI 0) (nI 5) rz) (inB (nI 2) (nI 12) lz && (inB (nI 2) (nI 12) l2z && (decide (lz ≤ l2z) && inB (nI 0) (nI 1) pz))) (fltF sn cntq 21 0))), (5, .int (b01 (inB (nI 2) (nI 12) lz && (inB (nI 2) (nI 12) l2z && (decide (lz ≤ l2z) && inB (nI 0) (nI 1) pz))))), (0, .ref (gad G 0)), (1, .int (nI rz.toNatClampNeg)), (2, .int (nI lz.toNatClampNeg)), (3, .int zz), (4, .int pz)] : List (Nat × Value))) (hm1)) ?_
            refine r_aload_n o dX9_oddsOfGreatest_59 2 rfl ?_
            refine r_iload_n o dX9_oddsOfGreatest_60 3 rfl ?_
            refine r_bipush o (v := nI 24) dX9_oddsOfGreatest_61 (by decide) ?_
            refine r_iload_n o dX9_oddsOfGreatest_63 4 rfl ?_
            refine r_iload_n o dX9_oddsOfGreatest_64 5 rfl ?_
            refine r_callVV o (As := [.int (nI rz.toNatClampNeg), .int (nI 24), .int (nI lz.toNatClampNeg), .int (nI l2z.toNatClampNeg)]) (st := []) (c_X9_takeRounds (xl X) G σ sn cntq hp rz.toNatClampNeg (by omega) 24 (by omega) lz.toNatClampNeg l2z.toNatClampNeg (by omega) hno) om_X9_takeRounds mw_398 mw_7 mw_396 (by decide) rfl rfl rfl (by decide) rfl rfl (Nat.le_of_ble_eq_true rfl) dX9_oddsOfGreatest_65 (fun σσ65 hp65 => ?_)
            obtain ⟨hk2, hk21, hk22, hk20, hk4a, hk4b, hkla, hkag⟩ := hp65
            refine r_aload_n o dX9_oddsOfGreatest_68 2 rfl ?_
            refine gf_0_2 o mw_238 dX9_oddsOfGreatest_69 ?_
            refine gfN_2_3 o (v := nI (gcnt (dlF σ sn cntq rz.toNatClampNeg) 24)) hk2 mw_95 dX9_oddsOfGreatest_72 ?_
            refine r_iconst o (v := nI 1) dX9_oddsOfGreatest_75 (by decide) ?_
            refine r_bipush o (v := nI 7) dX9_oddsOfGreatest_76 (by decide) ?_
            refine r_callSI o (As := [.int (nI (gcnt (dlF σ sn cntq rz.toNatClampNeg) 24)), .int (nI 1), .int (nI 7)]) (st := []) (c_X9_isWithin (xl X) G σσ65 (nI (gcnt (dlF σ sn cntq rz.toNatClampNeg) 24)) (nI 1) (nI 7)) om_X9_isWithin mw_278 mw_277 (by decide) rfl rfl (Nat.le_of_ble_eq_true rfl) dX9_oddsOfGreatest_78 (fun rr78 σσ78 hp78 => ?_)
            obtain ⟨hp78, hp78b⟩ := hp78; replace hp78 := Eq.symm hp78; replace hp78b := Eq.symm hp78b; subst hp78; subst hp78b
            refine r_if_ne o (tgt := 88) dX9_oddsOfGreatest_81 (by decide) (fun hb81 => ?_) (fun hb81 => ?_)
            · skip
              rw [b01_ne0] at hb81
              have hb82 := hb81
              rw [inB_N (by decide) (by decide) (by omega), Bool.and_eq_true, decide_eq_true_eq, decide_eq_true_eq] at hb82
              refine r_aload_n o dX9_oddsOfGreatest_88 2 rfl ?_
              refine r_callVV o (As := []) (st := []) (c_X9_countOrders (xl X) G σσ65 (yeF (dlF σ sn cntq rz.toNatClampNeg) 24) (gcnt (dlF σ sn cntq rz.toNatClampNeg) 24) hk2 (by omega) lz.toNatClampNeg l2z.toNatClampNeg (by omega) hk4a hk4b hkla (nuF (dlF σ sn cntq rz.toNatClampNeg) 24) hk21) om_X9_countOrders mw_462 mw_9 mw_460 (by decide) rfl rfl rfl (by decide) rfl rfl (Nat.le_of_ble_eq_true rfl) dX9_oddsOfGreatest_89 (fun σσ89 hp89 => ?_)
              obtain ⟨hu, hl, hkp⟩ := hp89
              refine r_aload_n o dX9_oddsOfGreatest_92 2 rfl ?_
              refine gf_0_7 o mw_243 dX9_oddsOfGreatest_93 ?_
              refine r_iload o dX9_oddsOfGreatest_96 6 rfl ?_
              refine r_callVL o (As := [.int pz]) (st := []) (c_X2_partOf (xl X) G σσ89 (fU (nI (coR (yeF (dlF σ sn cntq rz.toNatClampNeg) 24) (gcnt (dlF σ sn cntq rz.toNatClampNeg) 24) lz.toNatClampNeg (l2z.toNatClampNeg + 1 - lz.toNatClampNeg) (wgt (yeF (dlF σ sn cntq rz.toNatClampNeg) 24) (gcnt (dlF σ sn cntq rz.toNatClampNeg) 24) (fgS (yeF (dlF σ sn cntq rz.toNatClampNeg) 24) (gcnt (dlF σ sn cntq rz.toNatClampNeg) 24) (nuF (dlF σ sn cntq rz.toNatClampNeg) 24) lz.toNatClampNeg (l2z.toNatClampNeg + 1 - lz.toNatClampNeg)).1 (nuF (dlF σ sn cntq rz.toNatClampNeg) 24)) 5040 (srS (nuF (dlF σ sn cntq rz.toNatClampNeg) 24) (gcnt (dlF σ sn cntq rz.toNatClampNeg) 24))).1).toInt64 (nI (coR (yeF (dlF σ sn cntq rz.toNatClampNeg) 24) (gcnt (dlF σ sn cntq rz.toNatClampNeg) 24) lz.toNatClampNeg (l2z.toNatClampNeg + 1 - lz.toNatClampNeg) (wgt (yeF (dlF σ sn cntq rz.toNatClampNeg) 24) (gcnt (dlF σ sn cntq rz.toNatClampNeg) 24) (fgS (yeF (dlF σ sn cntq rz.toNatClampNeg) 24) (gcnt (dlF σ sn cntq rz.toNatClampNeg) 24) (nuF (dlF σ sn cntq rz.toNatClampNeg) 24) lz.toNatClampNeg (l2z.toNatClampNeg + 1 - lz.toNatClampNeg)).1 (nuF (dlF σ sn cntq rz.toNatClampNeg) 24)) 5040 (srS (nuF (dlF σ sn cntq rz.toNatClampNeg) 24) (gcnt (dlF σ sn cntq rz.toNatClampNeg) 24))).2).toInt64) hu (fL (nI (coR (yeF (dlF σ sn cntq rz.toNatClampNeg) 24) (gcnt (dlF σ sn cntq rz.toNatClampNeg) 24) lz.toNatClampNeg (l2z.toNatClampNeg + 1 - lz.toNatClampNeg) (wgt (yeF (dlF σ sn cntq rz.toNatClampNeg) 24) (gcnt (dlF σ sn cntq rz.toNatClampNeg) 24) (fgS (yeF (dlF σ sn cntq rz.toNatClampNeg) 24) (gcnt (dlF σ sn cntq rz.toNatClampNeg) 24) (nuF (dlF σ sn cntq rz.toNatClampNeg) 24) lz.toNatClampNeg (l2z.toNatClampNeg + 1 - lz.toNatClampNeg)).1 (nuF (dlF σ sn cntq rz.toNatClampNeg) 24)) 5040 (srS (nuF (dlF σ sn cntq rz.toNatClampNeg) 24) (gcnt (dlF σ sn cntq rz.toNatClampNeg) 24))).1).toInt64 (nI (coR (yeF (dlF σ sn cntq rz.toNatClampNeg) 24) (gcnt (dlF σ sn cntq rz.toNatClampNeg) 24) lz.toNatClampNeg (l2z.toNatClampNeg + 1 - lz.toNatClampNeg) (wgt (yeF (dlF σ sn cntq rz.toNatClampNeg) 24) (gcnt (dlF σ sn cntq rz.toNatClampNeg) 24) (fgS (yeF (dlF σ sn cntq rz.toNatClampNeg) 24) (gcnt (dlF σ sn cntq rz.toNatClampNeg) 24) (nuF (dlF σ sn cntq rz.toNatClampNeg) 24) lz.toNatClampNeg (l2z.toNatClampNeg + 1 - lz.toNatClampNeg)).1 (nuF (dlF σ sn cntq rz.toNatClampNeg) 24)) 5040 (srS (nuF (dlF σ sn cntq rz.toNatClampNeg) 24) (gcnt (dlF σ sn cntq rz.toNatClampNeg) 24))).2).toInt64) hl pz) om_X2_partOf mw_448 mw_449 mw_447 (by decide) rfl rfl rfl (by decide) rfl rfl (Nat.le_of_ble_eq_true rfl) dX9_oddsOfGreatest_98 (fun rr98 σσ98 hp98 => ?_)
              obtain ⟨hp98, hp98b⟩ := hp98; replace hp98 := Eq.symm hp98; replace hp98b := Eq.symm hp98b; subst hp98; subst hp98b
              exact r_lreturn o q dX9_oddsOfGreatest_101 (⟨((if_pos hb48).trans (if_neg (by rw [hb81]; decide))).symm, fun cz hcz => by rw [hkp cz hcz]; exact hkag cz (fun hz => hcz (by unfold scr1 at hz; unfold scrC; omega))⟩)
            · skip
              rw [b01_eq0] at hb81
              refine r_ldc2_w o mw_459 dX9_oddsOfGreatest_84 ?_
              exact r_lreturn o q dX9_oddsOfGreatest_87 (⟨((if_pos hb48).trans (if_pos hb81)).symm, fun cz hcz => hkag cz (fun hz => hcz (by unfold scr1 at hz; unfold scrC; omega))⟩)
          · skip
            refine r_ldc2_w o mw_391 dX9_oddsOfGreatest_51 ?_
            refine r_iload o dX9_oddsOfGreatest_54 0 rfl ?_
            refine r_i2l o dX9_oddsOfGreatest_56 rfl ?_
            refine r_ladd o dX9_oddsOfGreatest_57 ?_
            exact r_lreturn o q dX9_oddsOfGreatest_58 (⟨by rw [if_neg hb48]; rfl, fun _ _ => rfl⟩)
set_option maxHeartbeats 4000000 in
set_option maxRecDepth 100000 in
theorem c_X9_tried (l : Launch) (G : Gl) (σ : Sto) (sn : Nat → Nat) (cntq : Nat) (hp : PadO σ sn cntq) (rz : Int32) (lz : Int32) (l2z : Int32) (pz : Int32) : CtL l G yX9_tried cX9_tried 5 (some .long) 7 161 [.ref (gad G 0), .int rz, .int lz, .int l2z, .int pz] σ (fun r σ' => r = (if refI (inB (nI 0) (nI 5) rz) ((inB (nI 2) (nI 12) lz && (inB (nI 2) (nI 12) l2z && (decide (lz ≤ l2z) && inB (nI 0) (nI 1) pz)))) (fltF sn cntq 21 0) = 0 then (if inB (nI 1) (nI 7) (nI (gcnt (dlF σ sn cntq rz.toNatClampNeg) 24)) = false then -1000000000000000003 else if pz = 0 then fU (nI (coR (yeF (dlF σ sn cntq rz.toNatClampNeg) 24) (gcnt (dlF σ sn cntq rz.toNatClampNeg) 24) lz.toNatClampNeg (l2z.toNatClampNeg + 1 - lz.toNatClampNeg) (wgt (yeF (dlF σ sn cntq rz.toNatClampNeg) 24) (gcnt (dlF σ sn cntq rz.toNatClampNeg) 24) (fgS (yeF (dlF σ sn cntq rz.toNatClampNeg) 24) (gcnt (dlF σ sn cntq rz.toNatClampNeg) 24) (nuF (dlF σ sn cntq rz.toNatClampNeg) 24) lz.toNatClampNeg (l2z.toNatClampNeg + 1 - lz.toNatClampNeg)).1 (nuF (dlF σ sn cntq rz.toNatClampNeg) 24)) 5040 (srS (nuF (dlF σ sn cntq rz.toNatClampNeg) 24) (gcnt (dlF σ sn cntq rz.toNatClampNeg) 24))).1).toInt64 (nI (coR (yeF (dlF σ sn cntq rz.toNatClampNeg) 24) (gcnt (dlF σ sn cntq rz.toNatClampNeg) 24) lz.toNatClampNeg (l2z.toNatClampNeg + 1 - lz.toNatClampNeg) (wgt (yeF (dlF σ sn cntq rz.toNatClampNeg) 24) (gcnt (dlF σ sn cntq rz.toNatClampNeg) 24) (fgS (yeF (dlF σ sn cntq rz.toNatClampNeg) 24) (gcnt (dlF σ sn cntq rz.toNatClampNeg) 24) (nuF (dlF σ sn cntq rz.toNatClampNeg) 24) lz.toNatClampNeg (l2z.toNatClampNeg + 1 - lz.toNatClampNeg)).1 (nuF (dlF σ sn cntq rz.toNatClampNeg) 24)) 5040 (srS (nuF (dlF σ sn cntq rz.toNatClampNeg) 24) (gcnt (dlF σ sn cntq rz.toNatClampNeg) 24))).2).toInt64 else fL (nI (coR (yeF (dlF σ sn cntq rz.toNatClampNeg) 24) (gcnt (dlF σ sn cntq rz.toNatClampNeg) 24) lz.toNatClampNeg (l2z.toNatClampNeg + 1 - lz.toNatClampNeg) (wgt (yeF (dlF σ sn cntq rz.toNatClampNeg) 24) (gcnt (dlF σ sn cntq rz.toNatClampNeg) 24) (fgS (yeF (dlF σ sn cntq rz.toNatClampNeg) 24) (gcnt (dlF σ sn cntq rz.toNatClampNeg) 24) (nuF (dlF σ sn cntq rz.toNatClampNeg) 24) lz.toNatClampNeg (l2z.toNatClampNeg + 1 - lz.toNatClampNeg)).1 (nuF (dlF σ sn cntq rz.toNatClampNeg) 24)) 5040 (srS (nuF (dlF σ sn cntq rz.toNatClampNeg) 24) (gcnt (dlF σ sn cntq rz.toNatClampNeg) 24))).1).toInt64 (nI (coR (yeF (dlF σ sn cntq rz.toNatClampNeg) 24) (gcnt (dlF σ sn cntq rz.toNatClampNeg) 24) lz.toNatClampNeg (l2z.toNatClampNeg + 1 - lz.toNatClampNeg) (wgt (yeF (dlF σ sn cntq rz.toNatClampNeg) 24) (gcnt (dlF σ sn cntq rz.toNatClampNeg) 24) (fgS (yeF (dlF σ sn cntq rz.toNatClampNeg) 24) (gcnt (dlF σ sn cntq rz.toNatClampNeg) 24) (nuF (dlF σ sn cntq rz.toNatClampNeg) 24) lz.toNatClampNeg (l2z.toNatClampNeg + 1 - lz.toNatClampNeg)).1 (nuF (dlF σ sn cntq rz.toNatClampNeg) 24)) 5040 (srS (nuF (dlF σ sn cntq rz.toNatClampNeg) 24) (gcnt (dlF σ sn cntq rz.toNatClampNeg) 24))).2).toInt64) else LOSTq + (refI (inB (nI 0) (nI 5) rz) ((inB (nI 2) (nI 12) lz && (inB (nI 2) (nI 12) l2z && (decide (lz ≤ l2z) && inB (nI 0) (nI 1) pz)))) (fltF sn cntq 21 0)).toInt64) ∧ keepC σ σ') := by
  refine CtL.of (by decide +kernel) (Nat.le_of_ble_eq_true rfl) (fun X o q => ?_)
  show WS X G 5 σ 0 [(0, .ref (gad G 0)), (1, .int rz), (2, .int lz), (3, .int l2z), (4, .int pz)] []
  refine r_aload_n o dX9_tried_0 0 rfl ?_
  refine r_iload_n o dX9_tried_1 1 rfl ?_
  refine r_iload_n o dX9_tried_2 2 rfl ?_
  refine r_iload_n o dX9_tried_3 3 rfl ?_
  refine r_iload o dX9_tried_4 4 rfl ?_
  refine r_callVL o (As := [.int rz, .int lz, .int l2z, .int pz]) (st := []) (c_X9_oddsOfGreatest (xl X) G σ sn cntq hp rz lz l2z pz) om_X9_oddsOfGreatest mw_457 mw_8 mw_455 (by decide) rfl rfl rfl (by decide) rfl rfl (Nat.le_of_ble_eq_true rfl) dX9_tried_6 (fun rr6 σσ6 hp6 => ?_)
  exact r_lreturn o q dX9_tried_9 hp6
set_option maxHeartbeats 4000000 in
set_option maxRecDepth 100000 in
theorem c_X9_odds (l : Launch) (G : Gl) (σ : Sto) (sn : Nat → Nat) (cntq : Nat) (hp : PadO σ sn cntq) (rz : Int32) (lz : Int32) (pz : Int32) : CtL l G yX9_odds cX9_odds 4 (some .long) 7 161 [.ref (gad G 0), .int rz, .int lz, .int pz] σ (fun r σ' => r = (if refI (inB (nI 0) (nI 5) rz) ((inB (nI 2) (nI 12) lz && (inB (nI 2) (nI 12) lz && (decide (lz ≤ lz) && inB (nI 0) (nI 1) pz)))) (fltF sn cntq 21 0) = 0 then (if inB (nI 1) (nI 7) (nI (gcnt (dlF σ sn cntq rz.toNatClampNeg) 24)) = false then -1000000000000000003 else if pz = 0 then fU (nI (coR (yeF (dlF σ sn cntq rz.toNatClampNeg) 24) (gcnt (dlF σ sn cntq rz.toNatClampNeg) 24) lz.toNatClampNeg (lz.toNatClampNeg + 1 - lz.toNatClampNeg) (wgt (yeF (dlF σ sn cntq rz.toNatClampNeg) 24) (gcnt (dlF σ sn cntq rz.toNatClampNeg) 24) (fgS (yeF (dlF σ sn cntq rz.toNatClampNeg) 24) (gcnt (dlF σ sn cntq rz.toNatClampNeg) 24) (nuF (dlF σ sn cntq rz.toNatClampNeg) 24) lz.toNatClampNeg (lz.toNatClampNeg + 1 - lz.toNatClampNeg)).1 (nuF (dlF σ sn cntq rz.toNatClampNeg) 24)) 5040 (srS (nuF (dlF σ sn cntq rz.toNatClampNeg) 24) (gcnt (dlF σ sn cntq rz.toNatClampNeg) 24))).1).toInt64 (nI (coR (yeF (dlF σ sn cntq rz.toNatClampNeg) 24) (gcnt (dlF σ sn cntq rz.toNatClampNeg) 24) lz.toNatClampNeg (lz.toNatClampNeg + 1 - lz.toNatClampNeg) (wgt (yeF (dlF σ sn cntq rz.toNatClampNeg) 24) (gcnt (dlF σ sn cntq rz.toNatClampNeg) 24) (fgS (yeF (dlF σ sn cntq rz.toNatClampNeg) 24) (gcnt (dlF σ sn cntq rz.toNatClampNeg) 24) (nuF (dlF σ sn cntq rz.toNatClampNeg) 24) lz.toNatClampNeg (lz.toNatClampNeg + 1 - lz.toNatClampNeg)).1 (nuF (dlF σ sn cntq rz.toNatClampNeg) 24)) 5040 (srS (nuF (dlF σ sn cntq rz.toNatClampNeg) 24) (gcnt (dlF σ sn cntq rz.toNatClampNeg) 24))).2).toInt64 else fL (nI (coR (yeF (dlF σ sn cntq rz.toNatClampNeg) 24) (gcnt (dlF σ sn cntq rz.toNatClampNeg) 24) lz.toNatClampNeg (lz.toNatClampNeg + 1 - lz.toNatClampNeg) (wgt (yeF (dlF σ sn cntq rz.toNatClampNeg) 24) (gcnt (dlF σ sn cntq rz.toNatClampNeg) 24) (fgS (yeF (dlF σ sn cntq rz.toNatClampNeg) 24) (gcnt (dlF σ sn cntq rz.toNatClampNeg) 24) (nuF (dlF σ sn cntq rz.toNatClampNeg) 24) lz.toNatClampNeg (lz.toNatClampNeg + 1 - lz.toNatClampNeg)).1 (nuF (dlF σ sn cntq rz.toNatClampNeg) 24)) 5040 (srS (nuF (dlF σ sn cntq rz.toNatClampNeg) 24) (gcnt (dlF σ sn cntq rz.toNatClampNeg) 24))).1).toInt64 (nI (coR (yeF (dlF σ sn cntq rz.toNatClampNeg) 24) (gcnt (dlF σ sn cntq rz.toNatClampNeg) 24) lz.toNatClampNeg (lz.toNatClampNeg + 1 - lz.toNatClampNeg) (wgt (yeF (dlF σ sn cntq rz.toNatClampNeg) 24) (gcnt (dlF σ sn cntq rz.toNatClampNeg) 24) (fgS (yeF (dlF σ sn cntq rz.toNatClampNeg) 24) (gcnt (dlF σ sn cntq rz.toNatClampNeg) 24) (nuF (dlF σ sn cntq rz.toNatClampNeg) 24) lz.toNatClampNeg (lz.toNatClampNeg + 1 - lz.toNatClampNeg)).1 (nuF (dlF σ sn cntq rz.toNatClampNeg) 24)) 5040 (srS (nuF (dlF σ sn cntq rz.toNatClampNeg) 24) (gcnt (dlF σ sn cntq rz.toNatClampNeg) 24))).2).toInt64) else LOSTq + (refI (inB (nI 0) (nI 5) rz) ((inB (nI 2) (nI 12) lz && (inB (nI 2) (nI 12) lz && (decide (lz ≤ lz) && inB (nI 0) (nI 1) pz)))) (fltF sn cntq 21 0)).toInt64) ∧ keepC σ σ') := by
  refine CtL.of (by decide +kernel) (Nat.le_of_ble_eq_true rfl) (fun X o q => ?_)
  show WS X G 4 σ 0 [(0, .ref (gad G 0)), (1, .int rz), (2, .int lz), (3, .int pz)] []
  refine r_aload_n o dX9_odds_0 0 rfl ?_
  refine r_iload_n o dX9_odds_1 1 rfl ?_
  refine r_iload_n o dX9_odds_2 2 rfl ?_
  refine r_iload_n o dX9_odds_3 2 rfl ?_
  refine r_iload_n o dX9_odds_4 3 rfl ?_
  refine r_callVL o (As := [.int rz, .int lz, .int lz, .int pz]) (st := []) (c_X9_oddsOfGreatest (xl X) G σ sn cntq hp rz lz lz pz) om_X9_oddsOfGreatest mw_457 mw_8 mw_455 (by decide) rfl rfl rfl (by decide) rfl rfl (Nat.le_of_ble_eq_true rfl) dX9_odds_5 (fun rr5 σσ5 hp5 => ?_)
  exact r_lreturn o q dX9_odds_8 hp5
set_option maxHeartbeats 4000000 in
set_option maxRecDepth 100000 in
theorem c_X9_drawn (l : Launch) (G : Gl) (σ : Sto) (sn : Nat → Nat) (cntq : Nat) (hp : PadO σ sn cntq) (rz : Int32) (lz : Int32) (nz : Int32) (sdz : Int32) : CtI l G yX9_drawn cX9_drawn 11 (some .int) 6 135 [.ref (gad G 0), .int rz, .int lz, .int nz, .int sdz] σ (fun r σ' => r = (if refI (inB (nI 0) (nI 5) rz) ((inB (nI 2) (nI 12) lz && (inB (nI 1) (nI 100) nz && inB (nI 1) (nI 1000000) sdz))) (fltF sn cntq 21 0) = 0 then nI (dnR (yeF (dlF σ sn cntq rz.toNatClampNeg) 24) (gcnt (dlF σ sn cntq rz.toNatClampNeg) 24) lz.toNatClampNeg (wgt (yeF (dlF σ sn cntq rz.toNatClampNeg) 24) (gcnt (dlF σ sn cntq rz.toNatClampNeg) 24) lz.toNatClampNeg (nuF (dlF σ sn cntq rz.toNatClampNeg) 24)) nz.toNatClampNeg (nuF (dlF σ sn cntq rz.toNatClampNeg) 24) sdz.toNatClampNeg) else refI (inB (nI 0) (nI 5) rz) ((inB (nI 2) (nI 12) lz && (inB (nI 1) (nI 100) nz && inB (nI 1) (nI 1000000) sdz))) (fltF sn cntq 21 0)) ∧ keepC σ σ') := by
  refine CtI.of (by decide +kernel) (Nat.le_of_ble_eq_true rfl) (fun X o q => ?_)
  show WS X G 11 σ 0 [(0, .ref (gad G 0)), (1, .int rz), (2, .int lz), (3, .int nz), (4, .int sdz)] []
  obtain ⟨hcq, hcnt, hsg, hsn⟩ := id hp
  refine r_iload_n o dX9_drawn_0 2 rfl ?_
  refine r_callSI o (As := [.int lz]) (st := []) (c_X9_isLength (xl X) G σ lz) om_X9_isLength mw_386 mw_385 (by decide) rfl rfl (Nat.le_of_ble_eq_true rfl) dX9_drawn_1 (fun rr1 σσ1 hp1 => ?_)
  obtain ⟨hp1, hp1b⟩ := hp1; replace hp1 := Eq.symm hp1; replace hp1b := Eq.symm hp1b; subst hp1; subst hp1b
  refine r_if_eq o (tgt := 32) dX9_drawn_4 (by decide) (fun hb4 => ?_) (fun hb4 => ?_)
  · skip
    rw [b01_eq0] at hb4
    refine r_iconst o (v := nI 0) dX9_drawn_32 (by decide) ?_
    refine r_topi (y := b01 (inB (nI 2) (nI 12) lz && (inB (nI 1) (nI 100) nz && inB (nI 1) (nI 1000000) sdz))) (by first | (rw [hb4]; rfl) | (rw [hb14]; simp only [Bool.and_false, Bool.false_and]; rfl) | (rw [hb25]; simp only [Bool.and_false, Bool.false_and]; rfl) | (rw [hb4, hb14, hb25]; rfl)) ?_
    refine r_istore o (lv' := [(5, .int (b01 (inB (nI 2) (nI 12) lz && (inB (nI 1) (nI 100) nz && inB (nI 1) (nI 1000000) sdz)))), (0, .ref (gad G 0)), (1, .int rz), (2, .int lz), (3, .int nz), (4, .int sdz)]) dX9_drawn_33 (by decide) rfl ?_
    refine r_aload_n o dX9_drawn_35 1 rfl ?_
    refine r_iload_n o dX9_drawn_36 2 rfl ?_
    refine r_callSI o (As := [.int rz]) (st := [.ref (gad G 0)]) (c_X9_isRow (xl X) G σ rz) om_X9_isRow mw_275 mw_274 (by decide) rfl rfl (Nat.le_of_ble_eq_true rfl) dX9_drawn_37 (fun rr37 σσ37 hp37 => ?_)
    obtain ⟨hp37, hp37b⟩ := hp37; replace hp37 := Eq.symm hp37; replace hp37b := Eq.symm hp37b; subst hp37; subst hp37b
    refine r_iload o dX9_drawn_40 0 rfl ?_
    refine r_callVI o (As := [.int (b01 (inB (nI 0) (nI 5) rz)), .int (b01 (inB (nI 2) (nI 12) lz && (inB (nI 1) (nI 100) nz && inB (nI 1) (nI 1000000) sdz)))]) (st := []) (c_X9_refusalOf (xl X) G σ sn cntq hp (inB (nI 0) (nI 5) rz) (inB (nI 2) (nI 12) lz && (inB (nI 1) (nI 100) nz && inB (nI 1) (nI 1000000) sdz))) om_X9_refusalOf mw_343 mw_4 mw_341 (by decide) rfl rfl rfl (by decide) rfl rfl (Nat.le_of_ble_eq_true rfl) dX9_drawn_42 (fun rr42 σσ42 hp42 => ?_)
    obtain ⟨hp42, hp42b⟩ := hp42; replace hp42 := Eq.symm hp42; replace hp42b := Eq.symm hp42b; subst hp42; subst hp42b
    refine r_istore o (lv' := [(6, .int (refI (inB (nI 0) (nI 5) rz) (inB (nI 2) (nI 12) lz && (inB (nI 1) (nI 100) nz && inB (nI 1) (nI 1000000) sdz)) (fltF sn cntq 21 0))), (5, .int (b01 (inB (nI 2) (nI 12) lz && (inB (nI 1) (nI 100) nz && inB (nI 1) (nI 1000000) sdz)))), (0, .ref (gad G 0)), (1, .int rz), (2, .int lz), (3, .int nz), (4, .int sdz)]) dX9_drawn_45 (by decide) rfl ?_
    refine r_iload o dX9_drawn_47 0 rfl ?_
    refine r_if_eq o (tgt := 55) dX9_drawn_49 (by decide) (fun hb49 => ?_) (fun hb49 => ?_)
    · skip
      obtain ⟨hk1, hk2, hno⟩ := refI_z hb49
      obtain ⟨hr1, hr2⟩ := inB_nI (n := 5) (by decide) hk1
      rw [Bool.and_eq_true, Bool.and_eq_true] at hk2
      obtain ⟨hl1, hl2⟩ := inB_nI (n := 12) (by decide) (inB_wk hk2.1)
      have hl3 := inB_ge hk2.1
      obtain ⟨hm1, hm2⟩ := inB_nI (n := 100) (by decide) (inB_wk hk2.2.1)
      obtain ⟨hs1, hs2⟩ := inB_nI (n := 1000000) (by decide) (inB_wk hk2.2.2)
      have hgl := gcnt_le (dlF σ sn cntq rz.toNatClampNeg) 24
      refine r_lv (lv' := [(6, .int (refI (inB (nI 0) (nI 5) rz) (inB (nI 2) (nI 12) lz && (inB (nI 1) (nI 100) nz && inB (nI 1) (nI 1000000) sdz)) (fltF sn cntq 21 0))), (5, .int (b01 (inB (nI 2) (nI 12) lz && (inB (nI 1) (nI 100) nz && inB (nI 1) (nI 1000000) sdz)))), (0, .ref (gad G 0)), (1, .int (nI rz.toNatClampNeg)), (2, .int lz), (3, .int nz), (4, .int sdz)]) (congrArg (fun zz => ([(6, .int (refI (inB (nI 0) (nI 5) rz) (inB (nI 2) (nI 12) lz && (inB (nI 1) (nI 100) nz && inB (nI 1) (nI 1000000) sdz)) (fltF sn cntq 21 0))), (5, .int (b01 (inB (nI 2) (nI 12) lz && (inB (nI 1) (nI 100) nz && inB (nI 1) (nI 1000000) sdz)))), (0, .ref (gad G 0)), (1, .int zz), (2, .int lz), (3, .int nz), (4, .int sdz)] : List (Nat × Value))) (hr1)) ?_
      refine r_lv (lv' := [(6, .int (refI (inB (nI 0) (nI 5) rz) (inB (nI 2) (nI 12) lz && (inB (nI 1) (nI 100) nz && inB (nI 1) (nI 1000000) sdz)) (fltF sn cntq 21 0))), (5, .int (b01 (inB (nI 2) (nI 12) lz && (inB (nI 1) (nI 100) nz && inB (nI 1) (nI 1000000) sdz)))), (0, .ref (gad G 0)), (1, .int (nI rz.toNatClampNeg)), (2, .int (nI lz.toNatClampNeg)), (3, .int nz), (4, .int sdz)]) (congrArg (fun zz => ([(6, .int (refI (inB (nI 0) (nI 5) rz) (inB (nI 2) (nI 12) lz && (inB (nI 1) (nI 100) nz && inB (nI 1) (nI 1000000) sdz)) (fltF sn cntq 21 0))), (5, .int (b01 (inB (nI 2) (nI 12) lz && (inB (nI 1) (nI 100) nz && inB (nI 1) (nI 1000000) sdz)))), (0, .ref (gad G 0)), (1, .int (nI rz.toNatClampNeg)), (2, .int zz), (3, .int nz), (4, .int sdz)] : List (Nat × Value))) (hl1)) ?_
      refine r_lv (lv' := [(6, .int (refI (inB (nI 0) (nI 5) rz) (inB (nI 2) (nI 12) lz && (inB (nI 1) (nI 100) nz && inB (nI 1) (nI 1000000) sdz)) (fltF sn cntq 21 0))), (5, .int (b01 (inB (nI 2) (nI 12) lz && (inB (nI 1) (nI 100) nz && inB (nI 1) (nI 1000000) sdz)))), (0, .ref (gad G 0)), (1, .int (nI rz.toNatClampNeg)), (2, .int (nI lz.toNatClampNeg)), (3, .int (nI nz.toNatClampNeg)), (4, .int sdz)]) (congrArg (fun zz => ([(6, .int (refI (inB (nI 0) (nI 5) rz) (inB (nI 2) (nI 12) lz && (inB (nI 1) (nI 100) nz && inB (nI 1) (nI 1000000) sdz)) (fltF sn cntq 21 0))), (5, .int (b01 (inB (nI 2) (nI 12) lz && (inB (nI 1) (nI 100) nz && inB (nI 1) (nI 1000000) sdz)))), (0, .ref (gad G 0)), (1, .int (nI rz.toNatClampNeg)), (2, .int (nI lz.toNatClampNeg)), (3, .int zz), (4, .int sdz)] : List (Nat × Value))) (hm1)) ?_
      refine r_lv (lv' := [(6, .int (refI (inB (nI 0) (nI 5) rz) (inB (nI 2) (nI 12) lz && (inB (nI 1) (nI 100) nz && inB (nI 1) (nI 1000000) sdz)) (fltF sn cntq 21 0))), (5, .int (b01 (inB (nI 2) (nI 12) lz && (inB (nI 1) (nI 100) nz && inB (nI 1) (nI 1000000) sdz)))), (0, .ref (gad G 0)), (1, .int (nI rz.toNatClampNeg)), (2, .int (nI lz.toNatClampNeg)), (3, .int (nI nz.toNatClampNeg)), (4, .int (nI sdz.toNatClampNeg))]) (congrArg (fun zz => ([(6, .int (refI (inB (nI 0) (nI 5) rz) (inB (nI 2) (nI 12) lz && (inB (nI 1) (nI 100) nz && inB (nI 1) (nI 1000000) sdz)) (fltF sn cntq 21 0))), (5, .int (b01 (inB (nI 2) (nI 12) lz && (inB (nI 1) (nI 100) nz && inB (nI 1) (nI 1000000) sdz)))), (0, .ref (gad G 0)), (1, .int (nI rz.toNatClampNeg)), (2, .int (nI lz.toNatClampNeg)), (3, .int (nI nz.toNatClampNeg)), (4, .int zz)] : List (Nat × Value))) (hs1)) ?_
      refine r_aload_n o dX9_drawn_55 2 rfl ?_
      refine r_iload_n o dX9_drawn_56 3 rfl ?_
      refine r_bipush o (v := nI 24) dX9_drawn_57 (by decide) ?_
      refine r_iload_n o dX9_drawn_59 4 rfl ?_
      refine r_iload_n o dX9_drawn_60 4 rfl ?_
      refine r_callVV o (As := [.int (nI rz.toNatClampNeg), .int (nI 24), .int (nI lz.toNatClampNeg), .int (nI lz.toNatClampNeg)]) (st := []) (c_X9_takeRounds (xl X) G σ sn cntq hp rz.toNatClampNeg (by omega) 24 (by omega) lz.toNatClampNeg lz.toNatClampNeg (by omega) hno) om_X9_takeRounds mw_398 mw_7 mw_396 (by decide) rfl rfl rfl (by decide) rfl rfl (Nat.le_of_ble_eq_true rfl) dX9_drawn_61 (fun σσ61 hp61 => ?_)
      obtain ⟨hk2, hk21, hk22, hk20, hk4a, hk4b, hkla, hkag⟩ := hp61
      refine r_aload_n o dX9_drawn_64 2 rfl ?_
      refine gf_0_4 o mw_240 dX9_drawn_65 ?_
      refine r_aload_n o dX9_drawn_68 2 rfl ?_
      refine gf_0_2 o mw_238 dX9_drawn_69 ?_
      refine gfN_2_1 o mw_87 dX9_drawn_72 ?_
      refine r_callVL o (As := [.ref (gad G 21)]) (st := []) (c_X8_greatest (xl X) G σσ61 (yeF (dlF σ sn cntq rz.toNatClampNeg) 24) (gcnt (dlF σ sn cntq rz.toNatClampNeg) 24) lz.toNatClampNeg lz.toNatClampNeg (by omega) hk4a hk4b hkla ((σσ61 21).1) rfl) om_X8_greatest mw_420 mw_421 mw_419 (by decide) rfl rfl rfl (by decide) rfl rfl (Nat.le_of_ble_eq_true rfl) dX9_drawn_75 (fun rr75 σσ75 hp75 => ?_)
      obtain ⟨hp75, hp75b⟩ := hp75; replace hp75 := Eq.symm hp75; replace hp75b := Eq.symm hp75b; subst hp75; subst hp75b
      refine r_topl (y := (wgt (yeF (dlF σ sn cntq rz.toNatClampNeg) 24) (gcnt (dlF σ sn cntq rz.toNatClampNeg) 24) lz.toNatClampNeg (nuF (dlF σ sn cntq rz.toNatClampNeg) 24))) (by rw [fgS_one]; exact wg_cong hk21) ?_
      refine r_lstore o (lv' := [(7, .long (wgt (yeF (dlF σ sn cntq rz.toNatClampNeg) 24) (gcnt (dlF σ sn cntq rz.toNatClampNeg) 24) lz.toNatClampNeg (nuF (dlF σ sn cntq rz.toNatClampNeg) 24))), (6, .int (refI (inB (nI 0) (nI 5) rz) (inB (nI 2) (nI 12) lz && (inB (nI 1) (nI 100) nz && inB (nI 1) (nI 1000000) sdz)) (fltF sn cntq 21 0))), (5, .int (b01 (inB (nI 2) (nI 12) lz && (inB (nI 1) (nI 100) nz && inB (nI 1) (nI 1000000) sdz)))), (0, .ref (gad G 0)), (1, .int (nI rz.toNatClampNeg)), (2, .int (nI lz.toNatClampNeg)), (3, .int (nI nz.toNatClampNeg)), (4, .int (nI sdz.toNatClampNeg))]) dX9_drawn_78 (by decide) rfl ?_
      refine r_aload_n o dX9_drawn_80 3 rfl ?_
      refine gf_0_5 o mw_241 dX9_drawn_81 ?_
      refine r_aload_n o dX9_drawn_84 3 rfl ?_
      refine gf_0_2 o mw_238 dX9_drawn_85 ?_
      refine r_iload o dX9_drawn_88 7 rfl ?_
      refine r_callVV o (As := [.ref (gad G 2), .int (nI sdz.toNatClampNeg)]) (st := []) (c_X4_begin (xl X) G σσ61 (gcnt (dlF σ sn cntq rz.toNatClampNeg) 24) hk2 hgl ((σσ61 21).1) rfl ((σσ61 26).1) rfl (nI sdz.toNatClampNeg)) om_X4_begin mw_465 mw_466 mw_464 (by decide) rfl rfl rfl (by decide) rfl rfl (Nat.le_of_ble_eq_true rfl) dX9_drawn_90 (fun σσ90 hp90 => ?_)
      replace hp90 := Eq.symm hp90; subst hp90
      refine r_iconst o (v := nI 0) dX9_drawn_93 (by decide) ?_
      refine r_istore o (lv' := [(9, .int (nI 0)), (7, .long (wgt (yeF (dlF σ sn cntq rz.toNatClampNeg) 24) (gcnt (dlF σ sn cntq rz.toNatClampNeg) 24) lz.toNatClampNeg (nuF (dlF σ sn cntq rz.toNatClampNeg) 24))), (6, .int (refI (inB (nI 0) (nI 5) rz) (inB (nI 2) (nI 12) lz && (inB (nI 1) (nI 100) nz && inB (nI 1) (nI 1000000) sdz)) (fltF sn cntq 21 0))), (5, .int (b01 (inB (nI 2) (nI 12) lz && (inB (nI 1) (nI 100) nz && inB (nI 1) (nI 1000000) sdz)))), (0, .ref (gad G 0)), (1, .int (nI rz.toNatClampNeg)), (2, .int (nI lz.toNatClampNeg)), (3, .int (nI nz.toNatClampNeg)), (4, .int (nI sdz.toNatClampNeg))]) dX9_drawn_94 (by decide) rfl ?_
      refine r_iconst o (v := nI 0) dX9_drawn_96 (by decide) ?_
      refine r_istore o (lv' := [(10, .int (nI 0)), (9, .int (nI 0)), (7, .long (wgt (yeF (dlF σ sn cntq rz.toNatClampNeg) 24) (gcnt (dlF σ sn cntq rz.toNatClampNeg) 24) lz.toNatClampNeg (nuF (dlF σ sn cntq rz.toNatClampNeg) 24))), (6, .int (refI (inB (nI 0) (nI 5) rz) (inB (nI 2) (nI 12) lz && (inB (nI 1) (nI 100) nz && inB (nI 1) (nI 1000000) sdz)) (fltF sn cntq 21 0))), (5, .int (b01 (inB (nI 2) (nI 12) lz && (inB (nI 1) (nI 100) nz && inB (nI 1) (nI 1000000) sdz)))), (0, .ref (gad G 0)), (1, .int (nI rz.toNatClampNeg)), (2, .int (nI lz.toNatClampNeg)), (3, .int (nI nz.toNatClampNeg)), (4, .int (nI sdz.toNatClampNeg))]) dX9_drawn_97 (by decide) rfl ?_
      have L99 : ∀ (n : Nat) (kq : Nat) (req : Nat) (gf : Nat → Int32) (seq1 : Nat) (hkq : kq ≤ nz.toNatClampNeg) (hreq : req ≤ kq) (hsel : seq1 < 2147483648) (hdnq : dnR (yeF (dlF σ sn cntq rz.toNatClampNeg) 24) (gcnt (dlF σ sn cntq rz.toNatClampNeg) 24) lz.toNatClampNeg (wgt (yeF (dlF σ sn cntq rz.toNatClampNeg) 24) (gcnt (dlF σ sn cntq rz.toNatClampNeg) 24) lz.toNatClampNeg (nuF (dlF σ sn cntq rz.toNatClampNeg) 24)) nz.toNatClampNeg (nuF (dlF σ sn cntq rz.toNatClampNeg) 24) sdz.toNatClampNeg = req + dnR (yeF (dlF σ sn cntq rz.toNatClampNeg) 24) (gcnt (dlF σ sn cntq rz.toNatClampNeg) 24) lz.toNatClampNeg (wgt (yeF (dlF σ sn cntq rz.toNatClampNeg) 24) (gcnt (dlF σ sn cntq rz.toNatClampNeg) 24) lz.toNatClampNeg (nuF (dlF σ sn cntq rz.toNatClampNeg) 24)) (nz.toNatClampNeg - kq) gf seq1), nz.toNatClampNeg - kq < n → WS X G 11 (sta (stl (sti σσ61 5 1 (nI (gcnt (dlF σ sn cntq rz.toNatClampNeg) 24))) 5 2 (lN seq1)) 26 gf) 99 [(0, .ref (gad G 0)), (1, .int (nI rz.toNatClampNeg)), (2, .int (nI lz.toNatClampNeg)), (3, .int (nI nz.toNatClampNeg)), (4, .int (nI sdz.toNatClampNeg)), (5, .int (b01 (inB (nI 2) (nI 12) lz && (inB (nI 1) (nI 100) nz && inB (nI 1) (nI 1000000) sdz)))), (6, .int (refI (inB (nI 0) (nI 5) rz) (inB (nI 2) (nI 12) lz && (inB (nI 1) (nI 100) nz && inB (nI 1) (nI 1000000) sdz)) (fltF sn cntq 21 0))), (7, .long (wgt (yeF (dlF σ sn cntq rz.toNatClampNeg) 24) (gcnt (dlF σ sn cntq rz.toNatClampNeg) 24) lz.toNatClampNeg (nuF (dlF σ sn cntq rz.toNatClampNeg) 24))), (9, .int (nI req)), (10, .int (nI kq))] [] := by
        intro n
        induction n with
        | zero => intro kq req gf seq1 hkq hreq hsel hdnq hm; exact absurd hm (Nat.not_lt_zero _)
        | succ n ih99 =>
          intro kq req gf seq1 hkq hreq hsel hdnq hm
          refine r_iload o dX9_drawn_99 9 rfl ?_
          refine r_iload_n o dX9_drawn_101 3 rfl ?_
          refine r_icmp_ge o (tgt := 140) dX9_drawn_102 (by decide) (fun hb102 => ?_) (fun hb102 => ?_)
          · skip
            rw [nI_leI (by omega) (by omega)] at hb102
            have hfin : dnR (yeF (dlF σ sn cntq rz.toNatClampNeg) 24) (gcnt (dlF σ sn cntq rz.toNatClampNeg) 24) lz.toNatClampNeg (wgt (yeF (dlF σ sn cntq rz.toNatClampNeg) 24) (gcnt (dlF σ sn cntq rz.toNatClampNeg) 24) lz.toNatClampNeg (nuF (dlF σ sn cntq rz.toNatClampNeg) 24)) nz.toNatClampNeg (nuF (dlF σ sn cntq rz.toNatClampNeg) 24) sdz.toNatClampNeg = req := by rw [hdnq, show nz.toNatClampNeg - kq = 0 by omega]; rfl
            refine r_iload o dX9_drawn_140 8 rfl ?_
            exact r_ireturn o q dX9_drawn_142 (⟨by rw [if_pos hb49, hfin], fun cz hcz => by unfold scrC at hcz; simp (disch := omega) only [stl_ne, sta_ne, sti_ne]; exact hkag cz (by unfold scr1; omega)⟩)
          · skip
            rw [nI_leI (by omega) (by omega)] at hb102
            refine r_aload_n o dX9_drawn_105 0 rfl ?_
            refine gf_0_5 o mw_241 dX9_drawn_106 ?_
            refine r_callVV o (As := []) (st := []) (c_X4_draw (xl X) G (sta (stl (sti σσ61 5 1 (nI (gcnt (dlF σ sn cntq rz.toNatClampNeg) 24))) 5 2 (lN seq1)) 26 gf) gf rfl (gcnt (dlF σ sn cntq rz.toNatClampNeg) 24) rfl (by omega) seq1 rfl hsel) om_X4_draw mw_494 mw_495 mw_493 (by decide) rfl rfl rfl (by decide) rfl rfl (Nat.le_of_ble_eq_true rfl) dX9_drawn_109 (fun σσ109 hp109 => ?_)
            replace hp109 := Eq.symm hp109; subst hp109
            refine r_aload_n o dX9_drawn_112 0 rfl ?_
            refine gf_0_4 o mw_240 dX9_drawn_113 ?_
            refine r_aload_n o dX9_drawn_116 0 rfl ?_
            refine gf_0_5 o mw_241 dX9_drawn_117 ?_
            refine gfN_5_0 o mw_146 dX9_drawn_120 ?_
            refine r_lload o dX9_drawn_123 7 rfl ?_
            refine r_callVI o (As := [.ref (gad G 26), .long (wgt (yeF (dlF σ sn cntq rz.toNatClampNeg) 24) (gcnt (dlF σ sn cntq rz.toNatClampNeg) 24) lz.toNatClampNeg (nuF (dlF σ sn cntq rz.toNatClampNeg) 24))]) (st := []) (c_X8_reach (xl X) G (sta (stl (sta (stl (sti σσ61 5 1 (nI (gcnt (dlF σ sn cntq rz.toNatClampNeg) 24))) 5 2 (lN seq1)) 26 gf) 5 2 (lN (drS ((gcnt (dlF σ sn cntq rz.toNatClampNeg) 24) - 1) gf seq1).2)) 26 ((drS ((gcnt (dlF σ sn cntq rz.toNatClampNeg) 24) - 1) gf seq1).1)) (yeF (dlF σ sn cntq rz.toNatClampNeg) 24) (gcnt (dlF σ sn cntq rz.toNatClampNeg) 24) lz.toNatClampNeg lz.toNatClampNeg (by omega) hk4a hk4b (fun jq hq1 hq2 => laid_ag (fun cz hc1 hc2 => by simp (disch := omega) only [sta_ne, stl_ne, sti_ne]) (by omega) (hkla jq hq1 hq2)) ((drS ((gcnt (dlF σ sn cntq rz.toNatClampNeg) 24) - 1) gf seq1).1) rfl (wgt (yeF (dlF σ sn cntq rz.toNatClampNeg) 24) (gcnt (dlF σ sn cntq rz.toNatClampNeg) 24) lz.toNatClampNeg (nuF (dlF σ sn cntq rz.toNatClampNeg) 24))) om_X8_reach mw_477 mw_478 mw_476 (by decide) rfl rfl rfl (by decide) rfl rfl (Nat.le_of_ble_eq_true rfl) dX9_drawn_125 (fun rr125 σσ125 hp125 => ?_)
            obtain ⟨hp125, hp125b⟩ := hp125; replace hp125 := Eq.symm hp125; replace hp125b := Eq.symm hp125b; subst hp125; subst hp125b
            refine r_if_eq o (tgt := 134) dX9_drawn_128 (by decide) (fun hb128 => ?_) (fun hb128 => ?_)
            · skip
              rw [b01_eq0] at hb128
              refine r_iinc o (v := nI (kq + 1)) (lv' := [(10, .int (nI (kq + 1))), (0, .ref (gad G 0)), (1, .int (nI rz.toNatClampNeg)), (2, .int (nI lz.toNatClampNeg)), (3, .int (nI nz.toNatClampNeg)), (4, .int (nI sdz.toNatClampNeg)), (5, .int (b01 (inB (nI 2) (nI 12) lz && (inB (nI 1) (nI 100) nz && inB (nI 1) (nI 1000000) sdz)))), (6, .int (refI (inB (nI 0) (nI 5) rz) (inB (nI 2) (nI 12) lz && (inB (nI 1) (nI 100) nz && inB (nI 1) (nI 1000000) sdz)) (fltF sn cntq 21 0))), (7, .long (wgt (yeF (dlF σ sn cntq rz.toNatClampNeg) 24) (gcnt (dlF σ sn cntq rz.toNatClampNeg) 24) lz.toNatClampNeg (nuF (dlF σ sn cntq rz.toNatClampNeg) 24))), (9, .int (nI req))]) dX9_drawn_134 9 rfl (nI_inc _) (by decide) rfl ?_
              refine r_goto o (tgt := 99) dX9_drawn_137 (by decide) ?_
              exact r_to dr_sto [1, 2, 3, 4, 5, 6, 7, 8, 9, 0] rfl (ih99 (kq + 1) req ((drS ((gcnt (dlF σ sn cntq rz.toNatClampNeg) 24) - 1) gf seq1).1) ((drS ((gcnt (dlF σ sn cntq rz.toNatClampNeg) 24) - 1) gf seq1).2) (by omega) (by omega) (drS_lt _ _ _ hsel) (by rw [hdnq, show nz.toNatClampNeg - kq = (nz.toNatClampNeg - (kq + 1)) + 1 by omega, dn_s, if_neg (by rw [hb128]; decide)]; exact congrArg _ (Nat.zero_add _)) (by omega))
            · skip
              rw [b01_ne0] at hb128
              refine r_iinc o (v := nI (req + 1)) (lv' := [(9, .int (nI (req + 1))), (0, .ref (gad G 0)), (1, .int (nI rz.toNatClampNeg)), (2, .int (nI lz.toNatClampNeg)), (3, .int (nI nz.toNatClampNeg)), (4, .int (nI sdz.toNatClampNeg)), (5, .int (b01 (inB (nI 2) (nI 12) lz && (inB (nI 1) (nI 100) nz && inB (nI 1) (nI 1000000) sdz)))), (6, .int (refI (inB (nI 0) (nI 5) rz) (inB (nI 2) (nI 12) lz && (inB (nI 1) (nI 100) nz && inB (nI 1) (nI 1000000) sdz)) (fltF sn cntq 21 0))), (7, .long (wgt (yeF (dlF σ sn cntq rz.toNatClampNeg) 24) (gcnt (dlF σ sn cntq rz.toNatClampNeg) 24) lz.toNatClampNeg (nuF (dlF σ sn cntq rz.toNatClampNeg) 24))), (10, .int (nI kq))]) dX9_drawn_131 8 rfl (nI_inc _) (by decide) rfl ?_
              refine r_iinc o (v := nI (kq + 1)) (lv' := [(10, .int (nI (kq + 1))), (9, .int (nI (req + 1))), (0, .ref (gad G 0)), (1, .int (nI rz.toNatClampNeg)), (2, .int (nI lz.toNatClampNeg)), (3, .int (nI nz.toNatClampNeg)), (4, .int (nI sdz.toNatClampNeg)), (5, .int (b01 (inB (nI 2) (nI 12) lz && (inB (nI 1) (nI 100) nz && inB (nI 1) (nI 1000000) sdz)))), (6, .int (refI (inB (nI 0) (nI 5) rz) (inB (nI 2) (nI 12) lz && (inB (nI 1) (nI 100) nz && inB (nI 1) (nI 1000000) sdz)) (fltF sn cntq 21 0))), (7, .long (wgt (yeF (dlF σ sn cntq rz.toNatClampNeg) 24) (gcnt (dlF σ sn cntq rz.toNatClampNeg) 24) lz.toNatClampNeg (nuF (dlF σ sn cntq rz.toNatClampNeg) 24)))]) dX9_drawn_134 9 rfl (nI_inc _) (by decide) rfl ?_
              refine r_goto o (tgt := 99) dX9_drawn_137 (by decide) ?_
              exact r_to dr_sto [2, 3, 4, 5, 6, 7, 8, 9, 1, 0] rfl (ih99 (kq + 1) (req + 1) ((drS ((gcnt (dlF σ sn cntq rz.toNatClampNeg) 24) - 1) gf seq1).1) ((drS ((gcnt (dlF σ sn cntq rz.toNatClampNeg) 24) - 1) gf seq1).2) (by omega) (by omega) (drS_lt _ _ _ hsel) (by rw [hdnq, show nz.toNatClampNeg - kq = (nz.toNatClampNeg - (kq + 1)) + 1 by omega, dn_s, if_pos hb128]; exact (Nat.add_assoc _ _ _).symm) (by omega))
      exact r_to (by rw [nI_l (by omega)]) [5, 6, 7, 8, 9, 4, 3, 2, 1, 0] rfl (L99 _ 0 0 (mix (σσ61 21).1 (σσ61 26).1 0 (gcnt (dlF σ sn cntq rz.toNatClampNeg) 24)) sdz.toNatClampNeg (by omega) (by omega) (by omega) (by rw [Nat.zero_add]; exact (dn_ag _ (fun jq hj => (mix_in (Nat.zero_le _) hj).trans (hk21 jq hj))).symm) (Nat.lt_succ_self _))
    · skip
      refine r_iload o dX9_drawn_52 0 rfl ?_
      exact r_ireturn o q dX9_drawn_54 (⟨by rw [if_neg hb49], fun _ _ => rfl⟩)
  · skip
    rw [b01_ne0] at hb4
    refine r_iload_n o dX9_drawn_7 3 rfl ?_
    refine r_iconst o (v := nI 1) dX9_drawn_8 (by decide) ?_
    refine r_bipush o (v := nI 100) dX9_drawn_9 (by decide) ?_
    refine r_callSI o (As := [.int nz, .int (nI 1), .int (nI 100)]) (st := []) (c_X9_isWithin (xl X) G σ nz (nI 1) (nI 100)) om_X9_isWithin mw_278 mw_277 (by decide) rfl rfl (Nat.le_of_ble_eq_true rfl) dX9_drawn_11 (fun rr11 σσ11 hp11 => ?_)
    obtain ⟨hp11, hp11b⟩ := hp11; replace hp11 := Eq.symm hp11; replace hp11b := Eq.symm hp11b; subst hp11; subst hp11b
    refine r_if_eq o (tgt := 32) dX9_drawn_14 (by decide) (fun hb14 => ?_) (fun hb14 => ?_)
    · skip
      rw [b01_eq0] at hb14
      refine r_iconst o (v := nI 0) dX9_drawn_32 (by decide) ?_
      refine r_topi (y := b01 (inB (nI 2) (nI 12) lz && (inB (nI 1) (nI 100) nz && inB (nI 1) (nI 1000000) sdz))) (by first | (rw [hb4]; rfl) | (rw [hb14]; simp only [Bool.and_false, Bool.false_and]; rfl) | (rw [hb25]; simp only [Bool.and_false, Bool.false_and]; rfl) | (rw [hb4, hb14, hb25]; rfl)) ?_
      refine r_istore o (lv' := [(5, .int (b01 (inB (nI 2) (nI 12) lz && (inB (nI 1) (nI 100) nz && inB (nI 1) (nI 1000000) sdz)))), (0, .ref (gad G 0)), (1, .int rz), (2, .int lz), (3, .int nz), (4, .int sdz)]) dX9_drawn_33 (by decide) rfl ?_
      refine r_aload_n o dX9_drawn_35 1 rfl ?_
      refine r_iload_n o dX9_drawn_36 2 rfl ?_
      refine r_callSI o (As := [.int rz]) (st := [.ref (gad G 0)]) (c_X9_isRow (xl X) G σ rz) om_X9_isRow mw_275 mw_274 (by decide) rfl rfl (Nat.le_of_ble_eq_true rfl) dX9_drawn_37 (fun rr37 σσ37 hp37 => ?_)
      obtain ⟨hp37, hp37b⟩ := hp37; replace hp37 := Eq.symm hp37; replace hp37b := Eq.symm hp37b; subst hp37; subst hp37b
      refine r_iload o dX9_drawn_40 0 rfl ?_
      refine r_callVI o (As := [.int (b01 (inB (nI 0) (nI 5) rz)), .int (b01 (inB (nI 2) (nI 12) lz && (inB (nI 1) (nI 100) nz && inB (nI 1) (nI 1000000) sdz)))]) (st := []) (c_X9_refusalOf (xl X) G σ sn cntq hp (inB (nI 0) (nI 5) rz) (inB (nI 2) (nI 12) lz && (inB (nI 1) (nI 100) nz && inB (nI 1) (nI 1000000) sdz))) om_X9_refusalOf mw_343 mw_4 mw_341 (by decide) rfl rfl rfl (by decide) rfl rfl (Nat.le_of_ble_eq_true rfl) dX9_drawn_42 (fun rr42 σσ42 hp42 => ?_)
      obtain ⟨hp42, hp42b⟩ := hp42; replace hp42 := Eq.symm hp42; replace hp42b := Eq.symm hp42b; subst hp42; subst hp42b
      refine r_istore o (lv' := [(6, .int (refI (inB (nI 0) (nI 5) rz) (inB (nI 2) (nI 12) lz && (inB (nI 1) (nI 100) nz && inB (nI 1) (nI 1000000) sdz)) (fltF sn cntq 21 0))), (5, .int (b01 (inB (nI 2) (nI 12) lz && (inB (nI 1) (nI 100) nz && inB (nI 1) (nI 1000000) sdz)))), (0, .ref (gad G 0)), (1, .int rz), (2, .int lz), (3, .int nz), (4, .int sdz)]) dX9_drawn_45 (by decide) rfl ?_
      refine r_iload o dX9_drawn_47 0 rfl ?_
      refine r_if_eq o (tgt := 55) dX9_drawn_49 (by decide) (fun hb49 => ?_) (fun hb49 => ?_)
      · skip
        obtain ⟨hk1, hk2, hno⟩ := refI_z hb49
        obtain ⟨hr1, hr2⟩ := inB_nI (n := 5) (by decide) hk1
        rw [Bool.and_eq_true, Bool.and_eq_true] at hk2
        obtain ⟨hl1, hl2⟩ := inB_nI (n := 12) (by decide) (inB_wk hk2.1)
        have hl3 := inB_ge hk2.1
        obtain ⟨hm1, hm2⟩ := inB_nI (n := 100) (by decide) (inB_wk hk2.2.1)
        obtain ⟨hs1, hs2⟩ := inB_nI (n := 1000000) (by decide) (inB_wk hk2.2.2)
        have hgl := gcnt_le (dlF σ sn cntq rz.toNatClampNeg) 24
        refine r_lv (lv' := [(6, .int (refI (inB (nI 0) (nI 5) rz) (inB (nI 2) (nI 12) lz && (inB (nI 1) (nI 100) nz && inB (nI 1) (nI 1000000) sdz)) (fltF sn cntq 21 0))), (5, .int (b01 (inB (nI 2) (nI 12) lz && (inB (nI 1) (nI 100) nz && inB (nI 1) (nI 1000000) sdz)))), (0, .ref (gad G 0)), (1, .int (nI rz.toNatClampNeg)), (2, .int lz), (3, .int nz), (4, .int sdz)]) (congrArg (fun zz => ([(6, .int (refI (inB (nI 0) (nI 5) rz) (inB (nI 2) (nI 12) lz && (inB (nI 1) (nI 100) nz && inB (nI 1) (nI 1000000) sdz)) (fltF sn cntq 21 0))), (5, .int (b01 (inB (nI 2) (nI 12) lz && (inB (nI 1) (nI 100) nz && inB (nI 1) (nI 1000000) sdz)))), (0, .ref (gad G 0)), (1, .int zz), (2, .int lz), (3, .int nz), (4, .int sdz)] : List (Nat × Value))) (hr1)) ?_
        refine r_lv (lv' := [(6, .int (refI (inB (nI 0) (nI 5) rz) (inB (nI 2) (nI 12) lz && (inB (nI 1) (nI 100) nz && inB (nI 1) (nI 1000000) sdz)) (fltF sn cntq 21 0))), (5, .int (b01 (inB (nI 2) (nI 12) lz && (inB (nI 1) (nI 100) nz && inB (nI 1) (nI 1000000) sdz)))), (0, .ref (gad G 0)), (1, .int (nI rz.toNatClampNeg)), (2, .int (nI lz.toNatClampNeg)), (3, .int nz), (4, .int sdz)]) (congrArg (fun zz => ([(6, .int (refI (inB (nI 0) (nI 5) rz) (inB (nI 2) (nI 12) lz && (inB (nI 1) (nI 100) nz && inB (nI 1) (nI 1000000) sdz)) (fltF sn cntq 21 0))), (5, .int (b01 (inB (nI 2) (nI 12) lz && (inB (nI 1) (nI 100) nz && inB (nI 1) (nI 1000000) sdz)))), (0, .ref (gad G 0)), (1, .int (nI rz.toNatClampNeg)), (2, .int zz), (3, .int nz), (4, .int sdz)] : List (Nat × Value))) (hl1)) ?_
        refine r_lv (lv' := [(6, .int (refI (inB (nI 0) (nI 5) rz) (inB (nI 2) (nI 12) lz && (inB (nI 1) (nI 100) nz && inB (nI 1) (nI 1000000) sdz)) (fltF sn cntq 21 0))), (5, .int (b01 (inB (nI 2) (nI 12) lz && (inB (nI 1) (nI 100) nz && inB (nI 1) (nI 1000000) sdz)))), (0, .ref (gad G 0)), (1, .int (nI rz.toNatClampNeg)), (2, .int (nI lz.toNatClampNeg)), (3, .int (nI nz.toNatClampNeg)), (4, .int sdz)]) (congrArg (fun zz => ([(6, .int (refI (inB (nI 0) (nI 5) rz) (inB (nI 2) (nI 12) lz && (inB (nI 1) (nI 100) nz && inB (nI 1) (nI 1000000) sdz)) (fltF sn cntq 21 0))), (5, .int (b01 (inB (nI 2) (nI 12) lz && (inB (nI 1) (nI 100) nz && inB (nI 1) (nI 1000000) sdz)))), (0, .ref (gad G 0)), (1, .int (nI rz.toNatClampNeg)), (2, .int (nI lz.toNatClampNeg)), (3, .int zz), (4, .int sdz)] : List (Nat × Value))) (hm1)) ?_
        refine r_lv (lv' := [(6, .int (refI (inB (nI 0) (nI 5) rz) (inB (nI 2) (nI 12) lz && (inB (nI 1) (nI 100) nz && inB (nI 1) (nI 1000000) sdz)) (fltF sn cntq 21 0))), (5, .int (b01 (inB (nI 2) (nI 12) lz && (inB (nI 1) (nI 100) nz && inB (nI 1) (nI 1000000) sdz)))), (0, .ref (gad G 0)), (1, .int (nI rz.toNatClampNeg)), (2, .int (nI lz.toNatClampNeg)), (3, .int (nI nz.toNatClampNeg)), (4, .int (nI sdz.toNatClampNeg))]) (congrArg (fun zz => ([(6, .int (refI (inB (nI 0) (nI 5) rz) (inB (nI 2) (nI 12) lz && (inB (nI 1) (nI 100) nz && inB (nI 1) (nI 1000000) sdz)) (fltF sn cntq 21 0))), (5, .int (b01 (inB (nI 2) (nI 12) lz && (inB (nI 1) (nI 100) nz && inB (nI 1) (nI 1000000) sdz)))), (0, .ref (gad G 0)), (1, .int (nI rz.toNatClampNeg)), (2, .int (nI lz.toNatClampNeg)), (3, .int (nI nz.toNatClampNeg)), (4, .int zz)] : List (Nat × Value))) (hs1)) ?_
        refine r_aload_n o dX9_drawn_55 2 rfl ?_
        refine r_iload_n o dX9_drawn_56 3 rfl ?_
        refine r_bipush o (v := nI 24) dX9_drawn_57 (by decide) ?_
        refine r_iload_n o dX9_drawn_59 4 rfl ?_
        refine r_iload_n o dX9_drawn_60 4 rfl ?_
        refine r_callVV o (As := [.int (nI rz.toNatClampNeg), .int (nI 24), .int (nI lz.toNatClampNeg), .int (nI lz.toNatClampNeg)]) (st := []) (c_X9_takeRounds (xl X) G σ sn cntq hp rz.toNatClampNeg (by omega) 24 (by omega) lz.toNatClampNeg lz.toNatClampNeg (by omega) hno) om_X9_takeRounds mw_398 mw_7 mw_396 (by decide) rfl rfl rfl (by decide) rfl rfl (Nat.le_of_ble_eq_true rfl) dX9_drawn_61 (fun σσ61 hp61 => ?_)
        obtain ⟨hk2, hk21, hk22, hk20, hk4a, hk4b, hkla, hkag⟩ := hp61
        refine r_aload_n o dX9_drawn_64 2 rfl ?_
        refine gf_0_4 o mw_240 dX9_drawn_65 ?_
        refine r_aload_n o dX9_drawn_68 2 rfl ?_
        refine gf_0_2 o mw_238 dX9_drawn_69 ?_
        refine gfN_2_1 o mw_87 dX9_drawn_72 ?_
        refine r_callVL o (As := [.ref (gad G 21)]) (st := []) (c_X8_greatest (xl X) G σσ61 (yeF (dlF σ sn cntq rz.toNatClampNeg) 24) (gcnt (dlF σ sn cntq rz.toNatClampNeg) 24) lz.toNatClampNeg lz.toNatClampNeg (by omega) hk4a hk4b hkla ((σσ61 21).1) rfl) om_X8_greatest mw_420 mw_421 mw_419 (by decide) rfl rfl rfl (by decide) rfl rfl (Nat.le_of_ble_eq_true rfl) dX9_drawn_75 (fun rr75 σσ75 hp75 => ?_)
        obtain ⟨hp75, hp75b⟩ := hp75; replace hp75 := Eq.symm hp75; replace hp75b := Eq.symm hp75b; subst hp75; subst hp75b
        refine r_topl (y := (wgt (yeF (dlF σ sn cntq rz.toNatClampNeg) 24) (gcnt (dlF σ sn cntq rz.toNatClampNeg) 24) lz.toNatClampNeg (nuF (dlF σ sn cntq rz.toNatClampNeg) 24))) (by rw [fgS_one]; exact wg_cong hk21) ?_
        refine r_lstore o (lv' := [(7, .long (wgt (yeF (dlF σ sn cntq rz.toNatClampNeg) 24) (gcnt (dlF σ sn cntq rz.toNatClampNeg) 24) lz.toNatClampNeg (nuF (dlF σ sn cntq rz.toNatClampNeg) 24))), (6, .int (refI (inB (nI 0) (nI 5) rz) (inB (nI 2) (nI 12) lz && (inB (nI 1) (nI 100) nz && inB (nI 1) (nI 1000000) sdz)) (fltF sn cntq 21 0))), (5, .int (b01 (inB (nI 2) (nI 12) lz && (inB (nI 1) (nI 100) nz && inB (nI 1) (nI 1000000) sdz)))), (0, .ref (gad G 0)), (1, .int (nI rz.toNatClampNeg)), (2, .int (nI lz.toNatClampNeg)), (3, .int (nI nz.toNatClampNeg)), (4, .int (nI sdz.toNatClampNeg))]) dX9_drawn_78 (by decide) rfl ?_
        refine r_aload_n o dX9_drawn_80 3 rfl ?_
        refine gf_0_5 o mw_241 dX9_drawn_81 ?_
        refine r_aload_n o dX9_drawn_84 3 rfl ?_
        refine gf_0_2 o mw_238 dX9_drawn_85 ?_
        refine r_iload o dX9_drawn_88 7 rfl ?_
        refine r_callVV o (As := [.ref (gad G 2), .int (nI sdz.toNatClampNeg)]) (st := []) (c_X4_begin (xl X) G σσ61 (gcnt (dlF σ sn cntq rz.toNatClampNeg) 24) hk2 hgl ((σσ61 21).1) rfl ((σσ61 26).1) rfl (nI sdz.toNatClampNeg)) om_X4_begin mw_465 mw_466 mw_464 (by decide) rfl rfl rfl (by decide) rfl rfl (Nat.le_of_ble_eq_true rfl) dX9_drawn_90 (fun σσ90 hp90 => ?_)
        replace hp90 := Eq.symm hp90; subst hp90
        refine r_iconst o (v := nI 0) dX9_drawn_93 (by decide) ?_
        refine r_istore o (lv' := [(9, .int (nI 0)), (7, .long (wgt (yeF (dlF σ sn cntq rz.toNatClampNeg) 24) (gcnt (dlF σ sn cntq rz.toNatClampNeg) 24) lz.toNatClampNeg (nuF (dlF σ sn cntq rz.toNatClampNeg) 24))), (6, .int (refI (inB (nI 0) (nI 5) rz) (inB (nI 2) (nI 12) lz && (inB (nI 1) (nI 100) nz && inB (nI 1) (nI 1000000) sdz)) (fltF sn cntq 21 0))), (5, .int (b01 (inB (nI 2) (nI 12) lz && (inB (nI 1) (nI 100) nz && inB (nI 1) (nI 1000000) sdz)))), (0, .ref (gad G 0)), (1, .int (nI rz.toNatClampNeg)), (2, .int (nI lz.toNatClampNeg)), (3, .int (nI nz.toNatClampNeg)), (4, .int (nI sdz.toNatClampNeg))]) dX9_drawn_94 (by decide) rfl ?_
        refine r_iconst o (v := nI 0) dX9_drawn_96 (by decide) ?_
        refine r_istore o (lv' := [(10, .int (nI 0)), (9, .int (nI 0)), (7, .long (wgt (yeF (dlF σ sn cntq rz.toNatClampNeg) 24) (gcnt (dlF σ sn cntq rz.toNatClampNeg) 24) lz.toNatClampNeg (nuF (dlF σ sn cntq rz.toNatClampNeg) 24))), (6, .int (refI (inB (nI 0) (nI 5) rz) (inB (nI 2) (nI 12) lz && (inB (nI 1) (nI 100) nz && inB (nI 1) (nI 1000000) sdz)) (fltF sn cntq 21 0))), (5, .int (b01 (inB (nI 2) (nI 12) lz && (inB (nI 1) (nI 100) nz && inB (nI 1) (nI 1000000) sdz)))), (0, .ref (gad G 0)), (1, .int (nI rz.toNatClampNeg)), (2, .int (nI lz.toNatClampNeg)), (3, .int (nI nz.toNatClampNeg)), (4, .int (nI sdz.toNatClampNeg))]) dX9_drawn_97 (by decide) rfl ?_
        have L99 : ∀ (n : Nat) (kq : Nat) (req : Nat) (gf : Nat → Int32) (seq1 : Nat) (hkq : kq ≤ nz.toNatClampNeg) (hreq : req ≤ kq) (hsel : seq1 < 2147483648) (hdnq : dnR (yeF (dlF σ sn cntq rz.toNatClampNeg) 24) (gcnt (dlF σ sn cntq rz.toNatClampNeg) 24) lz.toNatClampNeg (wgt (yeF (dlF σ sn cntq rz.toNatClampNeg) 24) (gcnt (dlF σ sn cntq rz.toNatClampNeg) 24) lz.toNatClampNeg (nuF (dlF σ sn cntq rz.toNatClampNeg) 24)) nz.toNatClampNeg (nuF (dlF σ sn cntq rz.toNatClampNeg) 24) sdz.toNatClampNeg = req + dnR (yeF (dlF σ sn cntq rz.toNatClampNeg) 24) (gcnt (dlF σ sn cntq rz.toNatClampNeg) 24) lz.toNatClampNeg (wgt (yeF (dlF σ sn cntq rz.toNatClampNeg) 24) (gcnt (dlF σ sn cntq rz.toNatClampNeg) 24) lz.toNatClampNeg (nuF (dlF σ sn cntq rz.toNatClampNeg) 24)) (nz.toNatClampNeg - kq) gf seq1), nz.toNatClampNeg - kq < n → WS X G 11 (sta (stl (sti σσ61 5 1 (nI (gcnt (dlF σ sn cntq rz.toNatClampNeg) 24))) 5 2 (lN seq1)) 26 gf) 99 [(0, .ref (gad G 0)), (1, .int (nI rz.toNatClampNeg)), (2, .int (nI lz.toNatClampNeg)), (3, .int (nI nz.toNatClampNeg)), (4, .int (nI sdz.toNatClampNeg)), (5, .int (b01 (inB (nI 2) (nI 12) lz && (inB (nI 1) (nI 100) nz && inB (nI 1) (nI 1000000) sdz)))), (6, .int (refI (inB (nI 0) (nI 5) rz) (inB (nI 2) (nI 12) lz && (inB (nI 1) (nI 100) nz && inB (nI 1) (nI 1000000) sdz)) (fltF sn cntq 21 0))), (7, .long (wgt (yeF (dlF σ sn cntq rz.toNatClampNeg) 24) (gcnt (dlF σ sn cntq rz.toNatClampNeg) 24) lz.toNatClampNeg (nuF (dlF σ sn cntq rz.toNatClampNeg) 24))), (9, .int (nI req)), (10, .int (nI kq))] [] := by
          intro n
          induction n with
          | zero => intro kq req gf seq1 hkq hreq hsel hdnq hm; exact absurd hm (Nat.not_lt_zero _)
          | succ n ih99 =>
            intro kq req gf seq1 hkq hreq hsel hdnq hm
            refine r_iload o dX9_drawn_99 9 rfl ?_
            refine r_iload_n o dX9_drawn_101 3 rfl ?_
            refine r_icmp_ge o (tgt := 140) dX9_drawn_102 (by decide) (fun hb102 => ?_) (fun hb102 => ?_)
            · skip
              rw [nI_leI (by omega) (by omega)] at hb102
              have hfin : dnR (yeF (dlF σ sn cntq rz.toNatClampNeg) 24) (gcnt (dlF σ sn cntq rz.toNatClampNeg) 24) lz.toNatClampNeg (wgt (yeF (dlF σ sn cntq rz.toNatClampNeg) 24) (gcnt (dlF σ sn cntq rz.toNatClampNeg) 24) lz.toNatClampNeg (nuF (dlF σ sn cntq rz.toNatClampNeg) 24)) nz.toNatClampNeg (nuF (dlF σ sn cntq rz.toNatClampNeg) 24) sdz.toNatClampNeg = req := by rw [hdnq, show nz.toNatClampNeg - kq = 0 by omega]; rfl
              refine r_iload o dX9_drawn_140 8 rfl ?_
              exact r_ireturn o q dX9_drawn_142 (⟨by rw [if_pos hb49, hfin], fun cz hcz => by unfold scrC at hcz; simp (disch := omega) only [stl_ne, sta_ne, sti_ne]; exact hkag cz (by unfold scr1; omega)⟩)
            · skip
              rw [nI_leI (by omega) (by omega)] at hb102
              refine r_aload_n o dX9_drawn_105 0 rfl ?_
              refine gf_0_5 o mw_241 dX9_drawn_106 ?_
              refine r_callVV o (As := []) (st := []) (c_X4_draw (xl X) G (sta (stl (sti σσ61 5 1 (nI (gcnt (dlF σ sn cntq rz.toNatClampNeg) 24))) 5 2 (lN seq1)) 26 gf) gf rfl (gcnt (dlF σ sn cntq rz.toNatClampNeg) 24) rfl (by omega) seq1 rfl hsel) om_X4_draw mw_494 mw_495 mw_493 (by decide) rfl rfl rfl (by decide) rfl rfl (Nat.le_of_ble_eq_true rfl) dX9_drawn_109 (fun σσ109 hp109 => ?_)
              replace hp109 := Eq.symm hp109; subst hp109
              refine r_aload_n o dX9_drawn_112 0 rfl ?_
              refine gf_0_4 o mw_240 dX9_drawn_113 ?_
              refine r_aload_n o dX9_drawn_116 0 rfl ?_
              refine gf_0_5 o mw_241 dX9_drawn_117 ?_
              refine gfN_5_0 o mw_146 dX9_drawn_120 ?_
              refine r_lload o dX9_drawn_123 7 rfl ?_
              refine r_callVI o (As := [.ref (gad G 26), .long (wgt (yeF (dlF σ sn cntq rz.toNatClampNeg) 24) (gcnt (dlF σ sn cntq rz.toNatClampNeg) 24) lz.toNatClampNeg (nuF (dlF σ sn cntq rz.toNatClampNeg) 24))]) (st := []) (c_X8_reach (xl X) G (sta (stl (sta (stl (sti σσ61 5 1 (nI (gcnt (dlF σ sn cntq rz.toNatClampNeg) 24))) 5 2 (lN seq1)) 26 gf) 5 2 (lN (drS ((gcnt (dlF σ sn cntq rz.toNatClampNeg) 24) - 1) gf seq1).2)) 26 ((drS ((gcnt (dlF σ sn cntq rz.toNatClampNeg) 24) - 1) gf seq1).1)) (yeF (dlF σ sn cntq rz.toNatClampNeg) 24) (gcnt (dlF σ sn cntq rz.toNatClampNeg) 24) lz.toNatClampNeg lz.toNatClampNeg (by omega) hk4a hk4b (fun jq hq1 hq2 => laid_ag (fun cz hc1 hc2 => by simp (disch := omega) only [sta_ne, stl_ne, sti_ne]) (by omega) (hkla jq hq1 hq2)) ((drS ((gcnt (dlF σ sn cntq rz.toNatClampNeg) 24) - 1) gf seq1).1) rfl (wgt (yeF (dlF σ sn cntq rz.toNatClampNeg) 24) (gcnt (dlF σ sn cntq rz.toNatClampNeg) 24) lz.toNatClampNeg (nuF (dlF σ sn cntq rz.toNatClampNeg) 24))) om_X8_reach mw_477 mw_478 mw_476 (by decide) rfl rfl rfl (by decide) rfl rfl (Nat.le_of_ble_eq_true rfl) dX9_drawn_125 (fun rr125 σσ125 hp125 => ?_)
              obtain ⟨hp125, hp125b⟩ := hp125; replace hp125 := Eq.symm hp125; replace hp125b := Eq.symm hp125b; subst hp125; subst hp125b
              refine r_if_eq o (tgt := 134) dX9_drawn_128 (by decide) (fun hb128 => ?_) (fun hb128 => ?_)
              · skip
                rw [b01_eq0] at hb128
                refine r_iinc o (v := nI (kq + 1)) (lv' := [(10, .int (nI (kq + 1))), (0, .ref (gad G 0)), (1, .int (nI rz.toNatClampNeg)), (2, .int (nI lz.toNatClampNeg)), (3, .int (nI nz.toNatClampNeg)), (4, .int (nI sdz.toNatClampNeg)), (5, .int (b01 (inB (nI 2) (nI 12) lz && (inB (nI 1) (nI 100) nz && inB (nI 1) (nI 1000000) sdz)))), (6, .int (refI (inB (nI 0) (nI 5) rz) (inB (nI 2) (nI 12) lz && (inB (nI 1) (nI 100) nz && inB (nI 1) (nI 1000000) sdz)) (fltF sn cntq 21 0))), (7, .long (wgt (yeF (dlF σ sn cntq rz.toNatClampNeg) 24) (gcnt (dlF σ sn cntq rz.toNatClampNeg) 24) lz.toNatClampNeg (nuF (dlF σ sn cntq rz.toNatClampNeg) 24))), (9, .int (nI req))]) dX9_drawn_134 9 rfl (nI_inc _) (by decide) rfl ?_
                refine r_goto o (tgt := 99) dX9_drawn_137 (by decide) ?_
                exact r_to dr_sto [1, 2, 3, 4, 5, 6, 7, 8, 9, 0] rfl (ih99 (kq + 1) req ((drS ((gcnt (dlF σ sn cntq rz.toNatClampNeg) 24) - 1) gf seq1).1) ((drS ((gcnt (dlF σ sn cntq rz.toNatClampNeg) 24) - 1) gf seq1).2) (by omega) (by omega) (drS_lt _ _ _ hsel) (by rw [hdnq, show nz.toNatClampNeg - kq = (nz.toNatClampNeg - (kq + 1)) + 1 by omega, dn_s, if_neg (by rw [hb128]; decide)]; exact congrArg _ (Nat.zero_add _)) (by omega))
              · skip
                rw [b01_ne0] at hb128
                refine r_iinc o (v := nI (req + 1)) (lv' := [(9, .int (nI (req + 1))), (0, .ref (gad G 0)), (1, .int (nI rz.toNatClampNeg)), (2, .int (nI lz.toNatClampNeg)), (3, .int (nI nz.toNatClampNeg)), (4, .int (nI sdz.toNatClampNeg)), (5, .int (b01 (inB (nI 2) (nI 12) lz && (inB (nI 1) (nI 100) nz && inB (nI 1) (nI 1000000) sdz)))), (6, .int (refI (inB (nI 0) (nI 5) rz) (inB (nI 2) (nI 12) lz && (inB (nI 1) (nI 100) nz && inB (nI 1) (nI 1000000) sdz)) (fltF sn cntq 21 0))), (7, .long (wgt (yeF (dlF σ sn cntq rz.toNatClampNeg) 24) (gcnt (dlF σ sn cntq rz.toNatClampNeg) 24) lz.toNatClampNeg (nuF (dlF σ sn cntq rz.toNatClampNeg) 24))), (10, .int (nI kq))]) dX9_drawn_131 8 rfl (nI_inc _) (by decide) rfl ?_
                refine r_iinc o (v := nI (kq + 1)) (lv' := [(10, .int (nI (kq + 1))), (9, .int (nI (req + 1))), (0, .ref (gad G 0)), (1, .int (nI rz.toNatClampNeg)), (2, .int (nI lz.toNatClampNeg)), (3, .int (nI nz.toNatClampNeg)), (4, .int (nI sdz.toNatClampNeg)), (5, .int (b01 (inB (nI 2) (nI 12) lz && (inB (nI 1) (nI 100) nz && inB (nI 1) (nI 1000000) sdz)))), (6, .int (refI (inB (nI 0) (nI 5) rz) (inB (nI 2) (nI 12) lz && (inB (nI 1) (nI 100) nz && inB (nI 1) (nI 1000000) sdz)) (fltF sn cntq 21 0))), (7, .long (wgt (yeF (dlF σ sn cntq rz.toNatClampNeg) 24) (gcnt (dlF σ sn cntq rz.toNatClampNeg) 24) lz.toNatClampNeg (nuF (dlF σ sn cntq rz.toNatClampNeg) 24)))]) dX9_drawn_134 9 rfl (nI_inc _) (by decide) rfl ?_
                refine r_goto o (tgt := 99) dX9_drawn_137 (by decide) ?_
                exact r_to dr_sto [2, 3, 4, 5, 6, 7, 8, 9, 1, 0] rfl (ih99 (kq + 1) (req + 1) ((drS ((gcnt (dlF σ sn cntq rz.toNatClampNeg) 24) - 1) gf seq1).1) ((drS ((gcnt (dlF σ sn cntq rz.toNatClampNeg) 24) - 1) gf seq1).2) (by omega) (by omega) (drS_lt _ _ _ hsel) (by rw [hdnq, show nz.toNatClampNeg - kq = (nz.toNatClampNeg - (kq + 1)) + 1 by omega, dn_s, if_pos hb128]; exact (Nat.add_assoc _ _ _).symm) (by omega))
        exact r_to (by rw [nI_l (by omega)]) [5, 6, 7, 8, 9, 4, 3, 2, 1, 0] rfl (L99 _ 0 0 (mix (σσ61 21).1 (σσ61 26).1 0 (gcnt (dlF σ sn cntq rz.toNatClampNeg) 24)) sdz.toNatClampNeg (by omega) (by omega) (by omega) (by rw [Nat.zero_add]; exact (dn_ag _ (fun jq hj => (mix_in (Nat.zero_le _) hj).trans (hk21 jq hj))).symm) (Nat.lt_succ_self _))
      · skip
        refine r_iload o dX9_drawn_52 0 rfl ?_
        exact r_ireturn o q dX9_drawn_54 (⟨by rw [if_neg hb49], fun _ _ => rfl⟩)
    · skip
      rw [b01_ne0] at hb14
      refine r_iload o dX9_drawn_17 4 rfl ?_
      refine r_iconst o (v := nI 1) dX9_drawn_19 (by decide) ?_
      refine r_ldc o mw_492 dX9_drawn_20 ?_
      refine r_topi (y := nI 1000000) (by decide) ?_
      refine r_callSI o (As := [.int sdz, .int (nI 1), .int (nI 1000000)]) (st := []) (c_X9_isWithin (xl X) G σ sdz (nI 1) (nI 1000000)) om_X9_isWithin mw_278 mw_277 (by decide) rfl rfl (Nat.le_of_ble_eq_true rfl) dX9_drawn_22 (fun rr22 σσ22 hp22 => ?_)
      obtain ⟨hp22, hp22b⟩ := hp22; replace hp22 := Eq.symm hp22; replace hp22b := Eq.symm hp22b; subst hp22; subst hp22b
      refine r_if_eq o (tgt := 32) dX9_drawn_25 (by decide) (fun hb25 => ?_) (fun hb25 => ?_)
      · skip
        rw [b01_eq0] at hb25
        refine r_iconst o (v := nI 0) dX9_drawn_32 (by decide) ?_
        refine r_topi (y := b01 (inB (nI 2) (nI 12) lz && (inB (nI 1) (nI 100) nz && inB (nI 1) (nI 1000000) sdz))) (by first | (rw [hb4]; rfl) | (rw [hb14]; simp only [Bool.and_false, Bool.false_and]; rfl) | (rw [hb25]; simp only [Bool.and_false, Bool.false_and]; rfl) | (rw [hb4, hb14, hb25]; rfl)) ?_
        refine r_istore o (lv' := [(5, .int (b01 (inB (nI 2) (nI 12) lz && (inB (nI 1) (nI 100) nz && inB (nI 1) (nI 1000000) sdz)))), (0, .ref (gad G 0)), (1, .int rz), (2, .int lz), (3, .int nz), (4, .int sdz)]) dX9_drawn_33 (by decide) rfl ?_
        refine r_aload_n o dX9_drawn_35 1 rfl ?_
        refine r_iload_n o dX9_drawn_36 2 rfl ?_
        refine r_callSI o (As := [.int rz]) (st := [.ref (gad G 0)]) (c_X9_isRow (xl X) G σ rz) om_X9_isRow mw_275 mw_274 (by decide) rfl rfl (Nat.le_of_ble_eq_true rfl) dX9_drawn_37 (fun rr37 σσ37 hp37 => ?_)
        obtain ⟨hp37, hp37b⟩ := hp37; replace hp37 := Eq.symm hp37; replace hp37b := Eq.symm hp37b; subst hp37; subst hp37b
        refine r_iload o dX9_drawn_40 0 rfl ?_
        refine r_callVI o (As := [.int (b01 (inB (nI 0) (nI 5) rz)), .int (b01 (inB (nI 2) (nI 12) lz && (inB (nI 1) (nI 100) nz && inB (nI 1) (nI 1000000) sdz)))]) (st := []) (c_X9_refusalOf (xl X) G σ sn cntq hp (inB (nI 0) (nI 5) rz) (inB (nI 2) (nI 12) lz && (inB (nI 1) (nI 100) nz && inB (nI 1) (nI 1000000) sdz))) om_X9_refusalOf mw_343 mw_4 mw_341 (by decide) rfl rfl rfl (by decide) rfl rfl (Nat.le_of_ble_eq_true rfl) dX9_drawn_42 (fun rr42 σσ42 hp42 => ?_)
        obtain ⟨hp42, hp42b⟩ := hp42; replace hp42 := Eq.symm hp42; replace hp42b := Eq.symm hp42b; subst hp42; subst hp42b
        refine r_istore o (lv' := [(6, .int (refI (inB (nI 0) (nI 5) rz) (inB (nI 2) (nI 12) lz && (inB (nI 1) (nI 100) nz && inB (nI 1) (nI 1000000) sdz)) (fltF sn cntq 21 0))), (5, .int (b01 (inB (nI 2) (nI 12) lz && (inB (nI 1) (nI 100) nz && inB (nI 1) (nI 1000000) sdz)))), (0, .ref (gad G 0)), (1, .int rz), (2, .int lz), (3, .int nz), (4, .int sdz)]) dX9_drawn_45 (by decide) rfl ?_
        refine r_iload o dX9_drawn_47 0 rfl ?_
        refine r_if_eq o (tgt := 55) dX9_drawn_49 (by decide) (fun hb49 => ?_) (fun hb49 => ?_)
        · skip
          obtain ⟨hk1, hk2, hno⟩ := refI_z hb49
          obtain ⟨hr1, hr2⟩ := inB_nI (n := 5) (by decide) hk1
          rw [Bool.and_eq_true, Bool.and_eq_true] at hk2
          obtain ⟨hl1, hl2⟩ := inB_nI (n := 12) (by decide) (inB_wk hk2.1)
          have hl3 := inB_ge hk2.1
          obtain ⟨hm1, hm2⟩ := inB_nI (n := 100) (by decide) (inB_wk hk2.2.1)
          obtain ⟨hs1, hs2⟩ := inB_nI (n := 1000000) (by decide) (inB_wk hk2.2.2)
          have hgl := gcnt_le (dlF σ sn cntq rz.toNatClampNeg) 24
          refine r_lv (lv' := [(6, .int (refI (inB (nI 0) (nI 5) rz) (inB (nI 2) (nI 12) lz && (inB (nI 1) (nI 100) nz && inB (nI 1) (nI 1000000) sdz)) (fltF sn cntq 21 0))), (5, .int (b01 (inB (nI 2) (nI 12) lz && (inB (nI 1) (nI 100) nz && inB (nI 1) (nI 1000000) sdz)))), (0, .ref (gad G 0)), (1, .int (nI rz.toNatClampNeg)), (2, .int lz), (3, .int nz), (4, .int sdz)]) (congrArg (fun zz => ([(6, .int (refI (inB (nI 0) (nI 5) rz) (inB (nI 2) (nI 12) lz && (inB (nI 1) (nI 100) nz && inB (nI 1) (nI 1000000) sdz)) (fltF sn cntq 21 0))), (5, .int (b01 (inB (nI 2) (nI 12) lz && (inB (nI 1) (nI 100) nz && inB (nI 1) (nI 1000000) sdz)))), (0, .ref (gad G 0)), (1, .int zz), (2, .int lz), (3, .int nz), (4, .int sdz)] : List (Nat × Value))) (hr1)) ?_
          refine r_lv (lv' := [(6, .int (refI (inB (nI 0) (nI 5) rz) (inB (nI 2) (nI 12) lz && (inB (nI 1) (nI 100) nz && inB (nI 1) (nI 1000000) sdz)) (fltF sn cntq 21 0))), (5, .int (b01 (inB (nI 2) (nI 12) lz && (inB (nI 1) (nI 100) nz && inB (nI 1) (nI 1000000) sdz)))), (0, .ref (gad G 0)), (1, .int (nI rz.toNatClampNeg)), (2, .int (nI lz.toNatClampNeg)), (3, .int nz), (4, .int sdz)]) (congrArg (fun zz => ([(6, .int (refI (inB (nI 0) (nI 5) rz) (inB (nI 2) (nI 12) lz && (inB (nI 1) (nI 100) nz && inB (nI 1) (nI 1000000) sdz)) (fltF sn cntq 21 0))), (5, .int (b01 (inB (nI 2) (nI 12) lz && (inB (nI 1) (nI 100) nz && inB (nI 1) (nI 1000000) sdz)))), (0, .ref (gad G 0)), (1, .int (nI rz.toNatClampNeg)), (2, .int zz), (3, .int nz), (4, .int sdz)] : List (Nat × Value))) (hl1)) ?_
          refine r_lv (lv' := [(6, .int (refI (inB (nI 0) (nI 5) rz) (inB (nI 2) (nI 12) lz && (inB (nI 1) (nI 100) nz && inB (nI 1) (nI 1000000) sdz)) (fltF sn cntq 21 0))), (5, .int (b01 (inB (nI 2) (nI 12) lz && (inB (nI 1) (nI 100) nz && inB (nI 1) (nI 1000000) sdz)))), (0, .ref (gad G 0)), (1, .int (nI rz.toNatClampNeg)), (2, .int (nI lz.toNatClampNeg)), (3, .int (nI nz.toNatClampNeg)), (4, .int sdz)]) (congrArg (fun zz => ([(6, .int (refI (inB (nI 0) (nI 5) rz) (inB (nI 2) (nI 12) lz && (inB (nI 1) (nI 100) nz && inB (nI 1) (nI 1000000) sdz)) (fltF sn cntq 21 0))), (5, .int (b01 (inB (nI 2) (nI 12) lz && (inB (nI 1) (nI 100) nz && inB (nI 1) (nI 1000000) sdz)))), (0, .ref (gad G 0)), (1, .int (nI rz.toNatClampNeg)), (2, .int (nI lz.toNatClampNeg)), (3, .int zz), (4, .int sdz)] : List (Nat × Value))) (hm1)) ?_
          refine r_lv (lv' := [(6, .int (refI (inB (nI 0) (nI 5) rz) (inB (nI 2) (nI 12) lz && (inB (nI 1) (nI 100) nz && inB (nI 1) (nI 1000000) sdz)) (fltF sn cntq 21 0))), (5, .int (b01 (inB (nI 2) (nI 12) lz && (inB (nI 1) (nI 100) nz && inB (nI 1) (nI 1000000) sdz)))), (0, .ref (gad G 0)), (1, .int (nI rz.toNatClampNeg)), (2, .int (nI lz.toNatClampNeg)), (3, .int (nI nz.toNatClampNeg)), (4, .int (nI sdz.toNatClampNeg))]) (congrArg (fun zz => ([(6, .int (refI (inB (nI 0) (nI 5) rz) (inB (nI 2) (nI 12) lz && (inB (nI 1) (nI 100) nz && inB (nI 1) (nI 1000000) sdz)) (fltF sn cntq 21 0))), (5, .int (b01 (inB (nI 2) (nI 12) lz && (inB (nI 1) (nI 100) nz && inB (nI 1) (nI 1000000) sdz)))), (0, .ref (gad G 0)), (1, .int (nI rz.toNatClampNeg)), (2, .int (nI lz.toNatClampNeg)), (3, .int (nI nz.toNatClampNeg)), (4, .int zz)] : List (Nat × Value))) (hs1)) ?_
          refine r_aload_n o dX9_drawn_55 2 rfl ?_
          refine r_iload_n o dX9_drawn_56 3 rfl ?_
          refine r_bipush o (v := nI 24) dX9_drawn_57 (by decide) ?_
          refine r_iload_n o dX9_drawn_59 4 rfl ?_
          refine r_iload_n o dX9_drawn_60 4 rfl ?_
          refine r_callVV o (As := [.int (nI rz.toNatClampNeg), .int (nI 24), .int (nI lz.toNatClampNeg), .int (nI lz.toNatClampNeg)]) (st := []) (c_X9_takeRounds (xl X) G σ sn cntq hp rz.toNatClampNeg (by omega) 24 (by omega) lz.toNatClampNeg lz.toNatClampNeg (by omega) hno) om_X9_takeRounds mw_398 mw_7 mw_396 (by decide) rfl rfl rfl (by decide) rfl rfl (Nat.le_of_ble_eq_true rfl) dX9_drawn_61 (fun σσ61 hp61 => ?_)
          obtain ⟨hk2, hk21, hk22, hk20, hk4a, hk4b, hkla, hkag⟩ := hp61
          refine r_aload_n o dX9_drawn_64 2 rfl ?_
          refine gf_0_4 o mw_240 dX9_drawn_65 ?_
          refine r_aload_n o dX9_drawn_68 2 rfl ?_
          refine gf_0_2 o mw_238 dX9_drawn_69 ?_
          refine gfN_2_1 o mw_87 dX9_drawn_72 ?_
          refine r_callVL o (As := [.ref (gad G 21)]) (st := []) (c_X8_greatest (xl X) G σσ61 (yeF (dlF σ sn cntq rz.toNatClampNeg) 24) (gcnt (dlF σ sn cntq rz.toNatClampNeg) 24) lz.toNatClampNeg lz.toNatClampNeg (by omega) hk4a hk4b hkla ((σσ61 21).1) rfl) om_X8_greatest mw_420 mw_421 mw_419 (by decide) rfl rfl rfl (by decide) rfl rfl (Nat.le_of_ble_eq_true rfl) dX9_drawn_75 (fun rr75 σσ75 hp75 => ?_)
          obtain ⟨hp75, hp75b⟩ := hp75; replace hp75 := Eq.symm hp75; replace hp75b := Eq.symm hp75b; subst hp75; subst hp75b
          refine r_topl (y := (wgt (yeF (dlF σ sn cntq rz.toNatClampNeg) 24) (gcnt (dlF σ sn cntq rz.toNatClampNeg) 24) lz.toNatClampNeg (nuF (dlF σ sn cntq rz.toNatClampNeg) 24))) (by rw [fgS_one]; exact wg_cong hk21) ?_
          refine r_lstore o (lv' := [(7, .long (wgt (yeF (dlF σ sn cntq rz.toNatClampNeg) 24) (gcnt (dlF σ sn cntq rz.toNatClampNeg) 24) lz.toNatClampNeg (nuF (dlF σ sn cntq rz.toNatClampNeg) 24))), (6, .int (refI (inB (nI 0) (nI 5) rz) (inB (nI 2) (nI 12) lz && (inB (nI 1) (nI 100) nz && inB (nI 1) (nI 1000000) sdz)) (fltF sn cntq 21 0))), (5, .int (b01 (inB (nI 2) (nI 12) lz && (inB (nI 1) (nI 100) nz && inB (nI 1) (nI 1000000) sdz)))), (0, .ref (gad G 0)), (1, .int (nI rz.toNatClampNeg)), (2, .int (nI lz.toNatClampNeg)), (3, .int (nI nz.toNatClampNeg)), (4, .int (nI sdz.toNatClampNeg))]) dX9_drawn_78 (by decide) rfl ?_
          refine r_aload_n o dX9_drawn_80 3 rfl ?_
          refine gf_0_5 o mw_241 dX9_drawn_81 ?_
          refine r_aload_n o dX9_drawn_84 3 rfl ?_
          refine gf_0_2 o mw_238 dX9_drawn_85 ?_
          refine r_iload o dX9_drawn_88 7 rfl ?_
          refine r_callVV o (As := [.ref (gad G 2), .int (nI sdz.toNatClampNeg)]) (st := []) (c_X4_begin (xl X) G σσ61 (gcnt (dlF σ sn cntq rz.toNatClampNeg) 24) hk2 hgl ((σσ61 21).1) rfl ((σσ61 26).1) rfl (nI sdz.toNatClampNeg)) om_X4_begin mw_465 mw_466 mw_464 (by decide) rfl rfl rfl (by decide) rfl rfl (Nat.le_of_ble_eq_true rfl) dX9_drawn_90 (fun σσ90 hp90 => ?_)
          replace hp90 := Eq.symm hp90; subst hp90
          refine r_iconst o (v := nI 0) dX9_drawn_93 (by decide) ?_
          refine r_istore o (lv' := [(9, .int (nI 0)), (7, .long (wgt (yeF (dlF σ sn cntq rz.toNatClampNeg) 24) (gcnt (dlF σ sn cntq rz.toNatClampNeg) 24) lz.toNatClampNeg (nuF (dlF σ sn cntq rz.toNatClampNeg) 24))), (6, .int (refI (inB (nI 0) (nI 5) rz) (inB (nI 2) (nI 12) lz && (inB (nI 1) (nI 100) nz && inB (nI 1) (nI 1000000) sdz)) (fltF sn cntq 21 0))), (5, .int (b01 (inB (nI 2) (nI 12) lz && (inB (nI 1) (nI 100) nz && inB (nI 1) (nI 1000000) sdz)))), (0, .ref (gad G 0)), (1, .int (nI rz.toNatClampNeg)), (2, .int (nI lz.toNatClampNeg)), (3, .int (nI nz.toNatClampNeg)), (4, .int (nI sdz.toNatClampNeg))]) dX9_drawn_94 (by decide) rfl ?_
          refine r_iconst o (v := nI 0) dX9_drawn_96 (by decide) ?_
          refine r_istore o (lv' := [(10, .int (nI 0)), (9, .int (nI 0)), (7, .long (wgt (yeF (dlF σ sn cntq rz.toNatClampNeg) 24) (gcnt (dlF σ sn cntq rz.toNatClampNeg) 24) lz.toNatClampNeg (nuF (dlF σ sn cntq rz.toNatClampNeg) 24))), (6, .int (refI (inB (nI 0) (nI 5) rz) (inB (nI 2) (nI 12) lz && (inB (nI 1) (nI 100) nz && inB (nI 1) (nI 1000000) sdz)) (fltF sn cntq 21 0))), (5, .int (b01 (inB (nI 2) (nI 12) lz && (inB (nI 1) (nI 100) nz && inB (nI 1) (nI 1000000) sdz)))), (0, .ref (gad G 0)), (1, .int (nI rz.toNatClampNeg)), (2, .int (nI lz.toNatClampNeg)), (3, .int (nI nz.toNatClampNeg)), (4, .int (nI sdz.toNatClampNeg))]) dX9_drawn_97 (by decide) rfl ?_
          have L99 : ∀ (n : Nat) (kq : Nat) (req : Nat) (gf : Nat → Int32) (seq1 : Nat) (hkq : kq ≤ nz.toNatClampNeg) (hreq : req ≤ kq) (hsel : seq1 < 2147483648) (hdnq : dnR (yeF (dlF σ sn cntq rz.toNatClampNeg) 24) (gcnt (dlF σ sn cntq rz.toNatClampNeg) 24) lz.toNatClampNeg (wgt (yeF (dlF σ sn cntq rz.toNatClampNeg) 24) (gcnt (dlF σ sn cntq rz.toNatClampNeg) 24) lz.toNatClampNeg (nuF (dlF σ sn cntq rz.toNatClampNeg) 24)) nz.toNatClampNeg (nuF (dlF σ sn cntq rz.toNatClampNeg) 24) sdz.toNatClampNeg = req + dnR (yeF (dlF σ sn cntq rz.toNatClampNeg) 24) (gcnt (dlF σ sn cntq rz.toNatClampNeg) 24) lz.toNatClampNeg (wgt (yeF (dlF σ sn cntq rz.toNatClampNeg) 24) (gcnt (dlF σ sn cntq rz.toNatClampNeg) 24) lz.toNatClampNeg (nuF (dlF σ sn cntq rz.toNatClampNeg) 24)) (nz.toNatClampNeg - kq) gf seq1), nz.toNatClampNeg - kq < n → WS X G 11 (sta (stl (sti σσ61 5 1 (nI (gcnt (dlF σ sn cntq rz.toNatClampNeg) 24))) 5 2 (lN seq1)) 26 gf) 99 [(0, .ref (gad G 0)), (1, .int (nI rz.toNatClampNeg)), (2, .int (nI lz.toNatClampNeg)), (3, .int (nI nz.toNatClampNeg)), (4, .int (nI sdz.toNatClampNeg)), (5, .int (b01 (inB (nI 2) (nI 12) lz && (inB (nI 1) (nI 100) nz && inB (nI 1) (nI 1000000) sdz)))), (6, .int (refI (inB (nI 0) (nI 5) rz) (inB (nI 2) (nI 12) lz && (inB (nI 1) (nI 100) nz && inB (nI 1) (nI 1000000) sdz)) (fltF sn cntq 21 0))), (7, .long (wgt (yeF (dlF σ sn cntq rz.toNatClampNeg) 24) (gcnt (dlF σ sn cntq rz.toNatClampNeg) 24) lz.toNatClampNeg (nuF (dlF σ sn cntq rz.toNatClampNeg) 24))), (9, .int (nI req)), (10, .int (nI kq))] [] := by
            intro n
            induction n with
            | zero => intro kq req gf seq1 hkq hreq hsel hdnq hm; exact absurd hm (Nat.not_lt_zero _)
            | succ n ih99 =>
              intro kq req gf seq1 hkq hreq hsel hdnq hm
              refine r_iload o dX9_drawn_99 9 rfl ?_
              refine r_iload_n o dX9_drawn_101 3 rfl ?_
              refine r_icmp_ge o (tgt := 140) dX9_drawn_102 (by decide) (fun hb102 => ?_) (fun hb102 => ?_)
              · skip
                rw [nI_leI (by omega) (by omega)] at hb102
                have hfin : dnR (yeF (dlF σ sn cntq rz.toNatClampNeg) 24) (gcnt (dlF σ sn cntq rz.toNatClampNeg) 24) lz.toNatClampNeg (wgt (yeF (dlF σ sn cntq rz.toNatClampNeg) 24) (gcnt (dlF σ sn cntq rz.toNatClampNeg) 24) lz.toNatClampNeg (nuF (dlF σ sn cntq rz.toNatClampNeg) 24)) nz.toNatClampNeg (nuF (dlF σ sn cntq rz.toNatClampNeg) 24) sdz.toNatClampNeg = req := by rw [hdnq, show nz.toNatClampNeg - kq = 0 by omega]; rfl
                refine r_iload o dX9_drawn_140 8 rfl ?_
                exact r_ireturn o q dX9_drawn_142 (⟨by rw [if_pos hb49, hfin], fun cz hcz => by unfold scrC at hcz; simp (disch := omega) only [stl_ne, sta_ne, sti_ne]; exact hkag cz (by unfold scr1; omega)⟩)
              · skip
                rw [nI_leI (by omega) (by omega)] at hb102
                refine r_aload_n o dX9_drawn_105 0 rfl ?_
                refine gf_0_5 o mw_241 dX9_drawn_106 ?_
                refine r_callVV o (As := []) (st := []) (c_X4_draw (xl X) G (sta (stl (sti σσ61 5 1 (nI (gcnt (dlF σ sn cntq rz.toNatClampNeg) 24))) 5 2 (lN seq1)) 26 gf) gf rfl (gcnt (dlF σ sn cntq rz.toNatClampNeg) 24) rfl (by omega) seq1 rfl hsel) om_X4_draw mw_494 mw_495 mw_493 (by decide) rfl rfl rfl (by decide) rfl rfl (Nat.le_of_ble_eq_true rfl) dX9_drawn_109 (fun σσ109 hp109 => ?_)
                replace hp109 := Eq.symm hp109; subst hp109
                refine r_aload_n o dX9_drawn_112 0 rfl ?_
                refine gf_0_4 o mw_240 dX9_drawn_113 ?_
                refine r_aload_n o dX9_drawn_116 0 rfl ?_
                refine gf_0_5 o mw_241 dX9_drawn_117 ?_
                refine gfN_5_0 o mw_146 dX9_drawn_120 ?_
                refine r_lload o dX9_drawn_123 7 rfl ?_
                refine r_callVI o (As := [.ref (gad G 26), .long (wgt (yeF (dlF σ sn cntq rz.toNatClampNeg) 24) (gcnt (dlF σ sn cntq rz.toNatClampNeg) 24) lz.toNatClampNeg (nuF (dlF σ sn cntq rz.toNatClampNeg) 24))]) (st := []) (c_X8_reach (xl X) G (sta (stl (sta (stl (sti σσ61 5 1 (nI (gcnt (dlF σ sn cntq rz.toNatClampNeg) 24))) 5 2 (lN seq1)) 26 gf) 5 2 (lN (drS ((gcnt (dlF σ sn cntq rz.toNatClampNeg) 24) - 1) gf seq1).2)) 26 ((drS ((gcnt (dlF σ sn cntq rz.toNatClampNeg) 24) - 1) gf seq1).1)) (yeF (dlF σ sn cntq rz.toNatClampNeg) 24) (gcnt (dlF σ sn cntq rz.toNatClampNeg) 24) lz.toNatClampNeg lz.toNatClampNeg (by omega) hk4a hk4b (fun jq hq1 hq2 => laid_ag (fun cz hc1 hc2 => by simp (disch := omega) only [sta_ne, stl_ne, sti_ne]) (by omega) (hkla jq hq1 hq2)) ((drS ((gcnt (dlF σ sn cntq rz.toNatClampNeg) 24) - 1) gf seq1).1) rfl (wgt (yeF (dlF σ sn cntq rz.toNatClampNeg) 24) (gcnt (dlF σ sn cntq rz.toNatClampNeg) 24) lz.toNatClampNeg (nuF (dlF σ sn cntq rz.toNatClampNeg) 24))) om_X8_reach mw_477 mw_478 mw_476 (by decide) rfl rfl rfl (by decide) rfl rfl (Nat.le_of_ble_eq_true rfl) dX9_drawn_125 (fun rr125 σσ125 hp125 => ?_)
                obtain ⟨hp125, hp125b⟩ := hp125; replace hp125 := Eq.symm hp125; replace hp125b := Eq.symm hp125b; subst hp125; subst hp125b
                refine r_if_eq o (tgt := 134) dX9_drawn_128 (by decide) (fun hb128 => ?_) (fun hb128 => ?_)
                · skip
                  rw [b01_eq0] at hb128
                  refine r_iinc o (v := nI (kq + 1)) (lv' := [(10, .int (nI (kq + 1))), (0, .ref (gad G 0)), (1, .int (nI rz.toNatClampNeg)), (2, .int (nI lz.toNatClampNeg)), (3, .int (nI nz.toNatClampNeg)), (4, .int (nI sdz.toNatClampNeg)), (5, .int (b01 (inB (nI 2) (nI 12) lz && (inB (nI 1) (nI 100) nz && inB (nI 1) (nI 1000000) sdz)))), (6, .int (refI (inB (nI 0) (nI 5) rz) (inB (nI 2) (nI 12) lz && (inB (nI 1) (nI 100) nz && inB (nI 1) (nI 1000000) sdz)) (fltF sn cntq 21 0))), (7, .long (wgt (yeF (dlF σ sn cntq rz.toNatClampNeg) 24) (gcnt (dlF σ sn cntq rz.toNatClampNeg) 24) lz.toNatClampNeg (nuF (dlF σ sn cntq rz.toNatClampNeg) 24))), (9, .int (nI req))]) dX9_drawn_134 9 rfl (nI_inc _) (by decide) rfl ?_
                  refine r_goto o (tgt := 99) dX9_drawn_137 (by decide) ?_
                  exact r_to dr_sto [1, 2, 3, 4, 5, 6, 7, 8, 9, 0] rfl (ih99 (kq + 1) req ((drS ((gcnt (dlF σ sn cntq rz.toNatClampNeg) 24) - 1) gf seq1).1) ((drS ((gcnt (dlF σ sn cntq rz.toNatClampNeg) 24) - 1) gf seq1).2) (by omega) (by omega) (drS_lt _ _ _ hsel) (by rw [hdnq, show nz.toNatClampNeg - kq = (nz.toNatClampNeg - (kq + 1)) + 1 by omega, dn_s, if_neg (by rw [hb128]; decide)]; exact congrArg _ (Nat.zero_add _)) (by omega))
                · skip
                  rw [b01_ne0] at hb128
                  refine r_iinc o (v := nI (req + 1)) (lv' := [(9, .int (nI (req + 1))), (0, .ref (gad G 0)), (1, .int (nI rz.toNatClampNeg)), (2, .int (nI lz.toNatClampNeg)), (3, .int (nI nz.toNatClampNeg)), (4, .int (nI sdz.toNatClampNeg)), (5, .int (b01 (inB (nI 2) (nI 12) lz && (inB (nI 1) (nI 100) nz && inB (nI 1) (nI 1000000) sdz)))), (6, .int (refI (inB (nI 0) (nI 5) rz) (inB (nI 2) (nI 12) lz && (inB (nI 1) (nI 100) nz && inB (nI 1) (nI 1000000) sdz)) (fltF sn cntq 21 0))), (7, .long (wgt (yeF (dlF σ sn cntq rz.toNatClampNeg) 24) (gcnt (dlF σ sn cntq rz.toNatClampNeg) 24) lz.toNatClampNeg (nuF (dlF σ sn cntq rz.toNatClampNeg) 24))), (10, .int (nI kq))]) dX9_drawn_131 8 rfl (nI_inc _) (by decide) rfl ?_
                  refine r_iinc o (v := nI (kq + 1)) (lv' := [(10, .int (nI (kq + 1))), (9, .int (nI (req + 1))), (0, .ref (gad G 0)), (1, .int (nI rz.toNatClampNeg)), (2, .int (nI lz.toNatClampNeg)), (3, .int (nI nz.toNatClampNeg)), (4, .int (nI sdz.toNatClampNeg)), (5, .int (b01 (inB (nI 2) (nI 12) lz && (inB (nI 1) (nI 100) nz && inB (nI 1) (nI 1000000) sdz)))), (6, .int (refI (inB (nI 0) (nI 5) rz) (inB (nI 2) (nI 12) lz && (inB (nI 1) (nI 100) nz && inB (nI 1) (nI 1000000) sdz)) (fltF sn cntq 21 0))), (7, .long (wgt (yeF (dlF σ sn cntq rz.toNatClampNeg) 24) (gcnt (dlF σ sn cntq rz.toNatClampNeg) 24) lz.toNatClampNeg (nuF (dlF σ sn cntq rz.toNatClampNeg) 24)))]) dX9_drawn_134 9 rfl (nI_inc _) (by decide) rfl ?_
                  refine r_goto o (tgt := 99) dX9_drawn_137 (by decide) ?_
                  exact r_to dr_sto [2, 3, 4, 5, 6, 7, 8, 9, 1, 0] rfl (ih99 (kq + 1) (req + 1) ((drS ((gcnt (dlF σ sn cntq rz.toNatClampNeg) 24) - 1) gf seq1).1) ((drS ((gcnt (dlF σ sn cntq rz.toNatClampNeg) 24) - 1) gf seq1).2) (by omega) (by omega) (drS_lt _ _ _ hsel) (by rw [hdnq, show nz.toNatClampNeg - kq = (nz.toNatClampNeg - (kq + 1)) + 1 by omega, dn_s, if_pos hb128]; exact (Nat.add_assoc _ _ _).symm) (by omega))
          exact r_to (by rw [nI_l (by omega)]) [5, 6, 7, 8, 9, 4, 3, 2, 1, 0] rfl (L99 _ 0 0 (mix (σσ61 21).1 (σσ61 26).1 0 (gcnt (dlF σ sn cntq rz.toNatClampNeg) 24)) sdz.toNatClampNeg (by omega) (by omega) (by omega) (by rw [Nat.zero_add]; exact (dn_ag _ (fun jq hj => (mix_in (Nat.zero_le _) hj).trans (hk21 jq hj))).symm) (Nat.lt_succ_self _))
        · skip
          refine r_iload o dX9_drawn_52 0 rfl ?_
          exact r_ireturn o q dX9_drawn_54 (⟨by rw [if_neg hb49], fun _ _ => rfl⟩)
      · skip
        rw [b01_ne0] at hb25
        refine r_iconst o (v := nI 1) dX9_drawn_28 (by decide) ?_
        refine r_goto o (tgt := 33) dX9_drawn_29 (by decide) ?_
        refine r_topi (y := b01 (inB (nI 2) (nI 12) lz && (inB (nI 1) (nI 100) nz && inB (nI 1) (nI 1000000) sdz))) (by first | (rw [hb4]; rfl) | (rw [hb14]; simp only [Bool.and_false, Bool.false_and]; rfl) | (rw [hb25]; simp only [Bool.and_false, Bool.false_and]; rfl) | (rw [hb4, hb14, hb25]; rfl)) ?_
        refine r_istore o (lv' := [(5, .int (b01 (inB (nI 2) (nI 12) lz && (inB (nI 1) (nI 100) nz && inB (nI 1) (nI 1000000) sdz)))), (0, .ref (gad G 0)), (1, .int rz), (2, .int lz), (3, .int nz), (4, .int sdz)]) dX9_drawn_33 (by decide) rfl ?_
        refine r_aload_n o dX9_drawn_35 1 rfl ?_
        refine r_iload_n o dX9_drawn_36 2 rfl ?_
        refine r_callSI o (As := [.int rz]) (st := [.ref (gad G 0)]) (c_X9_isRow (xl X) G σ rz) om_X9_isRow mw_275 mw_274 (by decide) rfl rfl (Nat.le_of_ble_eq_true rfl) dX9_drawn_37 (fun rr37 σσ37 hp37 => ?_)
        obtain ⟨hp37, hp37b⟩ := hp37; replace hp37 := Eq.symm hp37; replace hp37b := Eq.symm hp37b; subst hp37; subst hp37b
        refine r_iload o dX9_drawn_40 0 rfl ?_
        refine r_callVI o (As := [.int (b01 (inB (nI 0) (nI 5) rz)), .int (b01 (inB (nI 2) (nI 12) lz && (inB (nI 1) (nI 100) nz && inB (nI 1) (nI 1000000) sdz)))]) (st := []) (c_X9_refusalOf (xl X) G σ sn cntq hp (inB (nI 0) (nI 5) rz) (inB (nI 2) (nI 12) lz && (inB (nI 1) (nI 100) nz && inB (nI 1) (nI 1000000) sdz))) om_X9_refusalOf mw_343 mw_4 mw_341 (by decide) rfl rfl rfl (by decide) rfl rfl (Nat.le_of_ble_eq_true rfl) dX9_drawn_42 (fun rr42 σσ42 hp42 => ?_)
        obtain ⟨hp42, hp42b⟩ := hp42; replace hp42 := Eq.symm hp42; replace hp42b := Eq.symm hp42b; subst hp42; subst hp42b
        refine r_istore o (lv' := [(6, .int (refI (inB (nI 0) (nI 5) rz) (inB (nI 2) (nI 12) lz && (inB (nI 1) (nI 100) nz && inB (nI 1) (nI 1000000) sdz)) (fltF sn cntq 21 0))), (5, .int (b01 (inB (nI 2) (nI 12) lz && (inB (nI 1) (nI 100) nz && inB (nI 1) (nI 1000000) sdz)))), (0, .ref (gad G 0)), (1, .int rz), (2, .int lz), (3, .int nz), (4, .int sdz)]) dX9_drawn_45 (by decide) rfl ?_
        refine r_iload o dX9_drawn_47 0 rfl ?_
        refine r_if_eq o (tgt := 55) dX9_drawn_49 (by decide) (fun hb49 => ?_) (fun hb49 => ?_)
        · skip
          obtain ⟨hk1, hk2, hno⟩ := refI_z hb49
          obtain ⟨hr1, hr2⟩ := inB_nI (n := 5) (by decide) hk1
          rw [Bool.and_eq_true, Bool.and_eq_true] at hk2
          obtain ⟨hl1, hl2⟩ := inB_nI (n := 12) (by decide) (inB_wk hk2.1)
          have hl3 := inB_ge hk2.1
          obtain ⟨hm1, hm2⟩ := inB_nI (n := 100) (by decide) (inB_wk hk2.2.1)
          obtain ⟨hs1, hs2⟩ := inB_nI (n := 1000000) (by decide) (inB_wk hk2.2.2)
          have hgl := gcnt_le (dlF σ sn cntq rz.toNatClampNeg) 24
          refine r_lv (lv' := [(6, .int (refI (inB (nI 0) (nI 5) rz) (inB (nI 2) (nI 12) lz && (inB (nI 1) (nI 100) nz && inB (nI 1) (nI 1000000) sdz)) (fltF sn cntq 21 0))), (5, .int (b01 (inB (nI 2) (nI 12) lz && (inB (nI 1) (nI 100) nz && inB (nI 1) (nI 1000000) sdz)))), (0, .ref (gad G 0)), (1, .int (nI rz.toNatClampNeg)), (2, .int lz), (3, .int nz), (4, .int sdz)]) (congrArg (fun zz => ([(6, .int (refI (inB (nI 0) (nI 5) rz) (inB (nI 2) (nI 12) lz && (inB (nI 1) (nI 100) nz && inB (nI 1) (nI 1000000) sdz)) (fltF sn cntq 21 0))), (5, .int (b01 (inB (nI 2) (nI 12) lz && (inB (nI 1) (nI 100) nz && inB (nI 1) (nI 1000000) sdz)))), (0, .ref (gad G 0)), (1, .int zz), (2, .int lz), (3, .int nz), (4, .int sdz)] : List (Nat × Value))) (hr1)) ?_
          refine r_lv (lv' := [(6, .int (refI (inB (nI 0) (nI 5) rz) (inB (nI 2) (nI 12) lz && (inB (nI 1) (nI 100) nz && inB (nI 1) (nI 1000000) sdz)) (fltF sn cntq 21 0))), (5, .int (b01 (inB (nI 2) (nI 12) lz && (inB (nI 1) (nI 100) nz && inB (nI 1) (nI 1000000) sdz)))), (0, .ref (gad G 0)), (1, .int (nI rz.toNatClampNeg)), (2, .int (nI lz.toNatClampNeg)), (3, .int nz), (4, .int sdz)]) (congrArg (fun zz => ([(6, .int (refI (inB (nI 0) (nI 5) rz) (inB (nI 2) (nI 12) lz && (inB (nI 1) (nI 100) nz && inB (nI 1) (nI 1000000) sdz)) (fltF sn cntq 21 0))), (5, .int (b01 (inB (nI 2) (nI 12) lz && (inB (nI 1) (nI 100) nz && inB (nI 1) (nI 1000000) sdz)))), (0, .ref (gad G 0)), (1, .int (nI rz.toNatClampNeg)), (2, .int zz), (3, .int nz), (4, .int sdz)] : List (Nat × Value))) (hl1)) ?_
          refine r_lv (lv' := [(6, .int (refI (inB (nI 0) (nI 5) rz) (inB (nI 2) (nI 12) lz && (inB (nI 1) (nI 100) nz && inB (nI 1) (nI 1000000) sdz)) (fltF sn cntq 21 0))), (5, .int (b01 (inB (nI 2) (nI 12) lz && (inB (nI 1) (nI 100) nz && inB (nI 1) (nI 1000000) sdz)))), (0, .ref (gad G 0)), (1, .int (nI rz.toNatClampNeg)), (2, .int (nI lz.toNatClampNeg)), (3, .int (nI nz.toNatClampNeg)), (4, .int sdz)]) (congrArg (fun zz => ([(6, .int (refI (inB (nI 0) (nI 5) rz) (inB (nI 2) (nI 12) lz && (inB (nI 1) (nI 100) nz && inB (nI 1) (nI 1000000) sdz)) (fltF sn cntq 21 0))), (5, .int (b01 (inB (nI 2) (nI 12) lz && (inB (nI 1) (nI 100) nz && inB (nI 1) (nI 1000000) sdz)))), (0, .ref (gad G 0)), (1, .int (nI rz.toNatClampNeg)), (2, .int (nI lz.toNatClampNeg)), (3, .int zz), (4, .int sdz)] : List (Nat × Value))) (hm1)) ?_
          refine r_lv (lv' := [(6, .int (refI (inB (nI 0) (nI 5) rz) (inB (nI 2) (nI 12) lz && (inB (nI 1) (nI 100) nz && inB (nI 1) (nI 1000000) sdz)) (fltF sn cntq 21 0))), (5, .int (b01 (inB (nI 2) (nI 12) lz && (inB (nI 1) (nI 100) nz && inB (nI 1) (nI 1000000) sdz)))), (0, .ref (gad G 0)), (1, .int (nI rz.toNatClampNeg)), (2, .int (nI lz.toNatClampNeg)), (3, .int (nI nz.toNatClampNeg)), (4, .int (nI sdz.toNatClampNeg))]) (congrArg (fun zz => ([(6, .int (refI (inB (nI 0) (nI 5) rz) (inB (nI 2) (nI 12) lz && (inB (nI 1) (nI 100) nz && inB (nI 1) (nI 1000000) sdz)) (fltF sn cntq 21 0))), (5, .int (b01 (inB (nI 2) (nI 12) lz && (inB (nI 1) (nI 100) nz && inB (nI 1) (nI 1000000) sdz)))), (0, .ref (gad G 0)), (1, .int (nI rz.toNatClampNeg)), (2, .int (nI lz.toNatClampNeg)), (3, .int (nI nz.toNatClampNeg)), (4, .int zz)] : List (Nat × Value))) (hs1)) ?_
          refine r_aload_n o dX9_drawn_55 2 rfl ?_
          refine r_iload_n o dX9_drawn_56 3 rfl ?_
          refine r_bipush o (v := nI 24) dX9_drawn_57 (by decide) ?_
          refine r_iload_n o dX9_drawn_59 4 rfl ?_
          refine r_iload_n o dX9_drawn_60 4 rfl ?_
          refine r_callVV o (As := [.int (nI rz.toNatClampNeg), .int (nI 24), .int (nI lz.toNatClampNeg), .int (nI lz.toNatClampNeg)]) (st := []) (c_X9_takeRounds (xl X) G σ sn cntq hp rz.toNatClampNeg (by omega) 24 (by omega) lz.toNatClampNeg lz.toNatClampNeg (by omega) hno) om_X9_takeRounds mw_398 mw_7 mw_396 (by decide) rfl rfl rfl (by decide) rfl rfl (Nat.le_of_ble_eq_true rfl) dX9_drawn_61 (fun σσ61 hp61 => ?_)
          obtain ⟨hk2, hk21, hk22, hk20, hk4a, hk4b, hkla, hkag⟩ := hp61
          refine r_aload_n o dX9_drawn_64 2 rfl ?_
          refine gf_0_4 o mw_240 dX9_drawn_65 ?_
          refine r_aload_n o dX9_drawn_68 2 rfl ?_
          refine gf_0_2 o mw_238 dX9_drawn_69 ?_
          refine gfN_2_1 o mw_87 dX9_drawn_72 ?_
          refine r_callVL o (As := [.ref (gad G 21)]) (st := []) (c_X8_greatest (xl X) G σσ61 (yeF (dlF σ sn cntq rz.toNatClampNeg) 24) (gcnt (dlF σ sn cntq rz.toNatClampNeg) 24) lz.toNatClampNeg lz.toNatClampNeg (by omega) hk4a hk4b hkla ((σσ61 21).1) rfl) om_X8_greatest mw_420 mw_421 mw_419 (by decide) rfl rfl rfl (by decide) rfl rfl (Nat.le_of_ble_eq_true rfl) dX9_drawn_75 (fun rr75 σσ75 hp75 => ?_)
          obtain ⟨hp75, hp75b⟩ := hp75; replace hp75 := Eq.symm hp75; replace hp75b := Eq.symm hp75b; subst hp75; subst hp75b
          refine r_topl (y := (wgt (yeF (dlF σ sn cntq rz.toNatClampNeg) 24) (gcnt (dlF σ sn cntq rz.toNatClampNeg) 24) lz.toNatClampNeg (nuF (dlF σ sn cntq rz.toNatClampNeg) 24))) (by rw [fgS_one]; exact wg_cong hk21) ?_
          refine r_lstore o (lv' := [(7, .long (wgt (yeF (dlF σ sn cntq rz.toNatClampNeg) 24) (gcnt (dlF σ sn cntq rz.toNatClampNeg) 24) lz.toNatClampNeg (nuF (dlF σ sn cntq rz.toNatClampNeg) 24))), (6, .int (refI (inB (nI 0) (nI 5) rz) (inB (nI 2) (nI 12) lz && (inB (nI 1) (nI 100) nz && inB (nI 1) (nI 1000000) sdz)) (fltF sn cntq 21 0))), (5, .int (b01 (inB (nI 2) (nI 12) lz && (inB (nI 1) (nI 100) nz && inB (nI 1) (nI 1000000) sdz)))), (0, .ref (gad G 0)), (1, .int (nI rz.toNatClampNeg)), (2, .int (nI lz.toNatClampNeg)), (3, .int (nI nz.toNatClampNeg)), (4, .int (nI sdz.toNatClampNeg))]) dX9_drawn_78 (by decide) rfl ?_
          refine r_aload_n o dX9_drawn_80 3 rfl ?_
          refine gf_0_5 o mw_241 dX9_drawn_81 ?_
          refine r_aload_n o dX9_drawn_84 3 rfl ?_
          refine gf_0_2 o mw_238 dX9_drawn_85 ?_
          refine r_iload o dX9_drawn_88 7 rfl ?_
          refine r_callVV o (As := [.ref (gad G 2), .int (nI sdz.toNatClampNeg)]) (st := []) (c_X4_begin (xl X) G σσ61 (gcnt (dlF σ sn cntq rz.toNatClampNeg) 24) hk2 hgl ((σσ61 21).1) rfl ((σσ61 26).1) rfl (nI sdz.toNatClampNeg)) om_X4_begin mw_465 mw_466 mw_464 (by decide) rfl rfl rfl (by decide) rfl rfl (Nat.le_of_ble_eq_true rfl) dX9_drawn_90 (fun σσ90 hp90 => ?_)
          replace hp90 := Eq.symm hp90; subst hp90
          refine r_iconst o (v := nI 0) dX9_drawn_93 (by decide) ?_
          refine r_istore o (lv' := [(9, .int (nI 0)), (7, .long (wgt (yeF (dlF σ sn cntq rz.toNatClampNeg) 24) (gcnt (dlF σ sn cntq rz.toNatClampNeg) 24) lz.toNatClampNeg (nuF (dlF σ sn cntq rz.toNatClampNeg) 24))), (6, .int (refI (inB (nI 0) (nI 5) rz) (inB (nI 2) (nI 12) lz && (inB (nI 1) (nI 100) nz && inB (nI 1) (nI 1000000) sdz)) (fltF sn cntq 21 0))), (5, .int (b01 (inB (nI 2) (nI 12) lz && (inB (nI 1) (nI 100) nz && inB (nI 1) (nI 1000000) sdz)))), (0, .ref (gad G 0)), (1, .int (nI rz.toNatClampNeg)), (2, .int (nI lz.toNatClampNeg)), (3, .int (nI nz.toNatClampNeg)), (4, .int (nI sdz.toNatClampNeg))]) dX9_drawn_94 (by decide) rfl ?_
          refine r_iconst o (v := nI 0) dX9_drawn_96 (by decide) ?_
          refine r_istore o (lv' := [(10, .int (nI 0)), (9, .int (nI 0)), (7, .long (wgt (yeF (dlF σ sn cntq rz.toNatClampNeg) 24) (gcnt (dlF σ sn cntq rz.toNatClampNeg) 24) lz.toNatClampNeg (nuF (dlF σ sn cntq rz.toNatClampNeg) 24))), (6, .int (refI (inB (nI 0) (nI 5) rz) (inB (nI 2) (nI 12) lz && (inB (nI 1) (nI 100) nz && inB (nI 1) (nI 1000000) sdz)) (fltF sn cntq 21 0))), (5, .int (b01 (inB (nI 2) (nI 12) lz && (inB (nI 1) (nI 100) nz && inB (nI 1) (nI 1000000) sdz)))), (0, .ref (gad G 0)), (1, .int (nI rz.toNatClampNeg)), (2, .int (nI lz.toNatClampNeg)), (3, .int (nI nz.toNatClampNeg)), (4, .int (nI sdz.toNatClampNeg))]) dX9_drawn_97 (by decide) rfl ?_
          have L99 : ∀ (n : Nat) (kq : Nat) (req : Nat) (gf : Nat → Int32) (seq1 : Nat) (hkq : kq ≤ nz.toNatClampNeg) (hreq : req ≤ kq) (hsel : seq1 < 2147483648) (hdnq : dnR (yeF (dlF σ sn cntq rz.toNatClampNeg) 24) (gcnt (dlF σ sn cntq rz.toNatClampNeg) 24) lz.toNatClampNeg (wgt (yeF (dlF σ sn cntq rz.toNatClampNeg) 24) (gcnt (dlF σ sn cntq rz.toNatClampNeg) 24) lz.toNatClampNeg (nuF (dlF σ sn cntq rz.toNatClampNeg) 24)) nz.toNatClampNeg (nuF (dlF σ sn cntq rz.toNatClampNeg) 24) sdz.toNatClampNeg = req + dnR (yeF (dlF σ sn cntq rz.toNatClampNeg) 24) (gcnt (dlF σ sn cntq rz.toNatClampNeg) 24) lz.toNatClampNeg (wgt (yeF (dlF σ sn cntq rz.toNatClampNeg) 24) (gcnt (dlF σ sn cntq rz.toNatClampNeg) 24) lz.toNatClampNeg (nuF (dlF σ sn cntq rz.toNatClampNeg) 24)) (nz.toNatClampNeg - kq) gf seq1), nz.toNatClampNeg - kq < n → WS X G 11 (sta (stl (sti σσ61 5 1 (nI (gcnt (dlF σ sn cntq rz.toNatClampNeg) 24))) 5 2 (lN seq1)) 26 gf) 99 [(0, .ref (gad G 0)), (1, .int (nI rz.toNatClampNeg)), (2, .int (nI lz.toNatClampNeg)), (3, .int (nI nz.toNatClampNeg)), (4, .int (nI sdz.toNatClampNeg)), (5, .int (b01 (inB (nI 2) (nI 12) lz && (inB (nI 1) (nI 100) nz && inB (nI 1) (nI 1000000) sdz)))), (6, .int (refI (inB (nI 0) (nI 5) rz) (inB (nI 2) (nI 12) lz && (inB (nI 1) (nI 100) nz && inB (nI 1) (nI 1000000) sdz)) (fltF sn cntq 21 0))), (7, .long (wgt (yeF (dlF σ sn cntq rz.toNatClampNeg) 24) (gcnt (dlF σ sn cntq rz.toNatClampNeg) 24) lz.toNatClampNeg (nuF (dlF σ sn cntq rz.toNatClampNeg) 24))), (9, .int (nI req)), (10, .int (nI kq))] [] := by
            intro n
            induction n with
            | zero => intro kq req gf seq1 hkq hreq hsel hdnq hm; exact absurd hm (Nat.not_lt_zero _)
            | succ n ih99 =>
              intro kq req gf seq1 hkq hreq hsel hdnq hm
              refine r_iload o dX9_drawn_99 9 rfl ?_
              refine r_iload_n o dX9_drawn_101 3 rfl ?_
              refine r_icmp_ge o (tgt := 140) dX9_drawn_102 (by decide) (fun hb102 => ?_) (fun hb102 => ?_)
              · skip
                rw [nI_leI (by omega) (by omega)] at hb102
                have hfin : dnR (yeF (dlF σ sn cntq rz.toNatClampNeg) 24) (gcnt (dlF σ sn cntq rz.toNatClampNeg) 24) lz.toNatClampNeg (wgt (yeF (dlF σ sn cntq rz.toNatClampNeg) 24) (gcnt (dlF σ sn cntq rz.toNatClampNeg) 24) lz.toNatClampNeg (nuF (dlF σ sn cntq rz.toNatClampNeg) 24)) nz.toNatClampNeg (nuF (dlF σ sn cntq rz.toNatClampNeg) 24) sdz.toNatClampNeg = req := by rw [hdnq, show nz.toNatClampNeg - kq = 0 by omega]; rfl
                refine r_iload o dX9_drawn_140 8 rfl ?_
                exact r_ireturn o q dX9_drawn_142 (⟨by rw [if_pos hb49, hfin], fun cz hcz => by unfold scrC at hcz; simp (disch := omega) only [stl_ne, sta_ne, sti_ne]; exact hkag cz (by unfold scr1; omega)⟩)
              · skip
                rw [nI_leI (by omega) (by omega)] at hb102
                refine r_aload_n o dX9_drawn_105 0 rfl ?_
                refine gf_0_5 o mw_241 dX9_drawn_106 ?_
                refine r_callVV o (As := []) (st := []) (c_X4_draw (xl X) G (sta (stl (sti σσ61 5 1 (nI (gcnt (dlF σ sn cntq rz.toNatClampNeg) 24))) 5 2 (lN seq1)) 26 gf) gf rfl (gcnt (dlF σ sn cntq rz.toNatClampNeg) 24) rfl (by omega) seq1 rfl hsel) om_X4_draw mw_494 mw_495 mw_493 (by decide) rfl rfl rfl (by decide) rfl rfl (Nat.le_of_ble_eq_true rfl) dX9_drawn_109 (fun σσ109 hp109 => ?_)
                replace hp109 := Eq.symm hp109; subst hp109
                refine r_aload_n o dX9_drawn_112 0 rfl ?_
                refine gf_0_4 o mw_240 dX9_drawn_113 ?_
                refine r_aload_n o dX9_drawn_116 0 rfl ?_
                refine gf_0_5 o mw_241 dX9_drawn_117 ?_
                refine gfN_5_0 o mw_146 dX9_drawn_120 ?_
                refine r_lload o dX9_drawn_123 7 rfl ?_
                refine r_callVI o (As := [.ref (gad G 26), .long (wgt (yeF (dlF σ sn cntq rz.toNatClampNeg) 24) (gcnt (dlF σ sn cntq rz.toNatClampNeg) 24) lz.toNatClampNeg (nuF (dlF σ sn cntq rz.toNatClampNeg) 24))]) (st := []) (c_X8_reach (xl X) G (sta (stl (sta (stl (sti σσ61 5 1 (nI (gcnt (dlF σ sn cntq rz.toNatClampNeg) 24))) 5 2 (lN seq1)) 26 gf) 5 2 (lN (drS ((gcnt (dlF σ sn cntq rz.toNatClampNeg) 24) - 1) gf seq1).2)) 26 ((drS ((gcnt (dlF σ sn cntq rz.toNatClampNeg) 24) - 1) gf seq1).1)) (yeF (dlF σ sn cntq rz.toNatClampNeg) 24) (gcnt (dlF σ sn cntq rz.toNatClampNeg) 24) lz.toNatClampNeg lz.toNatClampNeg (by omega) hk4a hk4b (fun jq hq1 hq2 => laid_ag (fun cz hc1 hc2 => by simp (disch := omega) only [sta_ne, stl_ne, sti_ne]) (by omega) (hkla jq hq1 hq2)) ((drS ((gcnt (dlF σ sn cntq rz.toNatClampNeg) 24) - 1) gf seq1).1) rfl (wgt (yeF (dlF σ sn cntq rz.toNatClampNeg) 24) (gcnt (dlF σ sn cntq rz.toNatClampNeg) 24) lz.toNatClampNeg (nuF (dlF σ sn cntq rz.toNatClampNeg) 24))) om_X8_reach mw_477 mw_478 mw_476 (by decide) rfl rfl rfl (by decide) rfl rfl (Nat.le_of_ble_eq_true rfl) dX9_drawn_125 (fun rr125 σσ125 hp125 => ?_)
                obtain ⟨hp125, hp125b⟩ := hp125; replace hp125 := Eq.symm hp125; replace hp125b := Eq.symm hp125b; subst hp125; subst hp125b
                refine r_if_eq o (tgt := 134) dX9_drawn_128 (by decide) (fun hb128 => ?_) (fun hb128 => ?_)
                · skip
                  rw [b01_eq0] at hb128
                  refine r_iinc o (v := nI (kq + 1)) (lv' := [(10, .int (nI (kq + 1))), (0, .ref (gad G 0)), (1, .int (nI rz.toNatClampNeg)), (2, .int (nI lz.toNatClampNeg)), (3, .int (nI nz.toNatClampNeg)), (4, .int (nI sdz.toNatClampNeg)), (5, .int (b01 (inB (nI 2) (nI 12) lz && (inB (nI 1) (nI 100) nz && inB (nI 1) (nI 1000000) sdz)))), (6, .int (refI (inB (nI 0) (nI 5) rz) (inB (nI 2) (nI 12) lz && (inB (nI 1) (nI 100) nz && inB (nI 1) (nI 1000000) sdz)) (fltF sn cntq 21 0))), (7, .long (wgt (yeF (dlF σ sn cntq rz.toNatClampNeg) 24) (gcnt (dlF σ sn cntq rz.toNatClampNeg) 24) lz.toNatClampNeg (nuF (dlF σ sn cntq rz.toNatClampNeg) 24))), (9, .int (nI req))]) dX9_drawn_134 9 rfl (nI_inc _) (by decide) rfl ?_
                  refine r_goto o (tgt := 99) dX9_drawn_137 (by decide) ?_
                  exact r_to dr_sto [1, 2, 3, 4, 5, 6, 7, 8, 9, 0] rfl (ih99 (kq + 1) req ((drS ((gcnt (dlF σ sn cntq rz.toNatClampNeg) 24) - 1) gf seq1).1) ((drS ((gcnt (dlF σ sn cntq rz.toNatClampNeg) 24) - 1) gf seq1).2) (by omega) (by omega) (drS_lt _ _ _ hsel) (by rw [hdnq, show nz.toNatClampNeg - kq = (nz.toNatClampNeg - (kq + 1)) + 1 by omega, dn_s, if_neg (by rw [hb128]; decide)]; exact congrArg _ (Nat.zero_add _)) (by omega))
                · skip
                  rw [b01_ne0] at hb128
                  refine r_iinc o (v := nI (req + 1)) (lv' := [(9, .int (nI (req + 1))), (0, .ref (gad G 0)), (1, .int (nI rz.toNatClampNeg)), (2, .int (nI lz.toNatClampNeg)), (3, .int (nI nz.toNatClampNeg)), (4, .int (nI sdz.toNatClampNeg)), (5, .int (b01 (inB (nI 2) (nI 12) lz && (inB (nI 1) (nI 100) nz && inB (nI 1) (nI 1000000) sdz)))), (6, .int (refI (inB (nI 0) (nI 5) rz) (inB (nI 2) (nI 12) lz && (inB (nI 1) (nI 100) nz && inB (nI 1) (nI 1000000) sdz)) (fltF sn cntq 21 0))), (7, .long (wgt (yeF (dlF σ sn cntq rz.toNatClampNeg) 24) (gcnt (dlF σ sn cntq rz.toNatClampNeg) 24) lz.toNatClampNeg (nuF (dlF σ sn cntq rz.toNatClampNeg) 24))), (10, .int (nI kq))]) dX9_drawn_131 8 rfl (nI_inc _) (by decide) rfl ?_
                  refine r_iinc o (v := nI (kq + 1)) (lv' := [(10, .int (nI (kq + 1))), (9, .int (nI (req + 1))), (0, .ref (gad G 0)), (1, .int (nI rz.toNatClampNeg)), (2, .int (nI lz.toNatClampNeg)), (3, .int (nI nz.toNatClampNeg)), (4, .int (nI sdz.toNatClampNeg)), (5, .int (b01 (inB (nI 2) (nI 12) lz && (inB (nI 1) (nI 100) nz && inB (nI 1) (nI 1000000) sdz)))), (6, .int (refI (inB (nI 0) (nI 5) rz) (inB (nI 2) (nI 12) lz && (inB (nI 1) (nI 100) nz && inB (nI 1) (nI 1000000) sdz)) (fltF sn cntq 21 0))), (7, .long (wgt (yeF (dlF σ sn cntq rz.toNatClampNeg) 24) (gcnt (dlF σ sn cntq rz.toNatClampNeg) 24) lz.toNatClampNeg (nuF (dlF σ sn cntq rz.toNatClampNeg) 24)))]) dX9_drawn_134 9 rfl (nI_inc _) (by decide) rfl ?_
                  refine r_goto o (tgt := 99) dX9_drawn_137 (by decide) ?_
                  exact r_to dr_sto [2, 3, 4, 5, 6, 7, 8, 9, 1, 0] rfl (ih99 (kq + 1) (req + 1) ((drS ((gcnt (dlF σ sn cntq rz.toNatClampNeg) 24) - 1) gf seq1).1) ((drS ((gcnt (dlF σ sn cntq rz.toNatClampNeg) 24) - 1) gf seq1).2) (by omega) (by omega) (drS_lt _ _ _ hsel) (by rw [hdnq, show nz.toNatClampNeg - kq = (nz.toNatClampNeg - (kq + 1)) + 1 by omega, dn_s, if_pos hb128]; exact (Nat.add_assoc _ _ _).symm) (by omega))
          exact r_to (by rw [nI_l (by omega)]) [5, 6, 7, 8, 9, 4, 3, 2, 1, 0] rfl (L99 _ 0 0 (mix (σσ61 21).1 (σσ61 26).1 0 (gcnt (dlF σ sn cntq rz.toNatClampNeg) 24)) sdz.toNatClampNeg (by omega) (by omega) (by omega) (by rw [Nat.zero_add]; exact (dn_ag _ (fun jq hj => (mix_in (Nat.zero_le _) hj).trans (hk21 jq hj))).symm) (Nat.lt_succ_self _))
        · skip
          refine r_iload o dX9_drawn_52 0 rfl ?_
          exact r_ireturn o q dX9_drawn_54 (⟨by rw [if_neg hb49], fun _ _ => rfl⟩)
