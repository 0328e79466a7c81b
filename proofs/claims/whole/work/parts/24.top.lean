set_option maxHeartbeats 4000000 in
set_option maxRecDepth 100000 in
theorem c_X9_refusalOf (l : Launch) (G : Gl) (σ : Sto) (sn : Nat → Nat) (cntq : Nat) (hp : PadO σ sn cntq) (b1q : Bool) (b2q : Bool) : CtI l G yX9_refusalOf cX9_refusalOf 3 (some .int) 5 112 [.ref (gad G 0), .int (b01 b1q), .int (b01 b2q)] σ (fun r σ' => r = refI b1q b2q (fltF sn cntq 21 0) ∧ σ' = σ) := by
  refine CtI.of (by decide +kernel) (Nat.le_of_ble_eq_true rfl) (fun X o q => ?_)
  show WS X G 3 σ 0 [(0, .ref (gad G 0)), (1, .int (b01 b1q)), (2, .int (b01 b2q))] []
  obtain ⟨hcq, hcnt, hsg, hsn⟩ := id hp
  refine r_iload_n o dX9_refusalOf_0 1 rfl ?_
  refine r_if_ne o (tgt := 6) dX9_refusalOf_1 (by decide) (fun hb1 => ?_) (fun hb1 => ?_)
  · skip
    rw [b01_ne0] at hb1
    refine r_iload_n o dX9_refusalOf_6 2 rfl ?_
    refine r_if_ne o (tgt := 13) dX9_refusalOf_7 (by decide) (fun hb7 => ?_) (fun hb7 => ?_)
    · skip
      rw [b01_ne0] at hb7
      refine r_aload_n o dX9_refusalOf_13 0 rfl ?_
      refine gf_0_1 o mw_237 dX9_refusalOf_14 ?_
      refine r_callVI o (As := []) (st := []) (c_X5_firstFault (xl X) G σ sn cntq hp) om_X5_firstFault mw_314 mw_315 mw_313 (by decide) rfl rfl rfl (by decide) rfl rfl (Nat.le_of_ble_eq_true rfl) dX9_refusalOf_17 (fun rr17 σσ17 hp17 => ?_)
      obtain ⟨hp17, hp17b⟩ := hp17; replace hp17 := Eq.symm hp17; replace hp17b := Eq.symm hp17b; subst hp17; subst hp17b
      refine r_bipush o (v := (-6)) dX9_refusalOf_20 (by decide) ?_
      refine r_icmp_ne o (tgt := 29) dX9_refusalOf_22 (by decide) (fun hb22 => ?_) (fun hb22 => ?_)
      · skip
        refine r_bipush o (v := (-5)) dX9_refusalOf_29 (by decide) ?_
        exact r_ireturn o q dX9_refusalOf_31 (⟨by unfold refI; rw [if_neg (by rw [hb1]; decide), if_neg (by rw [hb7]; decide)]; first | (rw [fltI_none hb22 (fun pq1 hq => by have hq2 := flt_le hq; omega)]; done) | (cases hfl : fltF sn cntq 21 0 with | none => exact absurd (show fltI sn cntq = -6 by unfold fltI; rw [hfl]) hb22 | some _ => rfl), rfl⟩)
      · skip
        refine r_iconst o (v := nI 0) dX9_refusalOf_25 (by decide) ?_
        refine r_goto o (tgt := 31) dX9_refusalOf_26 (by decide) ?_
        exact r_ireturn o q dX9_refusalOf_31 (⟨by unfold refI; rw [if_neg (by rw [hb1]; decide), if_neg (by rw [hb7]; decide)]; first | (rw [fltI_none hb22 (fun pq1 hq => by have hq2 := flt_le hq; omega)]; done) | (cases hfl : fltF sn cntq 21 0 with | none => exact absurd (show fltI sn cntq = -6 by unfold fltI; rw [hfl]) hb22 | some _ => rfl), rfl⟩)
    · skip
      rw [b01_eq0] at hb7
      refine r_bipush o (v := (-2)) dX9_refusalOf_10 (by decide) ?_
      exact r_ireturn o q dX9_refusalOf_12 (⟨by unfold refI; rw [if_neg (by rw [hb1]; decide), if_pos hb7], rfl⟩)
  · skip
    rw [b01_eq0] at hb1
    refine r_iconst o (v := (-1)) dX9_refusalOf_4 (by decide) ?_
    exact r_ireturn o q dX9_refusalOf_5 (⟨by unfold refI; rw [if_pos hb1], rfl⟩)
set_option maxHeartbeats 4000000 in
set_option maxRecDepth 100000 in
theorem c_X9_numbersIn (l : Launch) (G : Gl) (σ : Sto) (rq : Nat) (hrq : rq < 6) (fq : Nat → Int32) (hfq : (σ (13 + rq)).1 = fq) : CtI l G yX9_numbersIn cX9_numbersIn 3 (some .int) 0 0 [.ref (gad G (13 + rq))] σ (fun r σ' => r = nI (gcnt fq 24) ∧ σ' = σ) := by
  refine CtI.of (by decide +kernel) (Nat.le_of_ble_eq_true rfl) (fun X o q => ?_)
  show WS X G 3 σ 0 [(0, .ref (gad G (13 + rq)))] []
  refine r_iconst o (v := nI 0) dX9_numbersIn_0 (by decide) ?_
  refine r_istore_n o (lv' := [(1, .int (nI 0)), (0, .ref (gad G (13 + rq)))]) dX9_numbersIn_1 (by decide) rfl ?_
  refine r_iconst o (v := nI 0) dX9_numbersIn_2 (by decide) ?_
  refine r_istore_n o (lv' := [(2, .int (nI 0)), (1, .int (nI 0)), (0, .ref (gad G (13 + rq)))]) dX9_numbersIn_3 (by decide) rfl ?_
  have L4 : ∀ (n : Nat) (kq : Nat) (hkq : kq ≤ 24), 24 - kq < n → WS X G 3 σ 4 [(0, .ref (gad G (13 + rq))), (1, .int (nI (gcnt fq kq))), (2, .int (nI kq))] [] := by
    intro n
    induction n with
    | zero => intro kq hkq hm; exact absurd hm (Nat.not_lt_zero _)
    | succ n ih4 =>
      intro kq hkq hm
      refine r_iload_n o dX9_numbersIn_4 2 rfl ?_
      refine r_bipush o (v := nI 24) dX9_numbersIn_5 (by decide) ?_
      refine r_icmp_ge o (tgt := 27) dX9_numbersIn_7 (by decide) (fun hb7 => ?_) (fun hb7 => ?_)
      · skip
        rw [nI_leI (by omega) (by omega)] at hb7
        obtain rfl : kq = 24 := by omega
        refine r_iload_n o dX9_numbersIn_27 1 rfl ?_
        exact r_ireturn o q dX9_numbersIn_28 (⟨rfl, rfl⟩)
      · skip
        rw [nI_leI (by omega) (by omega)] at hb7
        refine r_aload_n o dX9_numbersIn_10 0 rfl ?_
        refine r_iload_n o dX9_numbersIn_11 2 rfl ?_
        refine r_ia o (by omega) (ceY (by omega)) (f := fq) hfq kq rfl (by omega) (by decide) dX9_numbersIn_12 ?_
        refine r_ldc o mw_235 dX9_numbersIn_13 ?_
        refine r_icmp_eq o (tgt := 21) dX9_numbersIn_15 (by decide) (fun hb15 => ?_) (fun hb15 => ?_)
        · skip
          refine r_lv (lv' := [(0, .ref (gad G (13 + rq))), (1, .int (nI (gcnt fq (kq + 1)))), (2, .int (nI kq))]) (congrArg (fun zz => ([(0, .ref (gad G (13 + rq))), (1, .int zz), (2, .int (nI kq))] : List (Nat × Value))) (congrArg nI (gcnt_g hb15).symm)) ?_
          refine r_iinc o (v := nI (kq + 1)) (lv' := [(2, .int (nI (kq + 1))), (0, .ref (gad G (13 + rq))), (1, .int (nI (gcnt fq (kq + 1))))]) dX9_numbersIn_21 2 rfl (nI_inc _) (by decide) rfl ?_
          refine r_goto o (tgt := 4) dX9_numbersIn_24 (by decide) ?_
          exact r_to rfl [1, 2, 0] rfl (ih4 (kq + 1) (by omega) (by omega))
        · skip
          refine r_iinc o (v := nI (gcnt fq kq + 1)) (lv' := [(1, .int (nI (gcnt fq kq + 1))), (0, .ref (gad G (13 + rq))), (2, .int (nI kq))]) dX9_numbersIn_18 1 rfl (nI_inc _) (by decide) rfl ?_
          refine r_lv (lv' := [(1, .int (nI (gcnt fq (kq + 1)))), (0, .ref (gad G (13 + rq))), (2, .int (nI kq))]) (congrArg (fun zz => ([(1, .int zz), (0, .ref (gad G (13 + rq))), (2, .int (nI kq))] : List (Nat × Value))) (congrArg nI (gcnt_n hb15).symm)) ?_
          refine r_iinc o (v := nI (kq + 1)) (lv' := [(2, .int (nI (kq + 1))), (1, .int (nI (gcnt fq (kq + 1)))), (0, .ref (gad G (13 + rq)))]) dX9_numbersIn_21 2 rfl (nI_inc _) (by decide) rfl ?_
          refine r_goto o (tgt := 4) dX9_numbersIn_24 (by decide) ?_
          exact r_to rfl [2, 1, 0] rfl (ih4 (kq + 1) (by omega) (by omega))
  exact r_to rfl [2, 1, 0] rfl (L4 _ 0 (by omega) (Nat.lt_succ_self _))
set_option maxHeartbeats 4000000 in
set_option maxRecDepth 100000 in
theorem c_X9_takeRounds (l : Launch) (G : Gl) (σ : Sto) (sn : Nat → Nat) (cntq : Nat) (hp : PadO σ sn cntq) (rq : Nat) (hrq : rq < 6) (endq : Nat) (hend : 1 ≤ endq ∧ endq ≤ 24) (f1q : Nat) (t1q : Nat) (hft : 2 ≤ f1q ∧ f1q ≤ t1q ∧ t1q ≤ 12) (hno : fltF sn cntq 21 0 = none) : CtV l G yX9_takeRounds cX9_takeRounds 5 none 5 111 [.ref (gad G 0), .int (nI rq), .int (nI endq), .int (nI f1q), .int (nI t1q)] σ (fun σ' => TkR σ σ' (dlF σ sn cntq rq) endq f1q t1q) := by
  refine CtV.of (by decide +kernel) (Nat.le_of_ble_eq_true rfl) (fun X o q => ?_)
  show WS X G 5 σ 0 [(0, .ref (gad G 0)), (1, .int (nI rq)), (2, .int (nI endq)), (3, .int (nI f1q)), (4, .int (nI t1q))] []
  obtain ⟨bf, hbf⟩ : ∃ zq, zq = (dealW sn cntq 21 0 (mix (σ (13 + rq)).1 (σ 20).1 0 24)) := ⟨_, rfl⟩
  have hbd : ∀ yq, yq < 24 → bf yq = (dlF σ sn cntq rq) yq := by rw [hbf]; exact ag_deal 21 0 (fun yq hy => mix_in (Nat.zero_le _) hy)
  have hbe : ∀ yq, yq < endq → bf yq = (dlF σ sn cntq rq) yq := fun yq hy => hbd yq (by omega)
  have hgc : gcnt bf endq = gcnt (dlF σ sn cntq rq) endq := ag_cnt hbe
  have hgl := gcnt_le (dlF σ sn cntq rq) endq
  refine r_aload_n o dX9_takeRounds_0 0 rfl ?_
  refine gf_0_1 o mw_237 dX9_takeRounds_1 ?_
  refine r_aload_n o dX9_takeRounds_4 0 rfl ?_
  refine gf_0_0 o mw_236 dX9_takeRounds_5 ?_
  refine r_iload_n o dX9_takeRounds_8 1 rfl ?_
  refine r_rows o rq rfl (by omega) dX9_takeRounds_9 ?_
  refine r_aload_n o dX9_takeRounds_10 0 rfl ?_
  refine gf_0_2 o mw_238 dX9_takeRounds_11 ?_
  refine gfN_2_0 o mw_83 dX9_takeRounds_14 ?_
  refine r_callVV o (As := [.ref (gad G (13 + rq)), .ref (gad G 20)]) (st := []) (c_X5_deal_20 (xl X) G σ sn cntq hp rq hrq ((σ (13 + rq)).1) rfl ((σ 20).1) rfl hno) om_X5_deal mw_346 mw_347 mw_345 (by decide) rfl rfl rfl (by decide) rfl rfl (Nat.le_of_ble_eq_true rfl) dX9_takeRounds_17 (fun σσ17 hp17 => ?_)
  replace hp17 := Eq.symm hp17; subst hp17
  refine r_aload_n o dX9_takeRounds_20 0 rfl ?_
  refine gf_0_2 o mw_238 dX9_takeRounds_21 ?_
  refine r_iload_n o dX9_takeRounds_24 2 rfl ?_
  refine r_callVV o (As := [.int (nI endq)]) (st := []) (c_X0_gather (xl X) G (sta σ 20 (dealW sn cntq 21 0 (mix ((σ (13 + rq)).1) ((σ 20).1) 0 24))) bf (by rw [hbf]; rfl) ((σ 21).1) rfl ((σ 22).1) rfl endq hend.2) om_X0_gather mw_401 mw_402 mw_400 (by decide) rfl rfl rfl (by decide) rfl rfl (Nat.le_of_ble_eq_true rfl) dX9_takeRounds_25 (fun σσ25 hp25 => ?_)
  replace hp25 := Eq.symm hp25; subst hp25
  refine r_aload_n o dX9_takeRounds_28 0 rfl ?_
  refine gf_0_4 o mw_240 dX9_takeRounds_29 ?_
  refine r_aload_n o dX9_takeRounds_32 0 rfl ?_
  refine gf_0_2 o mw_238 dX9_takeRounds_33 ?_
  refine r_iload_n o dX9_takeRounds_36 3 rfl ?_
  refine r_iload o dX9_takeRounds_37 4 rfl ?_
  refine r_callVV o (As := [.ref (gad G 2), .int (nI f1q), .int (nI t1q)]) (st := []) (c_X8_lay (xl X) G (sta (sta (sti (sta σ 20 (dealW sn cntq 21 0 (mix ((σ (13 + rq)).1) ((σ 20).1) 0 24))) 2 3 (nI (gcnt bf endq))) 21 (gnum bf ((σ 21).1) endq)) 22 (gyr bf ((σ 22).1) endq)) (yeF (dlF σ sn cntq rq) endq) (gcnt (dlF σ sn cntq rq) endq) (by rw [← hgc]; rfl) (by omega) (fun jq hj => ag_yr hbe jq (by rw [hgc]; exact hj)) (fun jq => by have := yeF_lt (df := (dlF σ sn cntq rq)) endq hend.1 jq; omega) f1q t1q hft) om_X8_lay mw_406 mw_407 mw_405 (by decide) rfl rfl rfl (by decide) rfl rfl (Nat.le_of_ble_eq_true rfl) dX9_takeRounds_39 (fun σσ39 hp39 => ?_)
  obtain ⟨hag, hla⟩ := hp39
  exact r_return o q dX9_takeRounds_42 (⟨by rw [hag 2 (by omega), ← hgc]; rfl, fun jq hj => by rw [hag 21 (by omega)]; exact ag_num hbe jq (by rw [hgc]; exact hj), fun jq hj => by rw [hag 22 (by omega)]; exact ag_yr hbe jq (by rw [hgc]; exact hj), fun yq hy => by rw [hag 20 (by omega)]; exact (congrFun (show _ = bf by rw [hbf]; rfl) yq).trans (hbd yq hy), by rw [hag 4 (by omega)]; rfl, by rw [hag 4 (by omega)]; rfl, hla, fun cz hcz => by unfold scr1 at hcz; rw [hag cz (by omega)]; simp (disch := omega) only [sti_ne, sta_ne]⟩)
set_option maxHeartbeats 4000000 in
set_option maxRecDepth 100000 in
theorem c_X9_putShare (l : Launch) (G : Gl) (σ : Sto) (sn : Nat → Nat) (cntq : Nat) (hp : PadO σ sn cntq) (rq : Nat) (hrq : rq < 6) (lq : Nat) (hlq : 2 ≤ lq ∧ lq ≤ 12) (hno : fltF sn cntq 21 0 = none) : CtV l G yX9_putShare cX9_putShare 9 none 6 135 [.ref (gad G 0), .int (nI rq), .int (nI lq)] σ (fun σ' => (σ' 7).2 0 = fU (shU (dlF σ sn cntq rq) 24 lq) (shD (dlF σ sn cntq rq) 24) ∧ (σ' 7).2 1 = fL (shU (dlF σ sn cntq rq) 24 lq) (shD (dlF σ sn cntq rq) 24) ∧ keepC σ σ') := by
  refine CtV.of (by decide +kernel) (Nat.le_of_ble_eq_true rfl) (fun X o q => ?_)
  show WS X G 9 σ 0 [(0, .ref (gad G 0)), (1, .int (nI rq)), (2, .int (nI lq))] []
  have hgl := gcnt_le (dlF σ sn cntq rq) 24
  refine r_aload_n o dX9_putShare_0 0 rfl ?_
  refine r_iload_n o dX9_putShare_1 1 rfl ?_
  refine r_bipush o (v := nI 24) dX9_putShare_2 (by decide) ?_
  refine r_iload_n o dX9_putShare_4 2 rfl ?_
  refine r_iload_n o dX9_putShare_5 2 rfl ?_
  refine r_callVV o (As := [.int (nI rq), .int (nI 24), .int (nI lq), .int (nI lq)]) (st := []) (c_X9_takeRounds (xl X) G σ sn cntq hp rq hrq 24 (by omega) lq lq (by omega) hno) om_X9_takeRounds mw_398 mw_7 mw_396 (by decide) rfl rfl rfl (by decide) rfl rfl (Nat.le_of_ble_eq_true rfl) dX9_putShare_6 (fun σσ6 hp6 => ?_)
  obtain ⟨hk2, hk21, hk22, hk20, hk4a, hk4b, hkla, hkag⟩ := hp6
  refine r_aload_n o dX9_putShare_9 0 rfl ?_
  refine gf_0_2 o mw_238 dX9_putShare_10 ?_
  refine gfN_2_3 o (v := nI (gcnt (dlF σ sn cntq rq) 24)) hk2 mw_95 dX9_putShare_13 ?_
  refine r_i2l o dX9_putShare_16 rfl ?_
  refine r_lstore_n o (lv' := [(3, .long ((nI (gcnt (dlF σ sn cntq rq) 24)).toInt64)), (0, .ref (gad G 0)), (1, .int (nI rq)), (2, .int (nI lq))]) dX9_putShare_17 (by decide) rfl ?_
  refine r_aload_n o dX9_putShare_18 1 rfl ?_
  refine gf_0_2 o mw_238 dX9_putShare_19 ?_
  refine r_callVL o (As := []) (st := []) (c_X0_sum (xl X) G σσ6 (gcnt (dlF σ sn cntq rq) 24) hk2 hgl ((σσ6 21).1) rfl) om_X0_sum mw_416 mw_417 mw_415 (by decide) rfl rfl rfl (by decide) rfl rfl (Nat.le_of_ble_eq_true rfl) dX9_putShare_22 (fun rr22 σσ22 hp22 => ?_)
  obtain ⟨hp22, hp22b⟩ := hp22; replace hp22 := Eq.symm hp22; replace hp22b := Eq.symm hp22b; subst hp22; subst hp22b
  refine r_topl (y := sumL (nuF (dlF σ sn cntq rq) 24) (gcnt (dlF σ sn cntq rq) 24)) (sum_cong hk21) ?_
  refine r_lstore o (lv' := [(5, .long (sumL (nuF (dlF σ sn cntq rq) 24) (gcnt (dlF σ sn cntq rq) 24))), (3, .long ((nI (gcnt (dlF σ sn cntq rq) 24)).toInt64)), (0, .ref (gad G 0)), (1, .int (nI rq)), (2, .int (nI lq))]) dX9_putShare_25 (by decide) rfl ?_
  refine r_lload_n o dX9_putShare_27 1 rfl ?_
  refine r_aload_n o dX9_putShare_28 2 rfl ?_
  refine gf_0_4 o mw_240 dX9_putShare_29 ?_
  refine r_aload_n o dX9_putShare_32 2 rfl ?_
  refine gf_0_2 o mw_238 dX9_putShare_33 ?_
  refine gfN_2_1 o mw_87 dX9_putShare_36 ?_
  refine r_callVL o (As := [.ref (gad G 21)]) (st := [.long ((nI (gcnt (dlF σ sn cntq rq) 24)).toInt64)]) (c_X8_greatest (xl X) G σσ6 (yeF (dlF σ sn cntq rq) 24) (gcnt (dlF σ sn cntq rq) 24) lq lq (by omega) hk4a hk4b hkla ((σσ6 21).1) rfl) om_X8_greatest mw_420 mw_421 mw_419 (by decide) rfl rfl rfl (by decide) rfl rfl (Nat.le_of_ble_eq_true rfl) dX9_putShare_39 (fun rr39 σσ39 hp39 => ?_)
  obtain ⟨hp39, hp39b⟩ := hp39; replace hp39 := Eq.symm hp39; replace hp39b := Eq.symm hp39b; subst hp39; subst hp39b
  refine r_topl (y := wgt (yeF (dlF σ sn cntq rq) 24) (gcnt (dlF σ sn cntq rq) 24) lq (nuF (dlF σ sn cntq rq) 24)) (by rw [fgS_one]; exact wg_cong hk21) ?_
  refine r_lmul o dX9_putShare_42 ?_
  refine r_ldc2_w o mw_432 dX9_putShare_43 ?_
  refine r_lload o dX9_putShare_46 0 rfl ?_
  refine r_lmul o dX9_putShare_48 ?_
  refine r_lload o dX9_putShare_49 0 rfl ?_
  refine r_lmul o dX9_putShare_51 ?_
  refine r_lsub o dX9_putShare_52 ?_
  refine r_lstore o (lv' := [(7, .long ((((nI (gcnt (dlF σ sn cntq rq) 24)).toInt64) * (wgt (yeF (dlF σ sn cntq rq) 24) (gcnt (dlF σ sn cntq rq) 24) lq (nuF (dlF σ sn cntq rq) 24))) - ((27720 * (sumL (nuF (dlF σ sn cntq rq) 24) (gcnt (dlF σ sn cntq rq) 24))) * (sumL (nuF (dlF σ sn cntq rq) 24) (gcnt (dlF σ sn cntq rq) 24))))), (5, .long (sumL (nuF (dlF σ sn cntq rq) 24) (gcnt (dlF σ sn cntq rq) 24))), (3, .long ((nI (gcnt (dlF σ sn cntq rq) 24)).toInt64)), (0, .ref (gad G 0)), (1, .int (nI rq)), (2, .int (nI lq))]) dX9_putShare_53 (by decide) rfl ?_
  refine r_aload_n o dX9_putShare_55 3 rfl ?_
  refine gf_0_7 o mw_243 dX9_putShare_56 ?_
  refine r_lload o dX9_putShare_59 0 rfl ?_
  refine r_ldc2_w o mw_432 dX9_putShare_61 ?_
  refine r_lload_n o dX9_putShare_64 2 rfl ?_
  refine r_aload_n o dX9_putShare_65 3 rfl ?_
  refine gf_0_2 o mw_238 dX9_putShare_66 ?_
  refine r_callVL o (As := []) (st := [.long ((nI (gcnt (dlF σ sn cntq rq) 24)).toInt64), .long 27720, .long ((((nI (gcnt (dlF σ sn cntq rq) 24)).toInt64) * (wgt (yeF (dlF σ sn cntq rq) 24) (gcnt (dlF σ sn cntq rq) 24) lq (nuF (dlF σ sn cntq rq) 24))) - ((27720 * (sumL (nuF (dlF σ sn cntq rq) 24) (gcnt (dlF σ sn cntq rq) 24))) * (sumL (nuF (dlF σ sn cntq rq) 24) (gcnt (dlF σ sn cntq rq) 24)))), .ref (gad G 7)]) (c_X0_squares (xl X) G σσ6 (gcnt (dlF σ sn cntq rq) 24) hk2 hgl ((σσ6 21).1) rfl) om_X0_squares mw_434 mw_435 mw_433 (by decide) rfl rfl rfl (by decide) rfl rfl (Nat.le_of_ble_eq_true rfl) dX9_putShare_69 (fun rr69 σσ69 hp69 => ?_)
  obtain ⟨hp69, hp69b⟩ := hp69; replace hp69 := Eq.symm hp69; replace hp69b := Eq.symm hp69b; subst hp69; subst hp69b
  refine r_topl (y := sqL (nuF (dlF σ sn cntq rq) 24) (gcnt (dlF σ sn cntq rq) 24)) (sq_cong hk21) ?_
  refine r_lmul o dX9_putShare_72 ?_
  refine r_lload o dX9_putShare_73 1 rfl ?_
  refine r_lload o dX9_putShare_75 1 rfl ?_
  refine r_lmul o dX9_putShare_77 ?_
  refine r_lsub o dX9_putShare_78 ?_
  refine r_lmul o dX9_putShare_79 ?_
  refine r_callVV o (As := [.long ((((nI (gcnt (dlF σ sn cntq rq) 24)).toInt64) * (wgt (yeF (dlF σ sn cntq rq) 24) (gcnt (dlF σ sn cntq rq) 24) lq (nuF (dlF σ sn cntq rq) 24))) - ((27720 * (sumL (nuF (dlF σ sn cntq rq) 24) (gcnt (dlF σ sn cntq rq) 24))) * (sumL (nuF (dlF σ sn cntq rq) 24) (gcnt (dlF σ sn cntq rq) 24)))), .long (27720 * ((((nI (gcnt (dlF σ sn cntq rq) 24)).toInt64) * (sqL (nuF (dlF σ sn cntq rq) 24) (gcnt (dlF σ sn cntq rq) 24))) - ((sumL (nuF (dlF σ sn cntq rq) 24) (gcnt (dlF σ sn cntq rq) 24)) * (sumL (nuF (dlF σ sn cntq rq) 24) (gcnt (dlF σ sn cntq rq) 24)))))]) (st := []) (c_X2_put_7 (xl X) G σσ6 ((((nI (gcnt (dlF σ sn cntq rq) 24)).toInt64) * (wgt (yeF (dlF σ sn cntq rq) 24) (gcnt (dlF σ sn cntq rq) 24) lq (nuF (dlF σ sn cntq rq) 24))) - ((27720 * (sumL (nuF (dlF σ sn cntq rq) 24) (gcnt (dlF σ sn cntq rq) 24))) * (sumL (nuF (dlF σ sn cntq rq) 24) (gcnt (dlF σ sn cntq rq) 24)))) (27720 * ((((nI (gcnt (dlF σ sn cntq rq) 24)).toInt64) * (sqL (nuF (dlF σ sn cntq rq) 24) (gcnt (dlF σ sn cntq rq) 24))) - ((sumL (nuF (dlF σ sn cntq rq) 24) (gcnt (dlF σ sn cntq rq) 24)) * (sumL (nuF (dlF σ sn cntq rq) 24) (gcnt (dlF σ sn cntq rq) 24)))))) om_X2_put mw_438 mw_439 mw_437 (by decide) rfl rfl rfl (by decide) rfl rfl (Nat.le_of_ble_eq_true rfl) dX9_putShare_80 (fun σσ80 hp80 => ?_)
  replace hp80 := Eq.symm hp80; subst hp80
  exact r_return o q dX9_putShare_83 (⟨rfl, rfl, fun cz hcz => by unfold scrC at hcz; rw [stl_ne (by omega), stl_ne (by omega)]; exact hkag cz (by unfold scr1; omega)⟩)
set_option maxHeartbeats 4000000 in
set_option maxRecDepth 100000 in
theorem c_X9_lookLater (l : Launch) (G : Gl) (σ : Sto) (sn : Nat → Nat) (cntq : Nat) (hp : PadO σ sn cntq) (rq : Nat) (hrq : rq < 6) (y0q : Nat) (hy0 : 4 ≤ y0q ∧ y0q ≤ 22) (hno : fltF sn cntq 21 0 = none) : CtV l G yX9_lookLater cX9_lookLater 3 none 6 135 [.ref (gad G 0), .int (nI rq), .int (nI y0q)] σ (fun σ' => (σ' 6).1 0 = nI (fgS (yeF (dlF σ sn cntq rq) y0q) (gcnt (dlF σ sn cntq rq) y0q) (nuF (dlF σ sn cntq rq) y0q) 2 11).1 ∧ (σ' 6).1 1 = nI (lkS (yeF (dlF σ sn cntq rq) y0q) (gcnt (dlF σ sn cntq rq) y0q) (fgS (yeF (dlF σ sn cntq rq) y0q) (gcnt (dlF σ sn cntq rq) y0q) (nuF (dlF σ sn cntq rq) y0q) 2 11).1 (nuF (dlF σ sn cntq rq) y0q) (dlF σ sn cntq rq) y0q (24 - y0q)).1 ∧ (σ' 6).1 2 = nI (lkS (yeF (dlF σ sn cntq rq) y0q) (gcnt (dlF σ sn cntq rq) y0q) (fgS (yeF (dlF σ sn cntq rq) y0q) (gcnt (dlF σ sn cntq rq) y0q) (nuF (dlF σ sn cntq rq) y0q) 2 11).1 (nuF (dlF σ sn cntq rq) y0q) (dlF σ sn cntq rq) y0q (24 - y0q)).2 ∧ keepC σ σ') := by
  refine CtV.of (by decide +kernel) (Nat.le_of_ble_eq_true rfl) (fun X o q => ?_)
  show WS X G 3 σ 0 [(0, .ref (gad G 0)), (1, .int (nI rq)), (2, .int (nI y0q))] []
  have hgl := gcnt_le (dlF σ sn cntq rq) y0q
  have hfr := fgS_in (yrq := (yeF (dlF σ sn cntq rq) y0q)) (nq := (gcnt (dlF σ sn cntq rq) y0q)) (f1q := 2) (xf := (nuF (dlF σ sn cntq rq) y0q)) 11
  refine r_aload_n o dX9_lookLater_0 0 rfl ?_
  refine r_iload_n o dX9_lookLater_1 1 rfl ?_
  refine r_iload_n o dX9_lookLater_2 2 rfl ?_
  refine r_iconst o (v := nI 2) dX9_lookLater_3 (by decide) ?_
  refine r_bipush o (v := nI 12) dX9_lookLater_4 (by decide) ?_
  refine r_callVV o (As := [.int (nI rq), .int (nI y0q), .int (nI 2), .int (nI 12)]) (st := []) (c_X9_takeRounds (xl X) G σ sn cntq hp rq hrq y0q (by omega) 2 12 (by omega) hno) om_X9_takeRounds mw_398 mw_7 mw_396 (by decide) rfl rfl rfl (by decide) rfl rfl (Nat.le_of_ble_eq_true rfl) dX9_lookLater_6 (fun σσ6 hp6 => ?_)
  obtain ⟨hk2, hk21, hk22, hk20, hk4a, hk4b, hkla, hkag⟩ := hp6
  refine r_aload_n o dX9_lookLater_9 0 rfl ?_
  refine gf_0_6 o mw_242 dX9_lookLater_10 ?_
  refine r_aload_n o dX9_lookLater_13 0 rfl ?_
  refine gf_0_2 o mw_238 dX9_lookLater_14 ?_
  refine r_iload_n o dX9_lookLater_17 2 rfl ?_
  refine r_aload_n o dX9_lookLater_18 0 rfl ?_
  refine gf_0_4 o mw_240 dX9_lookLater_19 ?_
  refine r_aload_n o dX9_lookLater_22 0 rfl ?_
  refine gf_0_2 o mw_238 dX9_lookLater_23 ?_
  refine gfN_2_1 o mw_87 dX9_lookLater_26 ?_
  refine r_callVI o (As := [.ref (gad G 21)]) (st := [.int (nI y0q), .ref (gad G 2), .ref (gad G 6)]) (c_X8_firstGreatest (xl X) G σσ6 (yeF (dlF σ sn cntq rq) y0q) (gcnt (dlF σ sn cntq rq) y0q) 2 12 (by omega) hk4a hk4b hkla ((σσ6 21).1) rfl) om_X8_firstGreatest mw_424 mw_425 mw_545 (by decide) rfl rfl rfl (by decide) rfl rfl (Nat.le_of_ble_eq_true rfl) dX9_lookLater_29 (fun rr29 σσ29 hp29 => ?_)
  obtain ⟨hp29, hp29b⟩ := hp29; replace hp29 := Eq.symm hp29; replace hp29b := Eq.symm hp29b; subst hp29; subst hp29b
  refine r_topi (y := nI ((fgS (yeF (dlF σ sn cntq rq) y0q) (gcnt (dlF σ sn cntq rq) y0q) (nuF (dlF σ sn cntq rq) y0q) 2 11).1)) (congrArg nI (congrArg Prod.fst (fg_cong hk21 11))) ?_
  refine r_callVV o (As := [.ref (gad G 2), .int (nI y0q), .int (nI ((fgS (yeF (dlF σ sn cntq rq) y0q) (gcnt (dlF σ sn cntq rq) y0q) (nuF (dlF σ sn cntq rq) y0q) 2 11).1))]) (st := []) (c_X3_look (xl X) G σσ6 (yeF (dlF σ sn cntq rq) y0q) (gcnt (dlF σ sn cntq rq) y0q) hk2 (by omega) hk22 (fun jq => by have := yeF_lt (df := (dlF σ sn cntq rq)) y0q (by omega) jq; omega) ((fgS (yeF (dlF σ sn cntq rq) y0q) (gcnt (dlF σ sn cntq rq) y0q) (nuF (dlF σ sn cntq rq) y0q) 2 11).1) (by omega) ((σσ6 21).1) rfl ((σσ6 20).1) rfl y0q (by omega)) om_X3_look mw_547 mw_548 mw_546 (by decide) rfl rfl rfl (by decide) rfl rfl (Nat.le_of_ble_eq_true rfl) dX9_lookLater_32 (fun σσ32 hp32 => ?_)
  replace hp32 := Eq.symm hp32; subst hp32
  exact r_return o q dX9_lookLater_35 (⟨rfl, by rw [← lk_cong hk21 (fun yq hy => hk20 yq hy) (by omega)]; rfl, by rw [← lk_cong hk21 (fun yq hy => hk20 yq hy) (by omega)]; rfl, fun cz hcz => by unfold scrC at hcz; simp (disch := omega) only [sti_ne]; exact hkag cz (by unfold scr1; omega)⟩)
set_option maxHeartbeats 4000000 in
set_option maxRecDepth 100000 in
theorem c_X9_fault (l : Launch) (G : Gl) (σ : Sto) (sn : Nat → Nat) (cntq : Nat) (hp : PadO σ sn cntq) : CtI l G yX9_fault cX9_fault 1 (some .int) 5 112 [.ref (gad G 0)] σ (fun r σ' => r = fltI sn cntq ∧ σ' = σ) := by
  refine CtI.of (by decide +kernel) (Nat.le_of_ble_eq_true rfl) (fun X o q => ?_)
  show WS X G 1 σ 0 [(0, .ref (gad G 0))] []
  obtain ⟨hcq, hcnt, hsg, hsn⟩ := id hp
  refine r_aload_n o dX9_fault_0 0 rfl ?_
  refine gf_0_1 o mw_237 dX9_fault_1 ?_
  refine r_callVI o (As := []) (st := []) (c_X5_firstFault (xl X) G σ sn cntq hp) om_X5_firstFault mw_314 mw_315 mw_313 (by decide) rfl rfl rfl (by decide) rfl rfl (Nat.le_of_ble_eq_true rfl) dX9_fault_4 (fun rr4 σσ4 hp4 => ?_)
  obtain ⟨hp4, hp4b⟩ := hp4; replace hp4 := Eq.symm hp4; replace hp4b := Eq.symm hp4b; subst hp4; subst hp4b
  exact r_ireturn o q dX9_fault_7 (⟨rfl, rfl⟩)
set_option maxHeartbeats 4000000 in
set_option maxRecDepth 100000 in
theorem c_X9_wipe (l : Launch) (G : Gl) (σ : Sto) (sn : Nat → Nat) (cntq : Nat) (hp : PadO σ sn cntq) : CtI l G yX9_wipe cX9_wipe 2 (some .int) 1 20 [.ref (gad G 0)] σ (fun r σ' => r = nI cntq ∧ σ' = sti σ 1 1 (nI 0)) := by
  refine CtI.of (by decide +kernel) (Nat.le_of_ble_eq_true rfl) (fun X o q => ?_)
  show WS X G 2 σ 0 [(0, .ref (gad G 0))] []
  obtain ⟨hcq, hcnt, hsg, hsn⟩ := id hp
  refine r_aload_n o dX9_wipe_0 0 rfl ?_
  refine gf_0_1 o mw_237 dX9_wipe_1 ?_
  refine gfN_1_1 o (v := nI cntq) hcq mw_68 dX9_wipe_4 ?_
  refine r_istore_n o (lv' := [(1, .int (nI cntq)), (0, .ref (gad G 0))]) dX9_wipe_7 (by decide) rfl ?_
  refine r_aload_n o dX9_wipe_8 1 rfl ?_
  refine gf_0_1 o mw_237 dX9_wipe_9 ?_
  refine r_callVV o (As := []) (st := []) (c_X5_clear (xl X) G σ ) om_X5_clear mw_306 mw_307 mw_305 (by decide) rfl rfl rfl (by decide) rfl rfl (Nat.le_of_ble_eq_true rfl) dX9_wipe_12 (fun σσ12 hp12 => ?_)
  replace hp12 := Eq.symm hp12; subst hp12
  refine r_iload_n o dX9_wipe_15 0 rfl ?_
  exact r_ireturn o q dX9_wipe_16 (⟨rfl, rfl⟩)
set_option maxHeartbeats 4000000 in
set_option maxRecDepth 100000 in
theorem c_X9_say (l : Launch) (G : Gl) (σ : Sto) (sn : Nat → Nat) (cntq : Nat) (hp : PadO σ sn cntq) (vz : Int32) : CtI l G yX9_say cX9_say 2 (some .int) 2 41 [.ref (gad G 0), .int vz] σ (fun r σ' => if inB (nI 33) (nI 126) vz = false then r = -2 ∧ σ' = σ else if 20 ≤ cntq then r = -4 ∧ σ' = σ else r = nI (cntq + 1) ∧ σ' = sti (sti σ 19 cntq vz) 1 1 (nI (cntq + 1))) := by
  refine CtI.of (by decide +kernel) (Nat.le_of_ble_eq_true rfl) (fun X o q => ?_)
  show WS X G 2 σ 0 [(0, .ref (gad G 0)), (1, .int vz)] []
  obtain ⟨hcq, hcnt, hsg, hsn⟩ := id hp
  refine r_iload_n o dX9_say_0 1 rfl ?_
  refine r_bipush o (v := nI 33) dX9_say_1 (by decide) ?_
  refine r_bipush o (v := nI 126) dX9_say_3 (by decide) ?_
  refine r_callSI o (As := [.int vz, .int (nI 33), .int (nI 126)]) (st := []) (c_X9_isWithin (xl X) G σ vz (nI 33) (nI 126)) om_X9_isWithin mw_278 mw_277 (by decide) rfl rfl (Nat.le_of_ble_eq_true rfl) dX9_say_5 (fun rr5 σσ5 hp5 => ?_)
  obtain ⟨hp5, hp5b⟩ := hp5; replace hp5 := Eq.symm hp5; replace hp5b := Eq.symm hp5b; subst hp5; subst hp5b
  refine r_if_ne o (tgt := 14) dX9_say_8 (by decide) (fun hb8 => ?_) (fun hb8 => ?_)
  · skip
    rw [b01_ne0] at hb8
    obtain ⟨kq, hkv, hkl⟩ := inB_lo (aq := 33) (by decide) (by decide) hb8
    refine r_aload_n o dX9_say_14 0 rfl ?_
    refine gf_0_1 o mw_237 dX9_say_15 ?_
    refine r_callVI o (As := []) (st := []) (c_X5_isFull (xl X) G σ sn cntq hp) om_X5_isFull mw_293 mw_294 mw_292 (by decide) rfl rfl rfl (by decide) rfl rfl (Nat.le_of_ble_eq_true rfl) dX9_say_18 (fun rr18 σσ18 hp18 => ?_)
    obtain ⟨hp18, hp18b⟩ := hp18; replace hp18 := Eq.symm hp18; replace hp18b := Eq.symm hp18b; subst hp18; subst hp18b
    refine r_if_eq o (tgt := 27) dX9_say_21 (by decide) (fun hb21 => ?_) (fun hb21 => ?_)
    · skip
      rw [b01_eq0] at hb21
      have hb21 := of_decide_eq_false hb21
      refine r_aload_n o dX9_say_27 0 rfl ?_
      refine gf_0_1 o mw_237 dX9_say_28 ?_
      refine r_lv (lv' := [(0, .ref (gad G 0)), (1, .int (nI kq))]) (congrArg (fun zz => ([(0, .ref (gad G 0)), (1, .int zz)] : List (Nat × Value))) (hkv)) ?_
      refine r_iload_n o dX9_say_31 1 rfl ?_
      refine r_callVV o (As := [.int (nI kq)]) (st := []) (c_X5_add (xl X) G σ sn cntq hp kq (by omega)) om_X5_add mw_297 mw_298 mw_296 (by decide) rfl rfl rfl (by decide) rfl rfl (Nat.le_of_ble_eq_true rfl) dX9_say_32 (fun σσ32 hp32 => ?_)
      replace hp32 := Eq.symm hp32; subst hp32
      refine r_aload_n o dX9_say_35 0 rfl ?_
      refine gf_0_1 o mw_237 dX9_say_36 ?_
      refine gfN_1_1 (σ := sti (sti σ 19 cntq (nI kq)) 1 1 (nI (cntq + 1))) o (v := nI (cntq + 1)) rfl mw_68 dX9_say_39 ?_
      exact r_ireturn o q dX9_say_42 (by rw [if_neg (by rw [hb8]; decide), if_neg hb21, hkv]; exact ⟨rfl, rfl⟩)
    · skip
      rw [b01_ne0] at hb21
      have hb21 := of_decide_eq_true hb21
      refine r_bipush o (v := (-4)) dX9_say_24 (by decide) ?_
      exact r_ireturn o q dX9_say_26 (by rw [if_neg (by rw [hb8]; decide), if_pos hb21]; exact ⟨rfl, rfl⟩)
  · skip
    rw [b01_eq0] at hb8
    refine r_bipush o (v := (-2)) dX9_say_11 (by decide) ?_
    exact r_ireturn o q dX9_say_13 (by rw [if_pos hb8]; exact ⟨rfl, rfl⟩)
set_option maxHeartbeats 4000000 in
set_option maxRecDepth 100000 in
theorem c_X9_year (l : Launch) (G : Gl) (σ : Sto) (rz : Int32) (yz : Int32) (vz : Int32) : CtI l G yX9_year cX9_year 5 (some .int) 2 42 [.ref (gad G 0), .int rz, .int yz, .int vz] σ (fun r σ' => if inB (nI 0) (nI 5) rz = false then r = -1000001 ∧ σ' = σ else if (inB (nI 0) (nI 23) yz && nonB vz) = false then r = -1000002 ∧ σ' = σ else r = (σ (13 + rz.toNatClampNeg)).1 yz.toNatClampNeg ∧ σ' = sti σ (13 + rz.toNatClampNeg) yz.toNatClampNeg vz) := by
  refine CtI.of (by decide +kernel) (Nat.le_of_ble_eq_true rfl) (fun X o q => ?_)
  show WS X G 5 σ 0 [(0, .ref (gad G 0)), (1, .int rz), (2, .int yz), (3, .int vz)] []
  refine r_iload_n o dX9_year_0 1 rfl ?_
  refine r_callSI o (As := [.int rz]) (st := []) (c_X9_isRow (xl X) G σ rz) om_X9_isRow mw_275 mw_274 (by decide) rfl rfl (Nat.le_of_ble_eq_true rfl) dX9_year_1 (fun rr1 σσ1 hp1 => ?_)
  obtain ⟨hp1, hp1b⟩ := hp1; replace hp1 := Eq.symm hp1; replace hp1b := Eq.symm hp1b; subst hp1; subst hp1b
  refine r_if_ne o (tgt := 10) dX9_year_4 (by decide) (fun hb4 => ?_) (fun hb4 => ?_)
  · skip
    rw [b01_ne0] at hb4
    have hk1 := hb4
    obtain ⟨hr1, hr2⟩ := inB_nI (n := 5) (by decide) hk1
    refine r_iload_n o dX9_year_10 2 rfl ?_
    refine r_callSI o (As := [.int yz]) (st := []) (c_X9_isYear (xl X) G σ yz) om_X9_isYear mw_282 mw_281 (by decide) rfl rfl (Nat.le_of_ble_eq_true rfl) dX9_year_11 (fun rr11 σσ11 hp11 => ?_)
    obtain ⟨hp11, hp11b⟩ := hp11; replace hp11 := Eq.symm hp11; replace hp11b := Eq.symm hp11b; subst hp11; subst hp11b
    refine r_if_eq o (tgt := 24) dX9_year_14 (by decide) (fun hb14 => ?_) (fun hb14 => ?_)
    · skip
      rw [b01_eq0] at hb14
      refine r_ldc o mw_287 dX9_year_24 ?_
      exact r_ireturn o q dX9_year_26 (by rw [if_neg (by rw [hb4]; decide), if_pos (by first | (rw [hb14]; rfl) | (rw [hb21, Bool.and_false]))]; exact ⟨rfl, rfl⟩)
    · skip
      rw [b01_ne0] at hb14
      obtain ⟨hy1, hy2⟩ := inB_nI (n := 23) (by decide) hb14
      refine r_iload_n o dX9_year_17 3 rfl ?_
      refine r_callSI o (As := [.int vz]) (st := []) (c_X9_isNumberOrNone (xl X) G σ vz) om_X9_isNumberOrNone mw_285 mw_284 (by decide) rfl rfl (Nat.le_of_ble_eq_true rfl) dX9_year_18 (fun rr18 σσ18 hp18 => ?_)
      obtain ⟨hp18, hp18b⟩ := hp18; replace hp18 := Eq.symm hp18; replace hp18b := Eq.symm hp18b; subst hp18; subst hp18b
      refine r_if_ne o (tgt := 27) dX9_year_21 (by decide) (fun hb21 => ?_) (fun hb21 => ?_)
      · skip
        rw [b01_ne0] at hb21
        refine r_aload_n o dX9_year_27 0 rfl ?_
        refine gf_0_0 o mw_236 dX9_year_28 ?_
        refine r_iload_n o dX9_year_31 1 rfl ?_
        refine r_rows o rz.toNatClampNeg hr1 (by omega) dX9_year_32 ?_
        refine r_iload_n o dX9_year_33 2 rfl ?_
        refine r_ia o (by omega) (ceY (by omega)) (f := (σ (13 + rz.toNatClampNeg)).1) rfl yz.toNatClampNeg hy1 (by omega) (by decide) dX9_year_34 ?_
        refine r_istore o (lv' := [(4, .int (((σ (13 + rz.toNatClampNeg)).1) yz.toNatClampNeg)), (0, .ref (gad G 0)), (1, .int rz), (2, .int yz), (3, .int vz)]) dX9_year_35 (by decide) rfl ?_
        refine r_aload_n o dX9_year_37 1 rfl ?_
        refine gf_0_0 o mw_236 dX9_year_38 ?_
        refine r_iload_n o dX9_year_41 2 rfl ?_
        refine r_rows o rz.toNatClampNeg hr1 (by omega) dX9_year_42 ?_
        refine r_iload_n o dX9_year_43 3 rfl ?_
        refine r_iload_n o dX9_year_44 4 rfl ?_
        refine r_iast o (by omega) (ceY (by omega)) yz.toNatClampNeg hy1 (by omega) (by decide) dX9_year_45 ?_
        refine r_iload o dX9_year_46 0 rfl ?_
        exact r_ireturn o q dX9_year_48 (by rw [if_neg (by rw [hb4]; decide), if_neg (by rw [hb14, hb21]; decide)]; exact ⟨rfl, rfl⟩)
      · skip
        rw [b01_eq0] at hb21
        refine r_ldc o mw_287 dX9_year_24 ?_
        exact r_ireturn o q dX9_year_26 (by rw [if_neg (by rw [hb4]; decide), if_pos (by first | (rw [hb14]; rfl) | (rw [hb21, Bool.and_false]))]; exact ⟨rfl, rfl⟩)
  · skip
    rw [b01_eq0] at hb4
    refine r_ldc o mw_280 dX9_year_7 ?_
    exact r_ireturn o q dX9_year_9 (by rw [if_pos hb4]; exact ⟨rfl, rfl⟩)
set_option maxHeartbeats 4000000 in
set_option maxRecDepth 100000 in
theorem c_X9_dealt (l : Launch) (G : Gl) (σ : Sto) (sn : Nat → Nat) (cntq : Nat) (hp : PadO σ sn cntq) (rz : Int32) (yz : Int32) : CtI l G yX9_dealt cX9_dealt 4 (some .int) 6 134 [.ref (gad G 0), .int rz, .int yz] σ (fun r σ' => r = (if refI (inB (nI 0) (nI 5) rz) (inB (nI 0) (nI 23) yz) (fltF sn cntq 21 0) = 0 then (dlF σ sn cntq rz.toNatClampNeg) yz.toNatClampNeg else -1000000 + refI (inB (nI 0) (nI 5) rz) (inB (nI 0) (nI 23) yz) (fltF sn cntq 21 0)) ∧ keepC σ σ') := by
  refine CtI.of (by decide +kernel) (Nat.le_of_ble_eq_true rfl) (fun X o q => ?_)
  show WS X G 4 σ 0 [(0, .ref (gad G 0)), (1, .int rz), (2, .int yz)] []
  obtain ⟨hcq, hcnt, hsg, hsn⟩ := id hp
  refine r_aload_n o dX9_dealt_0 0 rfl ?_
  refine r_iload_n o dX9_dealt_1 1 rfl ?_
  refine r_callSI o (As := [.int rz]) (st := [.ref (gad G 0)]) (c_X9_isRow (xl X) G σ rz) om_X9_isRow mw_275 mw_274 (by decide) rfl rfl (Nat.le_of_ble_eq_true rfl) dX9_dealt_2 (fun rr2 σσ2 hp2 => ?_)
  obtain ⟨hp2, hp2b⟩ := hp2; replace hp2 := Eq.symm hp2; replace hp2b := Eq.symm hp2b; subst hp2; subst hp2b
  refine r_iload_n o dX9_dealt_5 2 rfl ?_
  refine r_callSI o (As := [.int yz]) (st := [.int (b01 (inB (nI 0) (nI 5) rz)), .ref (gad G 0)]) (c_X9_isYear (xl X) G σ yz) om_X9_isYear mw_282 mw_281 (by decide) rfl rfl (Nat.le_of_ble_eq_true rfl) dX9_dealt_6 (fun rr6 σσ6 hp6 => ?_)
  obtain ⟨hp6, hp6b⟩ := hp6; replace hp6 := Eq.symm hp6; replace hp6b := Eq.symm hp6b; subst hp6; subst hp6b
  refine r_callVI o (As := [.int (b01 (inB (nI 0) (nI 5) rz)), .int (b01 (inB (nI 0) (nI 23) yz))]) (st := []) (c_X9_refusalOf (xl X) G σ sn cntq hp (inB (nI 0) (nI 5) rz) (inB (nI 0) (nI 23) yz)) om_X9_refusalOf mw_343 mw_4 mw_341 (by decide) rfl rfl rfl (by decide) rfl rfl (Nat.le_of_ble_eq_true rfl) dX9_dealt_9 (fun rr9 σσ9 hp9 => ?_)
  obtain ⟨hp9, hp9b⟩ := hp9; replace hp9 := Eq.symm hp9; replace hp9b := Eq.symm hp9b; subst hp9; subst hp9b
  refine r_istore_n o (lv' := [(3, .int (refI (inB (nI 0) (nI 5) rz) (inB (nI 0) (nI 23) yz) (fltF sn cntq 21 0))), (0, .ref (gad G 0)), (1, .int rz), (2, .int yz)]) dX9_dealt_12 (by decide) rfl ?_
  refine r_iload_n o dX9_dealt_13 0 rfl ?_
  refine r_if_eq o (tgt := 22) dX9_dealt_14 (by decide) (fun hb14 => ?_) (fun hb14 => ?_)
  · skip
    obtain ⟨hk1, hk2, hno⟩ := refI_z hb14
    obtain ⟨hr1, hr2⟩ := inB_nI (n := 5) (by decide) hk1
    obtain ⟨hy1, hy2⟩ := inB_nI (n := 23) (by decide) hk2
    refine r_aload_n o dX9_dealt_22 1 rfl ?_
    refine gf_0_1 o mw_237 dX9_dealt_23 ?_
    refine r_aload_n o dX9_dealt_26 1 rfl ?_
    refine gf_0_0 o mw_236 dX9_dealt_27 ?_
    refine r_iload_n o dX9_dealt_30 2 rfl ?_
    refine r_rows o rz.toNatClampNeg hr1 (by omega) dX9_dealt_31 ?_
    refine r_aload_n o dX9_dealt_32 1 rfl ?_
    refine gf_0_2 o mw_238 dX9_dealt_33 ?_
    refine gfN_2_0 o mw_83 dX9_dealt_36 ?_
    refine r_callVV o (As := [.ref (gad G (13 + rz.toNatClampNeg)), .ref (gad G 20)]) (st := []) (c_X5_deal_20 (xl X) G σ sn cntq hp rz.toNatClampNeg (by omega) ((σ (13 + rz.toNatClampNeg)).1) rfl ((σ 20).1) rfl hno) om_X5_deal mw_346 mw_347 mw_345 (by decide) rfl rfl rfl (by decide) rfl rfl (Nat.le_of_ble_eq_true rfl) dX9_dealt_39 (fun σσ39 hp39 => ?_)
    replace hp39 := Eq.symm hp39; subst hp39
    refine r_aload_n o dX9_dealt_42 1 rfl ?_
    refine gf_0_2 o mw_238 dX9_dealt_43 ?_
    refine gfN_2_0 o mw_83 dX9_dealt_46 ?_
    refine r_iload_n o dX9_dealt_49 3 rfl ?_
    refine r_ia (σ := sta σ 20 (dealW sn cntq 21 0 (mix ((σ (13 + rz.toNatClampNeg)).1) ((σ 20).1) 0 24))) o (by decide) ia_20 (f := dealW sn cntq 21 0 (mix ((σ (13 + rz.toNatClampNeg)).1) ((σ 20).1) 0 24)) rfl yz.toNatClampNeg hy1 (by omega) (by decide) dX9_dealt_50 ?_
    exact r_ireturn o q dX9_dealt_51 (⟨by rw [if_pos hb14]; exact ag_deal 21 0 (fun yq hy => mix_in (Nat.zero_le _) hy) _ (by omega), fun cz hcz => by unfold scrC at hcz; exact sta_ne (by omega)⟩)
  · skip
    refine r_ldc o mw_235 dX9_dealt_17 ?_
    refine r_iload_n o dX9_dealt_19 0 rfl ?_
    refine r_iadd o dX9_dealt_20 ?_
    exact r_ireturn o q dX9_dealt_21 (⟨by rw [if_neg hb14], fun _ _ => rfl⟩)
set_option maxHeartbeats 4000000 in
set_option maxRecDepth 100000 in
theorem c_X9_share (l : Launch) (G : Gl) (σ : Sto) (sn : Nat → Nat) (cntq : Nat) (hp : PadO σ sn cntq) (rz : Int32) (lz : Int32) (pz : Int32) : CtL l G yX9_share cX9_share 5 (some .long) 7 163 [.ref (gad G 0), .int rz, .int lz, .int pz] σ (fun r σ' => r = (if refI (inB (nI 0) (nI 5) rz) (inB (nI 2) (nI 12) lz && inB (nI 0) (nI 1) pz) (fltF sn cntq 21 0) = 0 then (if pz = 0 then fU (shU (dlF σ sn cntq rz.toNatClampNeg) 24 lz.toNatClampNeg) (shD (dlF σ sn cntq rz.toNatClampNeg) 24) else fL (shU (dlF σ sn cntq rz.toNatClampNeg) 24 lz.toNatClampNeg) (shD (dlF σ sn cntq rz.toNatClampNeg) 24)) else LOSTq + (refI (inB (nI 0) (nI 5) rz) (inB (nI 2) (nI 12) lz && inB (nI 0) (nI 1) pz) (fltF sn cntq 21 0)).toInt64) ∧ keepC σ σ') := by
  refine CtL.of (by decide +kernel) (Nat.le_of_ble_eq_true rfl) (fun X o q => ?_)
  show WS X G 5 σ 0 [(0, .ref (gad G 0)), (1, .int rz), (2, .int lz), (3, .int pz)] []
  obtain ⟨hcq, hcnt, hsg, hsn⟩ := id hp
  refine r_aload_n o dX9_share_0 0 rfl ?_
  refine r_iload_n o dX9_share_1 1 rfl ?_
  refine r_callSI o (As := [.int rz]) (st := [.ref (gad G 0)]) (c_X9_isRow (xl X) G σ rz) om_X9_isRow mw_275 mw_274 (by decide) rfl rfl (Nat.le_of_ble_eq_true rfl) dX9_share_2 (fun rr2 σσ2 hp2 => ?_)
  obtain ⟨hp2, hp2b⟩ := hp2; replace hp2 := Eq.symm hp2; replace hp2b := Eq.symm hp2b; subst hp2; subst hp2b
  refine r_iload_n o dX9_share_5 2 rfl ?_
  refine r_callSI o (As := [.int lz]) (st := [.int (b01 (inB (nI 0) (nI 5) rz)), .ref (gad G 0)]) (c_X9_isLength (xl X) G σ lz) om_X9_isLength mw_386 mw_385 (by decide) rfl rfl (Nat.le_of_ble_eq_true rfl) dX9_share_6 (fun rr6 σσ6 hp6 => ?_)
  obtain ⟨hp6, hp6b⟩ := hp6; replace hp6 := Eq.symm hp6; replace hp6b := Eq.symm hp6b; subst hp6; subst hp6b
  refine r_if_eq o (tgt := 23) dX9_share_9 (by decide) (fun hb9 => ?_) (fun hb9 => ?_)
  · skip
    rw [b01_eq0] at hb9
    refine r_iconst o (v := nI 0) dX9_share_23 (by decide) ?_
    refine r_topi (y := b01 (inB (nI 2) (nI 12) lz && inB (nI 0) (nI 1) pz)) (by first | (rw [hb9]; rfl) | (rw [hb16, Bool.and_false]; rfl) | (rw [hb9, hb16]; rfl)) ?_
    refine r_callVI o (As := [.int (b01 (inB (nI 0) (nI 5) rz)), .int (b01 (inB (nI 2) (nI 12) lz && inB (nI 0) (nI 1) pz))]) (st := []) (c_X9_refusalOf (xl X) G σ sn cntq hp (inB (nI 0) (nI 5) rz) (inB (nI 2) (nI 12) lz && inB (nI 0) (nI 1) pz)) om_X9_refusalOf mw_343 mw_4 mw_341 (by decide) rfl rfl rfl (by decide) rfl rfl (Nat.le_of_ble_eq_true rfl) dX9_share_24 (fun rr24 σσ24 hp24 => ?_)
    obtain ⟨hp24, hp24b⟩ := hp24; replace hp24 := Eq.symm hp24; replace hp24b := Eq.symm hp24b; subst hp24; subst hp24b
    refine r_istore o (lv' := [(4, .int (refI (inB (nI 0) (nI 5) rz) (inB (nI 2) (nI 12) lz && inB (nI 0) (nI 1) pz) (fltF sn cntq 21 0))), (0, .ref (gad G 0)), (1, .int rz), (2, .int lz), (3, .int pz)]) dX9_share_27 (by decide) rfl ?_
    refine r_iload o dX9_share_29 0 rfl ?_
    refine r_if_eq o (tgt := 42) dX9_share_31 (by decide) (fun hb31 => ?_) (fun hb31 => ?_)
    · skip
      obtain ⟨hk1, hk2, hno⟩ := refI_z hb31
      obtain ⟨hr1, hr2⟩ := inB_nI (n := 5) (by decide) hk1
      rw [Bool.and_eq_true] at hk2
      obtain ⟨hl1, hl2⟩ := inB_nI (n := 12) (by decide) (inB_wk hk2.1)
      have hl3 := inB_ge hk2.1
      refine r_lv (lv' := [(4, .int (refI (inB (nI 0) (nI 5) rz) (inB (nI 2) (nI 12) lz && inB (nI 0) (nI 1) pz) (fltF sn cntq 21 0))), (0, .ref (gad G 0)), (1, .int (nI rz.toNatClampNeg)), (2, .int lz), (3, .int pz)]) (congrArg (fun zz => ([(4, .int (refI (inB (nI 0) (nI 5) rz) (inB (nI 2) (nI 12) lz && inB (nI 0) (nI 1) pz) (fltF sn cntq 21 0))), (0, .ref (gad G 0)), (1, .int zz), (2, .int lz), (3, .int pz)] : List (Nat × Value))) (hr1)) ?_
      refine r_lv (lv' := [(4, .int (refI (inB (nI 0) (nI 5) rz) (inB (nI 2) (nI 12) lz && inB (nI 0) (nI 1) pz) (fltF sn cntq 21 0))), (0, .ref (gad G 0)), (1, .int (nI rz.toNatClampNeg)), (2, .int (nI lz.toNatClampNeg)), (3, .int pz)]) (congrArg (fun zz => ([(4, .int (refI (inB (nI 0) (nI 5) rz) (inB (nI 2) (nI 12) lz && inB (nI 0) (nI 1) pz) (fltF sn cntq 21 0))), (0, .ref (gad G 0)), (1, .int (nI rz.toNatClampNeg)), (2, .int zz), (3, .int pz)] : List (Nat × Value))) (hl1)) ?_
      refine r_aload_n o dX9_share_42 1 rfl ?_
      refine r_iload_n o dX9_share_43 2 rfl ?_
      refine r_iload_n o dX9_share_44 3 rfl ?_
      refine r_callVV o (As := [.int (nI rz.toNatClampNeg), .int (nI lz.toNatClampNeg)]) (st := []) (c_X9_putShare (xl X) G σ sn cntq hp rz.toNatClampNeg (by omega) lz.toNatClampNeg (by omega) hno) om_X9_putShare mw_394 mw_6 mw_392 (by decide) rfl rfl rfl (by decide) rfl rfl (Nat.le_of_ble_eq_true rfl) dX9_share_45 (fun σσ45 hp45 => ?_)
      obtain ⟨hu, hl, hkp⟩ := hp45
      refine r_aload_n o dX9_share_48 1 rfl ?_
      refine gf_0_7 o mw_243 dX9_share_49 ?_
      refine r_iload_n o dX9_share_52 4 rfl ?_
      refine r_callVL o (As := [.int pz]) (st := []) (c_X2_partOf (xl X) G σσ45 (fU (shU (dlF σ sn cntq rz.toNatClampNeg) 24 lz.toNatClampNeg) (shD (dlF σ sn cntq rz.toNatClampNeg) 24)) hu (fL (shU (dlF σ sn cntq rz.toNatClampNeg) 24 lz.toNatClampNeg) (shD (dlF σ sn cntq rz.toNatClampNeg) 24)) hl pz) om_X2_partOf mw_448 mw_449 mw_447 (by decide) rfl rfl rfl (by decide) rfl rfl (Nat.le_of_ble_eq_true rfl) dX9_share_53 (fun rr53 σσ53 hp53 => ?_)
      obtain ⟨hp53, hp53b⟩ := hp53; replace hp53 := Eq.symm hp53; replace hp53b := Eq.symm hp53b; subst hp53; subst hp53b
      exact r_lreturn o q dX9_share_56 (⟨by rw [if_pos hb31], hkp⟩)
    · skip
      refine r_ldc2_w o mw_391 dX9_share_34 ?_
      refine r_iload o dX9_share_37 0 rfl ?_
      refine r_i2l o dX9_share_39 rfl ?_
      refine r_ladd o dX9_share_40 ?_
      exact r_lreturn o q dX9_share_41 (⟨by rw [if_neg hb31]; rfl, fun _ _ => rfl⟩)
  · skip
    rw [b01_ne0] at hb9
    refine r_iload_n o dX9_share_12 3 rfl ?_
    refine r_callSI o (As := [.int pz]) (st := [.int (b01 (inB (nI 0) (nI 5) rz)), .ref (gad G 0)]) (c_X9_isPart (xl X) G σ pz) om_X9_isPart mw_389 mw_388 (by decide) rfl rfl (Nat.le_of_ble_eq_true rfl) dX9_share_13 (fun rr13 σσ13 hp13 => ?_)
    obtain ⟨hp13, hp13b⟩ := hp13; replace hp13 := Eq.symm hp13; replace hp13b := Eq.symm hp13b; subst hp13; subst hp13b
    refine r_if_eq o (tgt := 23) dX9_share_16 (by decide) (fun hb16 => ?_) (fun hb16 => ?_)
    · skip
      rw [b01_eq0] at hb16
      refine r_iconst o (v := nI 0) dX9_share_23 (by decide) ?_
      refine r_topi (y := b01 (inB (nI 2) (nI 12) lz && inB (nI 0) (nI 1) pz)) (by first | (rw [hb9]; rfl) | (rw [hb16, Bool.and_false]; rfl) | (rw [hb9, hb16]; rfl)) ?_
      refine r_callVI o (As := [.int (b01 (inB (nI 0) (nI 5) rz)), .int (b01 (inB (nI 2) (nI 12) lz && inB (nI 0) (nI 1) pz))]) (st := []) (c_X9_refusalOf (xl X) G σ sn cntq hp (inB (nI 0) (nI 5) rz) (inB (nI 2) (nI 12) lz && inB (nI 0) (nI 1) pz)) om_X9_refusalOf mw_343 mw_4 mw_341 (by decide) rfl rfl rfl (by decide) rfl rfl (Nat.le_of_ble_eq_true rfl) dX9_share_24 (fun rr24 σσ24 hp24 => ?_)
      obtain ⟨hp24, hp24b⟩ := hp24; replace hp24 := Eq.symm hp24; replace hp24b := Eq.symm hp24b; subst hp24; subst hp24b
      refine r_istore o (lv' := [(4, .int (refI (inB (nI 0) (nI 5) rz) (inB (nI 2) (nI 12) lz && inB (nI 0) (nI 1) pz) (fltF sn cntq 21 0))), (0, .ref (gad G 0)), (1, .int rz), (2, .int lz), (3, .int pz)]) dX9_share_27 (by decide) rfl ?_
      refine r_iload o dX9_share_29 0 rfl ?_
      refine r_if_eq o (tgt := 42) dX9_share_31 (by decide) (fun hb31 => ?_) (fun hb31 => ?_)
      · skip
        obtain ⟨hk1, hk2, hno⟩ := refI_z hb31
        obtain ⟨hr1, hr2⟩ := inB_nI (n := 5) (by decide) hk1
        rw [Bool.and_eq_true] at hk2
        obtain ⟨hl1, hl2⟩ := inB_nI (n := 12) (by decide) (inB_wk hk2.1)
        have hl3 := inB_ge hk2.1
        refine r_lv (lv' := [(4, .int (refI (inB (nI 0) (nI 5) rz) (inB (nI 2) (nI 12) lz && inB (nI 0) (nI 1) pz) (fltF sn cntq 21 0))), (0, .ref (gad G 0)), (1, .int (nI rz.toNatClampNeg)), (2, .int lz), (3, .int pz)]) (congrArg (fun zz => ([(4, .int (refI (inB (nI 0) (nI 5) rz) (inB (nI 2) (nI 12) lz && inB (nI 0) (nI 1) pz) (fltF sn cntq 21 0))), (0, .ref (gad G 0)), (1, .int zz), (2, .int lz), (3, .int pz)] : List (Nat × Value))) (hr1)) ?_
        refine r_lv (lv' := [(4, .int (refI (inB (nI 0) (nI 5) rz) (inB (nI 2) (nI 12) lz && inB (nI 0) (nI 1) pz) (fltF sn cntq 21 0))), (0, .ref (gad G 0)), (1, .int (nI rz.toNatClampNeg)), (2, .int (nI lz.toNatClampNeg)), (3, .int pz)]) (congrArg (fun zz => ([(4, .int (refI (inB (nI 0) (nI 5) rz) (inB (nI 2) (nI 12) lz && inB (nI 0) (nI 1) pz) (fltF sn cntq 21 0))), (0, .ref (gad G 0)), (1, .int (nI rz.toNatClampNeg)), (2, .int zz), (3, .int pz)] : List (Nat × Value))) (hl1)) ?_
        refine r_aload_n o dX9_share_42 1 rfl ?_
        refine r_iload_n o dX9_share_43 2 rfl ?_
        refine r_iload_n o dX9_share_44 3 rfl ?_
        refine r_callVV o (As := [.int (nI rz.toNatClampNeg), .int (nI lz.toNatClampNeg)]) (st := []) (c_X9_putShare (xl X) G σ sn cntq hp rz.toNatClampNeg (by omega) lz.toNatClampNeg (by omega) hno) om_X9_putShare mw_394 mw_6 mw_392 (by decide) rfl rfl rfl (by decide) rfl rfl (Nat.le_of_ble_eq_true rfl) dX9_share_45 (fun σσ45 hp45 => ?_)
        obtain ⟨hu, hl, hkp⟩ := hp45
        refine r_aload_n o dX9_share_48 1 rfl ?_
        refine gf_0_7 o mw_243 dX9_share_49 ?_
        refine r_iload_n o dX9_share_52 4 rfl ?_
        refine r_callVL o (As := [.int pz]) (st := []) (c_X2_partOf (xl X) G σσ45 (fU (shU (dlF σ sn cntq rz.toNatClampNeg) 24 lz.toNatClampNeg) (shD (dlF σ sn cntq rz.toNatClampNeg) 24)) hu (fL (shU (dlF σ sn cntq rz.toNatClampNeg) 24 lz.toNatClampNeg) (shD (dlF σ sn cntq rz.toNatClampNeg) 24)) hl pz) om_X2_partOf mw_448 mw_449 mw_447 (by decide) rfl rfl rfl (by decide) rfl rfl (Nat.le_of_ble_eq_true rfl) dX9_share_53 (fun rr53 σσ53 hp53 => ?_)
        obtain ⟨hp53, hp53b⟩ := hp53; replace hp53 := Eq.symm hp53; replace hp53b := Eq.symm hp53b; subst hp53; subst hp53b
        exact r_lreturn o q dX9_share_56 (⟨by rw [if_pos hb31], hkp⟩)
      · skip
        refine r_ldc2_w o mw_391 dX9_share_34 ?_
        refine r_iload o dX9_share_37 0 rfl ?_
        refine r_i2l o dX9_share_39 rfl ?_
        refine r_ladd o dX9_share_40 ?_
        exact r_lreturn o q dX9_share_41 (⟨by rw [if_neg hb31]; rfl, fun _ _ => rfl⟩)
    · skip
      rw [b01_ne0] at hb16
      refine r_iconst o (v := nI 1) dX9_share_19 (by decide) ?_
      refine r_goto o (tgt := 24) dX9_share_20 (by decide) ?_
      refine r_topi (y := b01 (inB (nI 2) (nI 12) lz && inB (nI 0) (nI 1) pz)) (by first | (rw [hb9]; rfl) | (rw [hb16, Bool.and_false]; rfl) | (rw [hb9, hb16]; rfl)) ?_
      refine r_callVI o (As := [.int (b01 (inB (nI 0) (nI 5) rz)), .int (b01 (inB (nI 2) (nI 12) lz && inB (nI 0) (nI 1) pz))]) (st := []) (c_X9_refusalOf (xl X) G σ sn cntq hp (inB (nI 0) (nI 5) rz) (inB (nI 2) (nI 12) lz && inB (nI 0) (nI 1) pz)) om_X9_refusalOf mw_343 mw_4 mw_341 (by decide) rfl rfl rfl (by decide) rfl rfl (Nat.le_of_ble_eq_true rfl) dX9_share_24 (fun rr24 σσ24 hp24 => ?_)
      obtain ⟨hp24, hp24b⟩ := hp24; replace hp24 := Eq.symm hp24; replace hp24b := Eq.symm hp24b; subst hp24; subst hp24b
      refine r_istore o (lv' := [(4, .int (refI (inB (nI 0) (nI 5) rz) (inB (nI 2) (nI 12) lz && inB (nI 0) (nI 1) pz) (fltF sn cntq 21 0))), (0, .ref (gad G 0)), (1, .int rz), (2, .int lz), (3, .int pz)]) dX9_share_27 (by decide) rfl ?_
      refine r_iload o dX9_share_29 0 rfl ?_
      refine r_if_eq o (tgt := 42) dX9_share_31 (by decide) (fun hb31 => ?_) (fun hb31 => ?_)
      · skip
        obtain ⟨hk1, hk2, hno⟩ := refI_z hb31
        obtain ⟨hr1, hr2⟩ := inB_nI (n := 5) (by decide) hk1
        rw [Bool.and_eq_true] at hk2
        obtain ⟨hl1, hl2⟩ := inB_nI (n := 12) (by decide) (inB_wk hk2.1)
        have hl3 := inB_ge hk2.1
        refine r_lv (lv' := [(4, .int (refI (inB (nI 0) (nI 5) rz) (inB (nI 2) (nI 12) lz && inB (nI 0) (nI 1) pz) (fltF sn cntq 21 0))), (0, .ref (gad G 0)), (1, .int (nI rz.toNatClampNeg)), (2, .int lz), (3, .int pz)]) (congrArg (fun zz => ([(4, .int (refI (inB (nI 0) (nI 5) rz) (inB (nI 2) (nI 12) lz && inB (nI 0) (nI 1) pz) (fltF sn cntq 21 0))), (0, .ref (gad G 0)), (1, .int zz), (2, .int lz), (3, .int pz)] : List (Nat × Value))) (hr1)) ?_
        refine r_lv (lv' := [(4, .int (refI (inB (nI 0) (nI 5) rz) (inB (nI 2) (nI 12) lz && inB (nI 0) (nI 1) pz) (fltF sn cntq 21 0))), (0, .ref (gad G 0)), (1, .int (nI rz.toNatClampNeg)), (2, .int (nI lz.toNatClampNeg)), (3, .int pz)]) (congrArg (fun zz => ([(4, .int (refI (inB (nI 0) (nI 5) rz) (inB (nI 2) (nI 12) lz && inB (nI 0) (nI 1) pz) (fltF sn cntq 21 0))), (0, .ref (gad G 0)), (1, .int (nI rz.toNatClampNeg)), (2, .int zz), (3, .int pz)] : List (Nat × Value))) (hl1)) ?_
        refine r_aload_n o dX9_share_42 1 rfl ?_
        refine r_iload_n o dX9_share_43 2 rfl ?_
        refine r_iload_n o dX9_share_44 3 rfl ?_
        refine r_callVV o (As := [.int (nI rz.toNatClampNeg), .int (nI lz.toNatClampNeg)]) (st := []) (c_X9_putShare (xl X) G σ sn cntq hp rz.toNatClampNeg (by omega) lz.toNatClampNeg (by omega) hno) om_X9_putShare mw_394 mw_6 mw_392 (by decide) rfl rfl rfl (by decide) rfl rfl (Nat.le_of_ble_eq_true rfl) dX9_share_45 (fun σσ45 hp45 => ?_)
        obtain ⟨hu, hl, hkp⟩ := hp45
        refine r_aload_n o dX9_share_48 1 rfl ?_
        refine gf_0_7 o mw_243 dX9_share_49 ?_
        refine r_iload_n o dX9_share_52 4 rfl ?_
        refine r_callVL o (As := [.int pz]) (st := []) (c_X2_partOf (xl X) G σσ45 (fU (shU (dlF σ sn cntq rz.toNatClampNeg) 24 lz.toNatClampNeg) (shD (dlF σ sn cntq rz.toNatClampNeg) 24)) hu (fL (shU (dlF σ sn cntq rz.toNatClampNeg) 24 lz.toNatClampNeg) (shD (dlF σ sn cntq rz.toNatClampNeg) 24)) hl pz) om_X2_partOf mw_448 mw_449 mw_447 (by decide) rfl rfl rfl (by decide) rfl rfl (Nat.le_of_ble_eq_true rfl) dX9_share_53 (fun rr53 σσ53 hp53 => ?_)
        obtain ⟨hp53, hp53b⟩ := hp53; replace hp53 := Eq.symm hp53; replace hp53b := Eq.symm hp53b; subst hp53; subst hp53b
        exact r_lreturn o q dX9_share_56 (⟨by rw [if_pos hb31], hkp⟩)
      · skip
        refine r_ldc2_w o mw_391 dX9_share_34 ?_
        refine r_iload o dX9_share_37 0 rfl ?_
        refine r_i2l o dX9_share_39 rfl ?_
        refine r_ladd o dX9_share_40 ?_
        exact r_lreturn o q dX9_share_41 (⟨by rw [if_neg hb31]; rfl, fun _ _ => rfl⟩)
