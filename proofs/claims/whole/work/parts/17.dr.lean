set_option maxHeartbeats 4000000 in
set_option maxRecDepth 100000 in
theorem c_J6_bitCount_0f7a4 (l : Launch) (G : Gl) (σ : Sto) (kq : Nat) (hkq : kq < 1048576) : CtI l G yJ6_bitCount_0f7a4 cJ6_bitCount_0f7a4 1 (some .int) 0 0 [.int (nI kq)] σ (fun r σ' => r = nI (popc kq) ∧ σ' = σ) := by
  refine CtI.of (by decide +kernel) (Nat.le_of_ble_eq_true rfl) (fun X o q => ?_)
  show WS X G 1 σ 0 [(0, .int (nI kq))] []
  have g1q : bc1 kq ≤ kq := Nat.sub_le _ _
  have g2q : bc2 kq ≤ 1717986918 := by have z1 := @Nat.and_le_right (bc1 kq) 858993459; have z2 := @Nat.and_le_right (bc1 kq / 2 ^ 2) 858993459; unfold bc2; omega
  have g3q : bc3 kq ≤ 252645135 := Nat.and_le_right
  have g4q : bc4 kq ≤ 505290270 := by unfold bc4; omega
  refine r_iload_n o dJ6_bitCount_0f7a4_0 0 rfl ?_
  refine r_iload_n o dJ6_bitCount_0f7a4_1 0 rfl ?_
  refine r_iconst o (v := nI 1) dJ6_bitCount_0f7a4_2 (by decide) ?_
  refine r_iushr o (v := ushr32 (nI kq) (nI 1)) dJ6_bitCount_0f7a4_3 rfl ?_
  refine r_topi (y := nI (kq / 2 ^ 1)) (nI_ushr (by omega) (by omega)) ?_
  refine r_ldc_w o mw_531 dJ6_bitCount_0f7a4_4 ?_
  refine r_topi (y := nI 1431655765) (by decide) ?_
  refine r_iand o dJ6_bitCount_0f7a4_7 ?_
  refine r_topi (y := nI ((kq / 2 ^ 1) &&& 1431655765)) (nI_and _ _) ?_
  refine r_isub o dJ6_bitCount_0f7a4_8 ?_
  refine r_topi (y := nI (kq - ((kq / 2 ^ 1) &&& 1431655765))) (nI_sub' (Nat.le_trans Nat.and_le_left (Nat.div_le_self _ _))) ?_
  refine r_topi (y := nI (bc1 kq)) rfl ?_
  refine r_istore_n o (lv' := [(0, .int (nI (bc1 kq)))]) dJ6_bitCount_0f7a4_9 (by decide) rfl ?_
  refine r_iload_n o dJ6_bitCount_0f7a4_10 0 rfl ?_
  refine r_ldc_w o mw_532 dJ6_bitCount_0f7a4_11 ?_
  refine r_topi (y := nI 858993459) (by decide) ?_
  refine r_iand o dJ6_bitCount_0f7a4_14 ?_
  refine r_topi (y := nI ((bc1 kq) &&& 858993459)) (nI_and _ _) ?_
  refine r_iload_n o dJ6_bitCount_0f7a4_15 0 rfl ?_
  refine r_iconst o (v := nI 2) dJ6_bitCount_0f7a4_16 (by decide) ?_
  refine r_iushr o (v := ushr32 (nI (bc1 kq)) (nI 2)) dJ6_bitCount_0f7a4_17 rfl ?_
  refine r_topi (y := nI ((bc1 kq) / 2 ^ 2)) (nI_ushr (by omega) (by omega)) ?_
  refine r_ldc_w o mw_532 dJ6_bitCount_0f7a4_18 ?_
  refine r_topi (y := nI 858993459) (by decide) ?_
  refine r_iand o dJ6_bitCount_0f7a4_21 ?_
  refine r_topi (y := nI (((bc1 kq) / 2 ^ 2) &&& 858993459)) (nI_and _ _) ?_
  refine r_iadd o dJ6_bitCount_0f7a4_22 ?_
  refine r_topi (y := nI (((bc1 kq) &&& 858993459) + (((bc1 kq) / 2 ^ 2) &&& 858993459))) (nI_add' _ _) ?_
  refine r_topi (y := nI (bc2 kq)) rfl ?_
  refine r_istore_n o (lv' := [(0, .int (nI (bc2 kq)))]) dJ6_bitCount_0f7a4_23 (by decide) rfl ?_
  refine r_iload_n o dJ6_bitCount_0f7a4_24 0 rfl ?_
  refine r_iload_n o dJ6_bitCount_0f7a4_25 0 rfl ?_
  refine r_iconst o (v := nI 4) dJ6_bitCount_0f7a4_26 (by decide) ?_
  refine r_iushr o (v := ushr32 (nI (bc2 kq)) (nI 4)) dJ6_bitCount_0f7a4_27 rfl ?_
  refine r_topi (y := nI ((bc2 kq) / 2 ^ 4)) (nI_ushr (by omega) (by omega)) ?_
  refine r_iadd o dJ6_bitCount_0f7a4_28 ?_
  refine r_topi (y := nI (bc2 kq + ((bc2 kq) / 2 ^ 4))) (nI_add' _ _) ?_
  refine r_ldc_w o mw_533 dJ6_bitCount_0f7a4_29 ?_
  refine r_topi (y := nI 252645135) (by decide) ?_
  refine r_iand o dJ6_bitCount_0f7a4_32 ?_
  refine r_topi (y := nI ((bc2 kq + ((bc2 kq) / 2 ^ 4)) &&& 252645135)) (nI_and _ _) ?_
  refine r_topi (y := nI (bc3 kq)) rfl ?_
  refine r_istore_n o (lv' := [(0, .int (nI (bc3 kq)))]) dJ6_bitCount_0f7a4_33 (by decide) rfl ?_
  refine r_iload_n o dJ6_bitCount_0f7a4_34 0 rfl ?_
  refine r_iload_n o dJ6_bitCount_0f7a4_35 0 rfl ?_
  refine r_bipush o (v := nI 8) dJ6_bitCount_0f7a4_36 (by decide) ?_
  refine r_iushr o (v := ushr32 (nI (bc3 kq)) (nI 8)) dJ6_bitCount_0f7a4_38 rfl ?_
  refine r_topi (y := nI ((bc3 kq) / 2 ^ 8)) (nI_ushr (by omega) (by omega)) ?_
  refine r_iadd o dJ6_bitCount_0f7a4_39 ?_
  refine r_topi (y := nI (bc3 kq + ((bc3 kq) / 2 ^ 8))) (nI_add' _ _) ?_
  refine r_topi (y := nI (bc4 kq)) rfl ?_
  refine r_istore_n o (lv' := [(0, .int (nI (bc4 kq)))]) dJ6_bitCount_0f7a4_40 (by decide) rfl ?_
  refine r_iload_n o dJ6_bitCount_0f7a4_41 0 rfl ?_
  refine r_iload_n o dJ6_bitCount_0f7a4_42 0 rfl ?_
  refine r_bipush o (v := nI 16) dJ6_bitCount_0f7a4_43 (by decide) ?_
  refine r_iushr o (v := ushr32 (nI (bc4 kq)) (nI 16)) dJ6_bitCount_0f7a4_45 rfl ?_
  refine r_topi (y := nI ((bc4 kq) / 2 ^ 16)) (nI_ushr (by omega) (by omega)) ?_
  refine r_iadd o dJ6_bitCount_0f7a4_46 ?_
  refine r_topi (y := nI (bc4 kq + ((bc4 kq) / 2 ^ 16))) (nI_add' _ _) ?_
  refine r_topi (y := nI (bc5 kq)) rfl ?_
  refine r_istore_n o (lv' := [(0, .int (nI (bc5 kq)))]) dJ6_bitCount_0f7a4_47 (by decide) rfl ?_
  refine r_iload_n o dJ6_bitCount_0f7a4_48 0 rfl ?_
  refine r_bipush o (v := nI 63) dJ6_bitCount_0f7a4_49 (by decide) ?_
  refine r_iand o dJ6_bitCount_0f7a4_51 ?_
  refine r_topi (y := nI ((bc5 kq) &&& 63)) (nI_and _ _) ?_
  exact r_ireturn o q dJ6_bitCount_0f7a4_52 (⟨congrArg nI (bitc hkq), rfl⟩)
set_option maxHeartbeats 4000000 in
set_option maxRecDepth 100000 in
theorem c_J13_compare_74951 (l : Launch) (G : Gl) (σ : Sto) (xq : Int64) (yq : Int64) : CtI l G yJ13_compare_74951 cJ13_compare_74951 4 (some .int) 0 0 [.long xq, .long yq] σ (fun r σ' => r = cmpI xq yq ∧ σ' = σ) := by
  refine CtI.of (by decide +kernel) (Nat.le_of_ble_eq_true rfl) (fun X o q => ?_)
  show WS X G 4 σ 0 [(0, .long xq), (2, .long yq)] []
  refine r_lload_n o dJ13_compare_74951_0 0 rfl ?_
  refine r_lload_n o dJ13_compare_74951_1 1 rfl ?_
  refine r_lcmp o dJ13_compare_74951_2 ?_
  refine r_if_ge o (tgt := 10) dJ13_compare_74951_3 (by decide) (fun hb3 => ?_) (fun hb3 => ?_)
  · skip
    rw [lg_cmp_ge] at hb3
    refine r_lload_n o dJ13_compare_74951_10 0 rfl ?_
    refine r_lload_n o dJ13_compare_74951_11 1 rfl ?_
    refine r_lcmp o dJ13_compare_74951_12 ?_
    refine r_if_ne o (tgt := 20) dJ13_compare_74951_13 (by decide) (fun hb13 => ?_) (fun hb13 => ?_)
    · skip
      rw [lg_cmp_eq] at hb13
      refine r_iconst o (v := nI 1) dJ13_compare_74951_20 (by decide) ?_
      exact r_ireturn o q dJ13_compare_74951_21 (⟨by unfold cmpI; first | (rw [if_neg hb3]) | (rw [if_pos hb3, if_pos hb13]) | (rw [if_pos hb3, if_neg hb13]), rfl⟩)
    · skip
      rw [lg_cmp_eq] at hb13
      refine r_iconst o (v := nI 0) dJ13_compare_74951_16 (by decide) ?_
      refine r_goto o (tgt := 21) dJ13_compare_74951_17 (by decide) ?_
      exact r_ireturn o q dJ13_compare_74951_21 (⟨by unfold cmpI; first | (rw [if_neg hb3]) | (rw [if_pos hb3, if_pos hb13]) | (rw [if_pos hb3, if_neg hb13]), rfl⟩)
  · skip
    rw [lg_cmp_ge] at hb3
    refine r_iconst o (v := (-1)) dJ13_compare_74951_6 (by decide) ?_
    refine r_goto o (tgt := 21) dJ13_compare_74951_7 (by decide) ?_
    exact r_ireturn o q dJ13_compare_74951_21 (⟨by unfold cmpI; first | (rw [if_neg hb3]) | (rw [if_pos hb3, if_pos hb13]) | (rw [if_pos hb3, if_neg hb13]), rfl⟩)
set_option maxHeartbeats 4000000 in
set_option maxRecDepth 100000 in
theorem c_X1_isFull (l : Launch) (G : Gl) (σ : Sto) (cntq : Nat) (prq : Nat) (trq : Nat) (hdr : DrO σ cntq prq trq) : CtI l G yX1_isFull cX1_isFull 1 (some .boolean) 0 0 [.ref (gad G 9)] σ (fun r σ' => r = b01 (decide (20 ≤ cntq)) ∧ σ' = σ) := by
  refine CtI.of (by decide +kernel) (Nat.le_of_ble_eq_true rfl) (fun X o q => ?_)
  show WS X G 1 σ 0 [(0, .ref (gad G 9))] []
  obtain ⟨hcq, hcnt, hpr, hprl, htr, htrl⟩ := id hdr
  have hpr20 : prq < 1048576 := pow_up hprl hcnt
  refine r_aload_n o dX1_isFull_0 0 rfl ?_
  refine gf_9_3 o (v := nI cntq) hcq mw_200 dX1_isFull_1 ?_
  refine r_bipush o (v := nI 20) dX1_isFull_4 (by decide) ?_
  refine r_icmp_lt o (tgt := 13) dX1_isFull_6 (by decide) (fun hb6 => ?_) (fun hb6 => ?_)
  · skip
    rw [nI_ltI (by omega) (by omega)] at hb6
    refine r_iconst o (v := nI 0) dX1_isFull_13 (by decide) ?_
    exact r_zreturn o q (by decide) dX1_isFull_14 (⟨b01_f' (by simp; omega), rfl⟩)
  · skip
    rw [nI_ltI (by omega) (by omega)] at hb6
    refine r_iconst o (v := nI 1) dX1_isFull_9 (by decide) ?_
    refine r_goto o (tgt := 14) dX1_isFull_10 (by decide) ?_
    exact r_zreturn o q (by decide) dX1_isFull_14 (⟨b01_t' (by simp; omega), rfl⟩)
set_option maxHeartbeats 4000000 in
set_option maxRecDepth 100000 in
theorem c_X1_has (l : Launch) (G : Gl) (σ : Sto) (cntq : Nat) (prq : Nat) (trq : Nat) (hdr : DrO σ cntq prq trq) (vz : Int32) : CtI l G yX1_has cX1_has 2 (some .boolean) 0 0 [.ref (gad G 9), .int vz] σ (fun r σ' => r = b01 (hasB cntq vz) ∧ σ' = σ) := by
  refine CtI.of (by decide +kernel) (Nat.le_of_ble_eq_true rfl) (fun X o q => ?_)
  show WS X G 2 σ 0 [(0, .ref (gad G 9)), (1, .int vz)] []
  obtain ⟨hcq, hcnt, hpr, hprl, htr, htrl⟩ := id hdr
  have hpr20 : prq < 1048576 := pow_up hprl hcnt
  refine r_iload_n o dX1_has_0 1 rfl ?_
  refine r_if_lt o (tgt := 16) dX1_has_1 (by decide) (fun hb1 => ?_) (fun hb1 => ?_)
  · skip
    refine r_iconst o (v := nI 0) dX1_has_16 (by decide) ?_
    exact r_zreturn o q (by decide) dX1_has_17 (⟨b01_f' (by unfold hasB; first | (rw [decide_eq_false (fun zq => absurd hb1 (i_nlt.mpr zq))]; rfl) | (rw [decide_eq_true (i_nlt.mp hb1), decide_eq_true (i_nle.mp hb9)]; rfl) | (rw [decide_eq_true (i_nlt.mp hb1), decide_eq_false (fun zq => absurd hb9 (i_nle.mpr zq))]; rfl)), rfl⟩)
  · skip
    refine r_iload_n o dX1_has_4 1 rfl ?_
    refine r_aload_n o dX1_has_5 0 rfl ?_
    refine gf_9_3 o (v := nI cntq) hcq mw_200 dX1_has_6 ?_
    refine r_icmp_ge o (tgt := 16) dX1_has_9 (by decide) (fun hb9 => ?_) (fun hb9 => ?_)
    · skip
      refine r_iconst o (v := nI 0) dX1_has_16 (by decide) ?_
      exact r_zreturn o q (by decide) dX1_has_17 (⟨b01_f' (by unfold hasB; first | (rw [decide_eq_false (fun zq => absurd hb1 (i_nlt.mpr zq))]; rfl) | (rw [decide_eq_true (i_nlt.mp hb1), decide_eq_true (i_nle.mp hb9)]; rfl) | (rw [decide_eq_true (i_nlt.mp hb1), decide_eq_false (fun zq => absurd hb9 (i_nle.mpr zq))]; rfl)), rfl⟩)
    · skip
      refine r_iconst o (v := nI 1) dX1_has_12 (by decide) ?_
      refine r_goto o (tgt := 17) dX1_has_13 (by decide) ?_
      exact r_zreturn o q (by decide) dX1_has_17 (⟨b01_t' (by unfold hasB; first | (rw [decide_eq_false (fun zq => absurd hb1 (i_nlt.mpr zq))]; rfl) | (rw [decide_eq_true (i_nlt.mp hb1), decide_eq_true (i_nle.mp hb9)]; rfl) | (rw [decide_eq_true (i_nlt.mp hb1), decide_eq_false (fun zq => absurd hb9 (i_nle.mpr zq))]; rfl)), rfl⟩)
set_option maxHeartbeats 4000000 in
set_option maxRecDepth 100000 in
theorem c_X1_all (l : Launch) (G : Gl) (σ : Sto) (cntq : Nat) (prq : Nat) (trq : Nat) (hdr : DrO σ cntq prq trq) : CtI l G yX1_all cX1_all 1 (some .int) 0 0 [.ref (gad G 9)] σ (fun r σ' => r = nI (2 ^ cntq - 1) ∧ σ' = σ) := by
  refine CtI.of (by decide +kernel) (Nat.le_of_ble_eq_true rfl) (fun X o q => ?_)
  show WS X G 1 σ 0 [(0, .ref (gad G 9))] []
  obtain ⟨hcq, hcnt, hpr, hprl, htr, htrl⟩ := id hdr
  have hpr20 : prq < 1048576 := pow_up hprl hcnt
  have hw := nI_wpow hcnt
  have hw1 : 1 ≤ 2 ^ cntq := Nat.one_le_two_pow
  refine r_iconst o (v := nI 1) dX1_all_0 (by decide) ?_
  refine r_aload_n o dX1_all_1 0 rfl ?_
  refine gf_9_3 o (v := nI cntq) hcq mw_200 dX1_all_2 ?_
  refine r_ishl o dX1_all_5 ?_
  refine r_topi (y := nI (1 * 2 ^ cntq)) (nI_shl (by omega)) ?_
  refine r_iconst o (v := nI 1) dX1_all_6 (by decide) ?_
  refine r_isub o dX1_all_7 ?_
  refine r_topi (y := nI ((1 * 2 ^ cntq) - 1)) (nI_sub' (by omega)) ?_
  exact r_ireturn o q dX1_all_8 (⟨by rw [Nat.one_mul], rfl⟩)
set_option maxHeartbeats 4000000 in
set_option maxRecDepth 100000 in
theorem c_X1_add (l : Launch) (G : Gl) (σ : Sto) (cntq : Nat) (prq : Nat) (trq : Nat) (hdr : DrO σ cntq prq trq) (xq : Int32) (yq : Int32) (zq : Int32) (hlt : cntq < 20) : CtV l G yX1_add cX1_add 4 none 1 20 [.ref (gad G 9), .int xq, .int yq, .int zq] σ (fun σ' => σ' = sti (sti (sti (sti σ 27 cntq xq) 28 cntq yq) 29 cntq zq) 9 3 (nI (cntq + 1))) := by
  refine CtV.of (by decide +kernel) (Nat.le_of_ble_eq_true rfl) (fun X o q => ?_)
  show WS X G 4 σ 0 [(0, .ref (gad G 9)), (1, .int xq), (2, .int yq), (3, .int zq)] []
  obtain ⟨hcq, hcnt, hpr, hprl, htr, htrl⟩ := id hdr
  have hpr20 : prq < 1048576 := pow_up hprl hcnt
  refine r_aload_n o dX1_add_0 0 rfl ?_
  refine r_callVI o (As := []) (st := []) (c_X1_isFull (xl X) G σ cntq prq trq hdr) om_X1_isFull mw_578 mw_579 mw_590 (by decide) rfl rfl rfl (by decide) rfl rfl (Nat.le_of_ble_eq_true rfl) dX1_add_1 (fun rr1 σσ1 hp1 => ?_)
  obtain ⟨hp1, hp1b⟩ := hp1; replace hp1 := Eq.symm hp1; replace hp1b := Eq.symm hp1b; subst hp1; subst hp1b
  refine r_if_ne o (tgt := 47) dX1_add_4 (by decide) (fun hb4 => ?_) (fun hb4 => ?_)
  · skip
    rw [b01_ne0] at hb4
    exact absurd (decide_eq_true_eq.mp hb4) (by omega)
  · skip
    rw [b01_eq0] at hb4
    refine r_aload_n o dX1_add_7 0 rfl ?_
    refine gf_9_0 o mw_194 dX1_add_8 ?_
    refine r_aload_n o dX1_add_11 0 rfl ?_
    refine gf_9_3 o (v := nI cntq) hcq mw_200 dX1_add_12 ?_
    refine r_iload_n o dX1_add_15 1 rfl ?_
    refine r_iast o (by decide) ia_27 cntq rfl (by omega) (by decide) dX1_add_16 ?_
    refine r_aload_n o dX1_add_17 0 rfl ?_
    refine gf_9_1 o mw_196 dX1_add_18 ?_
    refine r_aload_n o dX1_add_21 0 rfl ?_
    refine gf_9_3 (σ := sti σ 27 cntq xq) o (v := nI cntq) hcq mw_200 dX1_add_22 ?_
    refine r_iload_n o dX1_add_25 2 rfl ?_
    refine r_iast o (by decide) ia_28 cntq rfl (by omega) (by decide) dX1_add_26 ?_
    refine r_aload_n o dX1_add_27 0 rfl ?_
    refine gf_9_2 o mw_198 dX1_add_28 ?_
    refine r_aload_n o dX1_add_31 0 rfl ?_
    refine gf_9_3 (σ := sti (sti σ 27 cntq xq) 28 cntq yq) o (v := nI cntq) hcq mw_200 dX1_add_32 ?_
    refine r_iload_n o dX1_add_35 3 rfl ?_
    refine r_iast o (by decide) ia_29 cntq rfl (by omega) (by decide) dX1_add_36 ?_
    refine r_aload_n o dX1_add_37 0 rfl ?_
    refine r_dup o dX1_add_38 rfl ?_
    refine gf_9_3 (σ := sti (sti (sti σ 27 cntq xq) 28 cntq yq) 29 cntq zq) o (v := nI cntq) hcq mw_200 dX1_add_39 ?_
    refine r_iconst o (v := nI 1) dX1_add_42 (by decide) ?_
    refine r_iadd o dX1_add_43 ?_
    refine r_topi (y := nI (cntq + 1)) (nI_add' _ _) ?_
    refine pf_9_3 o mw_200 dX1_add_44 ?_
    exact r_return o q dX1_add_47 rfl
set_option maxHeartbeats 4000000 in
set_option maxRecDepth 100000 in
theorem c_X1_isPrinted (l : Launch) (G : Gl) (σ : Sto) (cntq : Nat) (prq : Nat) (trq : Nat) (hdr : DrO σ cntq prq trq) (tq2 : Nat) (htq : tq2 < 20) : CtI l G yX1_isPrinted cX1_isPrinted 2 (some .boolean) 0 0 [.ref (gad G 9), .int (nI tq2)] σ (fun r σ' => r = b01 (prq.testBit tq2) ∧ σ' = σ) := by
  refine CtI.of (by decide +kernel) (Nat.le_of_ble_eq_true rfl) (fun X o q => ?_)
  show WS X G 2 σ 0 [(0, .ref (gad G 9)), (1, .int (nI tq2))] []
  obtain ⟨hcq, hcnt, hpr, hprl, htr, htrl⟩ := id hdr
  have hpr20 : prq < 1048576 := pow_up hprl hcnt
  have hand : prq / 2 ^ tq2 &&& 1 ≤ 1 := Nat.and_le_right
  refine r_aload_n o dX1_isPrinted_0 0 rfl ?_
  refine gf_9_4 o (v := nI prq) hpr mw_202 dX1_isPrinted_1 ?_
  refine r_iload_n o dX1_isPrinted_4 1 rfl ?_
  refine r_ishr o dX1_isPrinted_5 ?_
  refine r_topi (y := nI (prq / 2 ^ tq2)) (nI_shr (by omega) (by omega)) ?_
  refine r_iconst o (v := nI 1) dX1_isPrinted_6 (by decide) ?_
  refine r_iand o dX1_isPrinted_7 ?_
  refine r_topi (y := nI ((prq / 2 ^ tq2) &&& 1)) (nI_and _ _) ?_
  refine r_iconst o (v := nI 1) dX1_isPrinted_8 (by decide) ?_
  refine r_icmp_ne o (tgt := 16) dX1_isPrinted_9 (by decide) (fun hb9 => ?_) (fun hb9 => ?_)
  · skip
    rw [nI_eq (by omega) (by omega)] at hb9
    refine r_iconst o (v := nI 0) dX1_isPrinted_16 (by decide) ?_
    exact r_zreturn o q (by decide) dX1_isPrinted_17 (⟨b01_f' (by first | exact tstb.mp hb9 | exact Bool.eq_false_iff.mpr (fun zq => hb9 (tstb.mpr zq))), rfl⟩)
  · skip
    rw [nI_eq (by omega) (by omega)] at hb9
    refine r_iconst o (v := nI 1) dX1_isPrinted_12 (by decide) ?_
    refine r_goto o (tgt := 17) dX1_isPrinted_13 (by decide) ?_
    exact r_zreturn o q (by decide) dX1_isPrinted_17 (⟨b01_t' (by first | exact tstb.mp hb9 | exact Bool.eq_false_iff.mpr (fun zq => hb9 (tstb.mpr zq))), rfl⟩)
set_option maxHeartbeats 4000000 in
set_option maxRecDepth 100000 in
theorem c_X1_setPrinted (l : Launch) (G : Gl) (σ : Sto) (cntq : Nat) (prq : Nat) (trq : Nat) (hdr : DrO σ cntq prq trq) (tq2 : Nat) (htq : tq2 < 20) (isq : Bool) : CtV l G yX1_setPrinted cX1_setPrinted 4 none 0 0 [.ref (gad G 9), .int (nI tq2), .int (b01 isq)] σ (fun σ' => σ' = sti σ 9 4 (nI (if isq = true then prq ||| 1 * 2 ^ tq2 else ndiff prq (1 * 2 ^ tq2)))) := by
  refine CtV.of (by decide +kernel) (Nat.le_of_ble_eq_true rfl) (fun X o q => ?_)
  show WS X G 4 σ 0 [(0, .ref (gad G 9)), (1, .int (nI tq2)), (2, .int (b01 isq))] []
  obtain ⟨hcq, hcnt, hpr, hprl, htr, htrl⟩ := id hdr
  have hpr20 : prq < 1048576 := pow_up hprl hcnt
  refine r_iconst o (v := nI 1) dX1_setPrinted_0 (by decide) ?_
  refine r_iload_n o dX1_setPrinted_1 1 rfl ?_
  refine r_ishl o dX1_setPrinted_2 ?_
  refine r_topi (y := nI (1 * 2 ^ tq2)) (nI_shl (by omega)) ?_
  refine r_istore_n o (lv' := [(3, .int (nI (1 * 2 ^ tq2))), (0, .ref (gad G 9)), (1, .int (nI tq2)), (2, .int (b01 isq))]) dX1_setPrinted_3 (by decide) rfl ?_
  refine r_aload_n o dX1_setPrinted_4 1 rfl ?_
  refine r_iload_n o dX1_setPrinted_5 3 rfl ?_
  refine r_if_eq o (tgt := 18) dX1_setPrinted_6 (by decide) (fun hb6 => ?_) (fun hb6 => ?_)
  · skip
    rw [b01_eq0] at hb6
    refine r_aload_n o dX1_setPrinted_18 1 rfl ?_
    refine gf_9_4 o (v := nI prq) hpr mw_202 dX1_setPrinted_19 ?_
    refine r_iload_n o dX1_setPrinted_22 0 rfl ?_
    refine r_iconst o (v := (-1)) dX1_setPrinted_23 (by decide) ?_
    refine r_ixor o dX1_setPrinted_24 ?_
    refine r_iand o dX1_setPrinted_25 ?_
    refine r_topi (y := nI (ndiff prq (1 * 2 ^ tq2))) nI_ndiff ?_
    refine pf_9_4 o mw_202 dX1_setPrinted_26 ?_
    exact r_return o q dX1_setPrinted_29 (by first | (rw [if_pos hb6]) | (rw [if_neg (by rw [hb6]; exact Bool.false_ne_true)]))
  · skip
    rw [b01_ne0] at hb6
    refine r_aload_n o dX1_setPrinted_9 1 rfl ?_
    refine gf_9_4 o (v := nI prq) hpr mw_202 dX1_setPrinted_10 ?_
    refine r_iload_n o dX1_setPrinted_13 0 rfl ?_
    refine r_ior o dX1_setPrinted_14 ?_
    refine r_topi (y := nI (prq ||| (1 * 2 ^ tq2))) (nI_or _ _) ?_
    refine r_goto o (tgt := 26) dX1_setPrinted_15 (by decide) ?_
    refine pf_9_4 o mw_202 dX1_setPrinted_26 ?_
    exact r_return o q dX1_setPrinted_29 (by first | (rw [if_pos hb6]) | (rw [if_neg (by rw [hb6]; exact Bool.false_ne_true)]))
set_option maxHeartbeats 4000000 in
set_option maxRecDepth 100000 in
theorem c_X1_kept (l : Launch) (G : Gl) (σ : Sto) (cntq : Nat) (prq : Nat) (trq : Nat) (hdr : DrO σ cntq prq trq) (pf2 : Nat → Int32) (hpf : (σ 29).1 = pf2) (rz : Int32) : CtI l G yX1_kept cX1_kept 4 (some .int) 0 0 [.ref (gad G 9), .int rz] σ (fun r σ' => r = nI (kpt pf2 rz cntq) ∧ σ' = σ) := by
  refine CtI.of (by decide +kernel) (Nat.le_of_ble_eq_true rfl) (fun X o q => ?_)
  show WS X G 4 σ 0 [(0, .ref (gad G 9)), (1, .int rz)] []
  obtain ⟨hcq, hcnt, hpr, hprl, htr, htrl⟩ := id hdr
  have hpr20 : prq < 1048576 := pow_up hprl hcnt
  refine r_iconst o (v := nI 0) dX1_kept_0 (by decide) ?_
  refine r_istore_n o (lv' := [(2, .int (nI 0)), (0, .ref (gad G 9)), (1, .int rz)]) dX1_kept_1 (by decide) rfl ?_
  refine r_iconst o (v := nI 0) dX1_kept_2 (by decide) ?_
  refine r_istore_n o (lv' := [(3, .int (nI 0)), (2, .int (nI 0)), (0, .ref (gad G 9)), (1, .int rz)]) dX1_kept_3 (by decide) rfl ?_
  have L4 : ∀ (n : Nat) (kq : Nat) (hkq : kq ≤ cntq), cntq - kq < n → WS X G 4 σ 4 [(0, .ref (gad G 9)), (1, .int rz), (2, .int (nI (kpt pf2 rz kq))), (3, .int (nI kq))] [] := by
    intro n
    induction n with
    | zero => intro kq hkq hm; exact absurd hm (Nat.not_lt_zero _)
    | succ n ih4 =>
      intro kq hkq hm
      refine r_iload_n o dX1_kept_4 3 rfl ?_
      refine r_aload_n o dX1_kept_5 0 rfl ?_
      refine gf_9_3 o (v := nI cntq) hcq mw_200 dX1_kept_6 ?_
      refine r_icmp_ge o (tgt := 34) dX1_kept_9 (by decide) (fun hb9 => ?_) (fun hb9 => ?_)
      · skip
        rw [nI_leI (by omega) (by omega)] at hb9
        obtain rfl : cntq = kq := by omega
        refine r_iload_n o dX1_kept_34 2 rfl ?_
        exact r_ireturn o q dX1_kept_35 (⟨rfl, rfl⟩)
      · skip
        rw [nI_leI (by omega) (by omega)] at hb9
        refine r_aload_n o dX1_kept_12 0 rfl ?_
        refine gf_9_2 o mw_198 dX1_kept_13 ?_
        refine r_iload_n o dX1_kept_16 3 rfl ?_
        refine r_ia o (by decide) ia_29 (f := pf2) hpf kq rfl (by omega) (by decide) dX1_kept_17 ?_
        refine r_iload_n o dX1_kept_18 1 rfl ?_
        refine r_icmp_lt o (tgt := 28) dX1_kept_19 (by decide) (fun hb19 => ?_) (fun hb19 => ?_)
        · skip
          refine r_lv (lv' := [(0, .ref (gad G 9)), (1, .int rz), (2, .int (nI (kpt pf2 rz (kq + 1)))), (3, .int (nI kq))]) (congrArg (fun zz => ([(0, .ref (gad G 9)), (1, .int rz), (2, .int zz), (3, .int (nI kq))] : List (Nat × Value))) (congrArg nI (show kpt pf2 rz kq = kpt pf2 rz (kq + 1) from (if_pos hb19).symm))) ?_
          refine r_iinc o (v := nI (kq + 1)) (lv' := [(3, .int (nI (kq + 1))), (0, .ref (gad G 9)), (1, .int rz), (2, .int (nI (kpt pf2 rz (kq + 1))))]) dX1_kept_28 3 rfl (nI_inc _) (by decide) rfl ?_
          refine r_goto o (tgt := 4) dX1_kept_31 (by decide) ?_
          exact r_to rfl [1, 2, 3, 0] rfl (ih4 (kq + 1) (by omega) (by omega))
        · skip
          refine r_iload_n o dX1_kept_22 2 rfl ?_
          refine r_iconst o (v := nI 1) dX1_kept_23 (by decide) ?_
          refine r_iload_n o dX1_kept_24 3 rfl ?_
          refine r_ishl o dX1_kept_25 ?_
          refine r_topi (y := nI (1 * 2 ^ kq)) (nI_shl (by omega)) ?_
          refine r_ior o dX1_kept_26 ?_
          refine r_topi (y := nI ((kpt pf2 rz kq) ||| (1 * 2 ^ kq))) (nI_or _ _) ?_
          refine r_istore_n o (lv' := [(2, .int (nI ((kpt pf2 rz kq) ||| (1 * 2 ^ kq)))), (0, .ref (gad G 9)), (1, .int rz), (3, .int (nI kq))]) dX1_kept_27 (by decide) rfl ?_
          refine r_lv (lv' := [(2, .int (nI (kpt pf2 rz (kq + 1)))), (0, .ref (gad G 9)), (1, .int rz), (3, .int (nI kq))]) (congrArg (fun zz => ([(2, .int zz), (0, .ref (gad G 9)), (1, .int rz), (3, .int (nI kq))] : List (Nat × Value))) (show nI (kpt pf2 rz kq ||| 1 * 2 ^ kq) = nI (kpt pf2 rz (kq + 1)) from congrArg nI (if_neg hb19).symm)) ?_
          refine r_iinc o (v := nI (kq + 1)) (lv' := [(3, .int (nI (kq + 1))), (2, .int (nI (kpt pf2 rz (kq + 1)))), (0, .ref (gad G 9)), (1, .int rz)]) dX1_kept_28 3 rfl (nI_inc _) (by decide) rfl ?_
          refine r_goto o (tgt := 4) dX1_kept_31 (by decide) ?_
          exact r_to rfl [2, 3, 1, 0] rfl (ih4 (kq + 1) (by omega) (by omega))
  exact r_to rfl [2, 3, 1, 0] rfl (L4 _ 0 (by omega) (Nat.lt_succ_self _))
set_option maxHeartbeats 4000000 in
set_option maxRecDepth 100000 in
theorem c_X1_goodBy (l : Launch) (G : Gl) (σ : Sto) (cntq : Nat) (prq : Nat) (trq : Nat) (hdr : DrO σ cntq prq trq) (pf2 : Nat → Int32) (hpf : (σ 29).1 = pf2) (rz : Int32) : CtI l G yX1_goodBy cX1_goodBy 3 (some .int) 1 23 [.ref (gad G 9), .int rz] σ (fun r σ' => r = gdI pf2 cntq trq rz ∧ σ' = σ) := by
  refine CtI.of (by decide +kernel) (Nat.le_of_ble_eq_true rfl) (fun X o q => ?_)
  show WS X G 3 σ 0 [(0, .ref (gad G 9)), (1, .int rz)] []
  obtain ⟨hcq, hcnt, hpr, hprl, htr, htrl⟩ := id hdr
  have hpr20 : prq < 1048576 := pow_up hprl hcnt
  have hkl : kpt pf2 rz cntq < 1048576 := pow_up (kpt_lt pf2 rz cntq) hcnt
  refine r_aload_n o dX1_goodBy_0 0 rfl ?_
  refine r_iload_n o dX1_goodBy_1 1 rfl ?_
  refine r_callVI o (As := [.int rz]) (st := []) (c_X1_kept (xl X) G σ cntq prq trq hdr pf2 hpf rz) om_X1_kept mw_636 mw_637 mw_670 (by decide) rfl rfl rfl (by decide) rfl rfl (Nat.le_of_ble_eq_true rfl) dX1_goodBy_2 (fun rr2 σσ2 hp2 => ?_)
  obtain ⟨hp2, hp2b⟩ := hp2; replace hp2 := Eq.symm hp2; replace hp2b := Eq.symm hp2b; subst hp2; subst hp2b
  refine r_istore_n o (lv' := [(2, .int (nI (kpt pf2 rz cntq))), (0, .ref (gad G 9)), (1, .int rz)]) dX1_goodBy_5 (by decide) rfl ?_
  refine r_iload_n o dX1_goodBy_6 0 rfl ?_
  refine r_aload_n o dX1_goodBy_7 1 rfl ?_
  refine gf_9_5 o (v := nI trq) htr mw_205 dX1_goodBy_8 ?_
  refine r_iand o dX1_goodBy_11 ?_
  refine r_topi (y := nI ((kpt pf2 rz cntq) &&& trq)) (nI_and _ _) ?_
  refine r_callSI o (As := [.int (nI ((kpt pf2 rz cntq) &&& trq))]) (st := []) (c_J6_bitCount_0f7a4 (xl X) G σ (kpt pf2 rz cntq &&& trq) (Nat.lt_of_le_of_lt Nat.and_le_left hkl)) om_J6_bitCount_0f7a4 mw_529 mw_620 (by decide) rfl rfl (Nat.le_of_ble_eq_true rfl) dX1_goodBy_12 (fun rr12 σσ12 hp12 => ?_)
  obtain ⟨hp12, hp12b⟩ := hp12; replace hp12 := Eq.symm hp12; replace hp12b := Eq.symm hp12b; subst hp12; subst hp12b
  refine r_iload_n o dX1_goodBy_15 0 rfl ?_
  refine r_aload_n o dX1_goodBy_16 1 rfl ?_
  refine gf_9_5 o (v := nI trq) htr mw_205 dX1_goodBy_17 ?_
  refine r_iconst o (v := (-1)) dX1_goodBy_20 (by decide) ?_
  refine r_ixor o dX1_goodBy_21 ?_
  refine r_iand o dX1_goodBy_22 ?_
  refine r_topi (y := nI (ndiff (kpt pf2 rz cntq) trq)) nI_ndiff ?_
  refine r_callSI o (As := [.int (nI (ndiff (kpt pf2 rz cntq) trq))]) (st := [.int (nI (popc (kpt pf2 rz cntq &&& trq)))]) (c_J6_bitCount_0f7a4 (xl X) G σ (ndiff (kpt pf2 rz cntq) trq) (ndiff_lt (nq := 20) hkl)) om_J6_bitCount_0f7a4 mw_529 mw_620 (by decide) rfl rfl (Nat.le_of_ble_eq_true rfl) dX1_goodBy_23 (fun rr23 σσ23 hp23 => ?_)
  obtain ⟨hp23, hp23b⟩ := hp23; replace hp23 := Eq.symm hp23; replace hp23b := Eq.symm hp23b; subst hp23; subst hp23b
  refine r_isub o dX1_goodBy_26 ?_
  exact r_ireturn o q dX1_goodBy_27 (⟨rfl, rfl⟩)
set_option maxHeartbeats 4000000 in
set_option maxRecDepth 100000 in
theorem c_X1_bestRule (l : Launch) (G : Gl) (σ : Sto) (cntq : Nat) (prq : Nat) (trq : Nat) (hdr : DrO σ cntq prq trq) (pf2 : Nat → Int32) (hpf : (σ 29).1 = pf2) : CtI l G yX1_bestRule cX1_bestRule 5 (some .int) 2 45 [.ref (gad G 9)] σ (fun r σ' => r = nI (bstN pf2 cntq trq 101) ∧ σ' = σ) := by
  refine CtI.of (by decide +kernel) (Nat.le_of_ble_eq_true rfl) (fun X o q => ?_)
  show WS X G 5 σ 0 [(0, .ref (gad G 9))] []
  obtain ⟨hcq, hcnt, hpr, hprl, htr, htrl⟩ := id hdr
  have hpr20 : prq < 1048576 := pow_up hprl hcnt
  refine r_iconst o (v := nI 0) dX1_bestRule_0 (by decide) ?_
  refine r_istore_n o (lv' := [(1, .int (nI 0)), (0, .ref (gad G 9))]) dX1_bestRule_1 (by decide) rfl ?_
  refine r_aload_n o dX1_bestRule_2 1 rfl ?_
  refine r_iconst o (v := nI 0) dX1_bestRule_3 (by decide) ?_
  refine r_callVI o (As := [.int (nI 0)]) (st := []) (c_X1_goodBy (xl X) G σ cntq prq trq hdr pf2 hpf (nI 0)) om_X1_goodBy mw_667 mw_668 mw_679 (by decide) rfl rfl rfl (by decide) rfl rfl (Nat.le_of_ble_eq_true rfl) dX1_bestRule_4 (fun rr4 σσ4 hp4 => ?_)
  obtain ⟨hp4, hp4b⟩ := hp4; replace hp4 := Eq.symm hp4; replace hp4b := Eq.symm hp4b; subst hp4; subst hp4b
  refine r_istore_n o (lv' := [(2, .int (gdI pf2 cntq trq (nI 0))), (1, .int (nI 0)), (0, .ref (gad G 9))]) dX1_bestRule_7 (by decide) rfl ?_
  refine r_iconst o (v := nI 1) dX1_bestRule_8 (by decide) ?_
  refine r_istore_n o (lv' := [(3, .int (nI 1)), (2, .int (gdI pf2 cntq trq (nI 0))), (1, .int (nI 0)), (0, .ref (gad G 9))]) dX1_bestRule_9 (by decide) rfl ?_
  have L10 : ∀ (n : Nat) (jq : Nat) (hkq : jq ≤ 101), 101 - jq < n → WS X G 5 σ 10 [(0, .ref (gad G 9)), (1, .int (nI (bstN pf2 cntq trq jq))), (2, .int (gdI pf2 cntq trq (nI (bstN pf2 cntq trq jq)))), (3, .int (nI (jq + 1)))] [] := by
    intro n
    induction n with
    | zero => intro jq hkq hm; exact absurd hm (Nat.not_lt_zero _)
    | succ n ih10 =>
      intro jq hkq hm
      refine r_iload_n o dX1_bestRule_10 3 rfl ?_
      refine r_bipush o (v := nI 101) dX1_bestRule_11 (by decide) ?_
      refine r_icmp_gt o (tgt := 40) dX1_bestRule_13 (by decide) (fun hb13 => ?_) (fun hb13 => ?_)
      · skip
        rw [nI_ltI (by omega) (by omega)] at hb13
        obtain rfl : jq = 101 := by omega
        refine r_iload_n o dX1_bestRule_40 1 rfl ?_
        exact r_ireturn o q dX1_bestRule_41 (⟨rfl, rfl⟩)
      · skip
        rw [nI_ltI (by omega) (by omega)] at hb13
        refine r_aload_n o dX1_bestRule_16 0 rfl ?_
        refine r_iload_n o dX1_bestRule_17 3 rfl ?_
        refine r_callVI o (As := [.int (nI (jq + 1))]) (st := []) (c_X1_goodBy (xl X) G σ cntq prq trq hdr pf2 hpf (nI (jq + 1))) om_X1_goodBy mw_667 mw_668 mw_679 (by decide) rfl rfl rfl (by decide) rfl rfl (Nat.le_of_ble_eq_true rfl) dX1_bestRule_18 (fun rr18 σσ18 hp18 => ?_)
        obtain ⟨hp18, hp18b⟩ := hp18; replace hp18 := Eq.symm hp18; replace hp18b := Eq.symm hp18b; subst hp18; subst hp18b
        refine r_istore o (lv' := [(4, .int (gdI pf2 cntq trq (nI (jq + 1)))), (0, .ref (gad G 9)), (1, .int (nI (bstN pf2 cntq trq jq))), (2, .int (gdI pf2 cntq trq (nI (bstN pf2 cntq trq jq)))), (3, .int (nI (jq + 1)))]) dX1_bestRule_21 (by decide) rfl ?_
        refine r_iload o dX1_bestRule_23 0 rfl ?_
        refine r_iload_n o dX1_bestRule_25 3 rfl ?_
        refine r_icmp_le o (tgt := 34) dX1_bestRule_26 (by decide) (fun hb26 => ?_) (fun hb26 => ?_)
        · skip
          refine r_lv (lv' := [(4, .int (gdI pf2 cntq trq (nI (jq + 1)))), (0, .ref (gad G 9)), (1, .int (nI (bstN pf2 cntq trq (jq + 1)))), (2, .int (gdI pf2 cntq trq (nI (bstN pf2 cntq trq jq)))), (3, .int (nI (jq + 1)))]) (congrArg (fun zz => ([(4, .int (gdI pf2 cntq trq (nI (jq + 1)))), (0, .ref (gad G 9)), (1, .int zz), (2, .int (gdI pf2 cntq trq (nI (bstN pf2 cntq trq jq)))), (3, .int (nI (jq + 1)))] : List (Nat × Value))) (show nI (bstN pf2 cntq trq jq) = nI (bstN pf2 cntq trq (jq + 1)) from congrArg nI (if_pos hb26).symm)) ?_
          refine r_lv (lv' := [(4, .int (gdI pf2 cntq trq (nI (jq + 1)))), (0, .ref (gad G 9)), (1, .int (nI (bstN pf2 cntq trq (jq + 1)))), (2, .int (gdI pf2 cntq trq (nI (bstN pf2 cntq trq (jq + 1))))), (3, .int (nI (jq + 1)))]) (congrArg (fun zz => ([(4, .int (gdI pf2 cntq trq (nI (jq + 1)))), (0, .ref (gad G 9)), (1, .int (nI (bstN pf2 cntq trq (jq + 1)))), (2, .int zz), (3, .int (nI (jq + 1)))] : List (Nat × Value))) (show gdI pf2 cntq trq (nI (bstN pf2 cntq trq jq)) = gdI pf2 cntq trq (nI (bstN pf2 cntq trq (jq + 1))) from congrArg (fun zq => gdI pf2 cntq trq (nI zq)) (if_pos hb26).symm)) ?_
          refine r_iinc o (v := nI (jq + 1 + 1)) (lv' := [(3, .int (nI (jq + 1 + 1))), (4, .int (gdI pf2 cntq trq (nI (jq + 1)))), (0, .ref (gad G 9)), (1, .int (nI (bstN pf2 cntq trq (jq + 1)))), (2, .int (gdI pf2 cntq trq (nI (bstN pf2 cntq trq (jq + 1)))))]) dX1_bestRule_34 4 rfl (nI_inc _) (by decide) rfl ?_
          refine r_goto o (tgt := 10) dX1_bestRule_37 (by decide) ?_
          exact r_to rfl [2, 3, 4, 0] rfl (ih10 (jq + 1) (by omega) (by omega))
        · skip
          refine r_iload o dX1_bestRule_29 0 rfl ?_
          refine r_istore_n o (lv' := [(2, .int (gdI pf2 cntq trq (nI (jq + 1)))), (4, .int (gdI pf2 cntq trq (nI (jq + 1)))), (0, .ref (gad G 9)), (1, .int (nI (bstN pf2 cntq trq jq))), (3, .int (nI (jq + 1)))]) dX1_bestRule_31 (by decide) rfl ?_
          refine r_iload_n o dX1_bestRule_32 4 rfl ?_
          refine r_istore_n o (lv' := [(1, .int (nI (jq + 1))), (2, .int (gdI pf2 cntq trq (nI (jq + 1)))), (4, .int (gdI pf2 cntq trq (nI (jq + 1)))), (0, .ref (gad G 9)), (3, .int (nI (jq + 1)))]) dX1_bestRule_33 (by decide) rfl ?_
          refine r_lv (lv' := [(1, .int (nI (bstN pf2 cntq trq (jq + 1)))), (2, .int (gdI pf2 cntq trq (nI (jq + 1)))), (4, .int (gdI pf2 cntq trq (nI (jq + 1)))), (0, .ref (gad G 9)), (3, .int (nI (jq + 1)))]) (congrArg (fun zz => ([(1, .int zz), (2, .int (gdI pf2 cntq trq (nI (jq + 1)))), (4, .int (gdI pf2 cntq trq (nI (jq + 1)))), (0, .ref (gad G 9)), (3, .int (nI (jq + 1)))] : List (Nat × Value))) (show nI (jq + 1) = nI (bstN pf2 cntq trq (jq + 1)) from congrArg nI (if_neg hb26).symm)) ?_
          refine r_lv (lv' := [(1, .int (nI (bstN pf2 cntq trq (jq + 1)))), (2, .int (gdI pf2 cntq trq (nI (bstN pf2 cntq trq (jq + 1))))), (4, .int (gdI pf2 cntq trq (nI (jq + 1)))), (0, .ref (gad G 9)), (3, .int (nI (jq + 1)))]) (congrArg (fun zz => ([(1, .int (nI (bstN pf2 cntq trq (jq + 1)))), (2, .int zz), (4, .int (gdI pf2 cntq trq (nI (jq + 1)))), (0, .ref (gad G 9)), (3, .int (nI (jq + 1)))] : List (Nat × Value))) (show gdI pf2 cntq trq (nI (jq + 1)) = gdI pf2 cntq trq (nI (bstN pf2 cntq trq (jq + 1))) from congrArg (fun zq => gdI pf2 cntq trq (nI zq)) (if_neg hb26).symm)) ?_
          refine r_iinc o (v := nI (jq + 1 + 1)) (lv' := [(3, .int (nI (jq + 1 + 1))), (1, .int (nI (bstN pf2 cntq trq (jq + 1)))), (2, .int (gdI pf2 cntq trq (nI (bstN pf2 cntq trq (jq + 1))))), (4, .int (gdI pf2 cntq trq (nI (jq + 1)))), (0, .ref (gad G 9))]) dX1_bestRule_34 4 rfl (nI_inc _) (by decide) rfl ?_
          refine r_goto o (tgt := 10) dX1_bestRule_37 (by decide) ?_
          exact r_to rfl [4, 1, 2, 0] rfl (ih10 (jq + 1) (by omega) (by omega))
  exact r_to rfl [3, 2, 1, 0] rfl (L10 _ 0 (by omega) (Nat.lt_succ_self _))
set_option maxHeartbeats 4000000 in
set_option maxRecDepth 100000 in
theorem c_X1_firstUnprinted (l : Launch) (G : Gl) (σ : Sto) (cntq : Nat) (prq : Nat) (trq : Nat) (hdr : DrO σ cntq prq trq) : CtI l G yX1_firstUnprinted cX1_firstUnprinted 4 (some .int) 1 21 [.ref (gad G 9)] σ (fun r σ' => r = nI ((fup prq cntq).1) ∧ σ' = σ) := by
  refine CtI.of (by decide +kernel) (Nat.le_of_ble_eq_true rfl) (fun X o q => ?_)
  show WS X G 4 σ 0 [(0, .ref (gad G 9))] []
  obtain ⟨hcq, hcnt, hpr, hprl, htr, htrl⟩ := id hdr
  have hpr20 : prq < 1048576 := pow_up hprl hcnt
  refine r_iconst o (v := nI 0) dX1_firstUnprinted_0 (by decide) ?_
  refine r_istore_n o (lv' := [(1, .int (nI 0)), (0, .ref (gad G 9))]) dX1_firstUnprinted_1 (by decide) rfl ?_
  refine r_iconst o (v := nI 0) dX1_firstUnprinted_2 (by decide) ?_
  refine r_istore_n o (lv' := [(2, .int (nI 0)), (1, .int (nI 0)), (0, .ref (gad G 9))]) dX1_firstUnprinted_3 (by decide) rfl ?_
  refine r_iconst o (v := nI 0) dX1_firstUnprinted_4 (by decide) ?_
  refine r_istore_n o (lv' := [(3, .int (nI 0)), (2, .int (nI 0)), (1, .int (nI 0)), (0, .ref (gad G 9))]) dX1_firstUnprinted_5 (by decide) rfl ?_
  have L6 : ∀ (n : Nat) (kq : Nat) (hkq : kq ≤ cntq), cntq - kq < n → WS X G 4 σ 6 [(0, .ref (gad G 9)), (1, .int (nI ((fup prq kq).1))), (2, .int (nI ((fup prq kq).2))), (3, .int (nI kq))] [] := by
    intro n
    induction n with
    | zero => intro kq hkq hm; exact absurd hm (Nat.not_lt_zero _)
    | succ n ih6 =>
      intro kq hkq hm
      have hfl := fup_le prq kq
      refine r_iload_n o dX1_firstUnprinted_6 3 rfl ?_
      refine r_aload_n o dX1_firstUnprinted_7 0 rfl ?_
      refine gf_9_3 o (v := nI cntq) hcq mw_200 dX1_firstUnprinted_8 ?_
      refine r_icmp_ge o (tgt := 43) dX1_firstUnprinted_11 (by decide) (fun hb11 => ?_) (fun hb11 => ?_)
      · skip
        rw [nI_leI (by omega) (by omega)] at hb11
        obtain rfl : cntq = kq := by omega
        refine r_iload_n o dX1_firstUnprinted_43 1 rfl ?_
        exact r_ireturn o q dX1_firstUnprinted_44 (⟨rfl, rfl⟩)
      · skip
        rw [nI_leI (by omega) (by omega)] at hb11
        refine r_iload_n o dX1_firstUnprinted_14 2 rfl ?_
        refine r_bipush o (v := nI 12) dX1_firstUnprinted_15 (by decide) ?_
        refine r_icmp_ge o (tgt := 43) dX1_firstUnprinted_17 (by decide) (fun hb17 => ?_) (fun hb17 => ?_)
        · skip
          rw [nI_leI (by omega) (by omega)] at hb17
          refine r_lv (lv' := [(0, .ref (gad G 9)), (1, .int (nI ((fup prq cntq).1))), (2, .int (nI ((fup prq kq).2))), (3, .int (nI kq))]) (congrArg (fun zz => ([(0, .ref (gad G 9)), (1, .int zz), (2, .int (nI ((fup prq kq).2))), (3, .int (nI kq))] : List (Nat × Value))) (show nI (fup prq kq).1 = nI (fup prq cntq).1 by rw [fup_stop hb17 hkq])) ?_
          refine r_iload_n o dX1_firstUnprinted_43 1 rfl ?_
          exact r_ireturn o q dX1_firstUnprinted_44 (⟨rfl, rfl⟩)
        · skip
          rw [nI_leI (by omega) (by omega)] at hb17
          refine r_aload_n o dX1_firstUnprinted_20 0 rfl ?_
          refine r_iload_n o dX1_firstUnprinted_21 3 rfl ?_
          refine r_callVI o (As := [.int (nI kq)]) (st := []) (c_X1_isPrinted (xl X) G σ cntq prq trq hdr kq (by omega)) om_X1_isPrinted mw_600 mw_601 mw_619 (by decide) rfl rfl rfl (by decide) rfl rfl (Nat.le_of_ble_eq_true rfl) dX1_firstUnprinted_22 (fun rr22 σσ22 hp22 => ?_)
          obtain ⟨hp22, hp22b⟩ := hp22; replace hp22 := Eq.symm hp22; replace hp22b := Eq.symm hp22b; subst hp22; subst hp22b
          refine r_if_ne o (tgt := 37) dX1_firstUnprinted_25 (by decide) (fun hb25 => ?_) (fun hb25 => ?_)
          · skip
            rw [b01_ne0] at hb25
            refine r_lv (lv' := [(0, .ref (gad G 9)), (1, .int (nI ((fup prq (kq + 1)).1))), (2, .int (nI ((fup prq kq).2))), (3, .int (nI kq))]) (congrArg (fun zz => ([(0, .ref (gad G 9)), (1, .int zz), (2, .int (nI ((fup prq kq).2))), (3, .int (nI kq))] : List (Nat × Value))) (fup_y hb25)) ?_
            refine r_lv (lv' := [(0, .ref (gad G 9)), (1, .int (nI ((fup prq (kq + 1)).1))), (2, .int (nI ((fup prq (kq + 1)).2))), (3, .int (nI kq))]) (congrArg (fun zz => ([(0, .ref (gad G 9)), (1, .int (nI ((fup prq (kq + 1)).1))), (2, .int zz), (3, .int (nI kq))] : List (Nat × Value))) (fup_y2 hb25)) ?_
            refine r_iinc o (v := nI (kq + 1)) (lv' := [(3, .int (nI (kq + 1))), (0, .ref (gad G 9)), (1, .int (nI ((fup prq (kq + 1)).1))), (2, .int (nI ((fup prq (kq + 1)).2)))]) dX1_firstUnprinted_37 3 rfl (nI_inc _) (by decide) rfl ?_
            refine r_goto o (tgt := 6) dX1_firstUnprinted_40 (by decide) ?_
            exact r_to rfl [1, 2, 3, 0] rfl (ih6 (kq + 1) (by omega) (by omega))
          · skip
            rw [b01_eq0] at hb25
            refine r_iload_n o dX1_firstUnprinted_28 1 rfl ?_
            refine r_iconst o (v := nI 1) dX1_firstUnprinted_29 (by decide) ?_
            refine r_iload_n o dX1_firstUnprinted_30 3 rfl ?_
            refine r_ishl o dX1_firstUnprinted_31 ?_
            refine r_topi (y := nI (1 * 2 ^ kq)) (nI_shl (by omega)) ?_
            refine r_ior o dX1_firstUnprinted_32 ?_
            refine r_topi (y := nI (((fup prq kq).1) ||| (1 * 2 ^ kq))) (nI_or _ _) ?_
            refine r_istore_n o (lv' := [(1, .int (nI (((fup prq kq).1) ||| (1 * 2 ^ kq)))), (0, .ref (gad G 9)), (2, .int (nI ((fup prq kq).2))), (3, .int (nI kq))]) dX1_firstUnprinted_33 (by decide) rfl ?_
            refine r_iinc o (v := nI ((fup prq kq).2 + 1)) (lv' := [(2, .int (nI ((fup prq kq).2 + 1))), (1, .int (nI (((fup prq kq).1) ||| (1 * 2 ^ kq)))), (0, .ref (gad G 9)), (3, .int (nI kq))]) dX1_firstUnprinted_34 2 rfl (nI_inc _) (by decide) rfl ?_
            refine r_lv (lv' := [(2, .int (nI ((fup prq kq).2 + 1))), (1, .int (nI ((fup prq (kq + 1)).1))), (0, .ref (gad G 9)), (3, .int (nI kq))]) (congrArg (fun zz => ([(2, .int (nI ((fup prq kq).2 + 1))), (1, .int zz), (0, .ref (gad G 9)), (3, .int (nI kq))] : List (Nat × Value))) (fup_n (kq := kq) (show (fup prq kq).2 < 12 by omega) hb25)) ?_
            refine r_lv (lv' := [(2, .int (nI ((fup prq (kq + 1)).2))), (1, .int (nI ((fup prq (kq + 1)).1))), (0, .ref (gad G 9)), (3, .int (nI kq))]) (congrArg (fun zz => ([(2, .int zz), (1, .int (nI ((fup prq (kq + 1)).1))), (0, .ref (gad G 9)), (3, .int (nI kq))] : List (Nat × Value))) (fup_n2 (kq := kq) (show (fup prq kq).2 < 12 by omega) hb25)) ?_
            refine r_iinc o (v := nI (kq + 1)) (lv' := [(3, .int (nI (kq + 1))), (2, .int (nI ((fup prq (kq + 1)).2))), (1, .int (nI ((fup prq (kq + 1)).1))), (0, .ref (gad G 9))]) dX1_firstUnprinted_37 3 rfl (nI_inc _) (by decide) rfl ?_
            refine r_goto o (tgt := 6) dX1_firstUnprinted_40 (by decide) ?_
            exact r_to rfl [3, 2, 1, 0] rfl (ih6 (kq + 1) (by omega) (by omega))
  exact r_to rfl [3, 2, 1, 0] rfl (L6 _ 0 (by omega) (Nat.lt_succ_self _))
set_option maxHeartbeats 4000000 in
set_option maxRecDepth 100000 in
theorem c_X6_believing (l : Launch) (G : Gl) (σ : Sto) (rdq : Nat → Nat) (barq : Nat) (hrd : RdO σ rdq barq) (pqq : Nat) (hpq : pqq < 1048576) (hiq2 : Nat) : CtI l G yX6_believing cX6_believing 6 (some .int) 1 20 [.ref (gad G 10), .int (nI pqq), .int (nI hiq2)] σ (fun r σ' => r = nI (blv rdq pqq hiq2 8) ∧ σ' = σ) := by
  refine CtI.of (by decide +kernel) (Nat.le_of_ble_eq_true rfl) (fun X o q => ?_)
  show WS X G 6 σ 0 [(0, .ref (gad G 10)), (1, .int (nI pqq)), (2, .int (nI hiq2))] []
  obtain ⟨hbr, hbrl, hrdv, hrdl⟩ := id hrd
  refine r_iconst o (v := nI 0) dX6_believing_0 (by decide) ?_
  refine r_istore_n o (lv' := [(3, .int (nI 0)), (0, .ref (gad G 10)), (1, .int (nI pqq)), (2, .int (nI hiq2))]) dX6_believing_1 (by decide) rfl ?_
  refine r_iconst o (v := nI 0) dX6_believing_2 (by decide) ?_
  refine r_istore o (lv' := [(4, .int (nI 0)), (3, .int (nI 0)), (0, .ref (gad G 10)), (1, .int (nI pqq)), (2, .int (nI hiq2))]) dX6_believing_3 (by decide) rfl ?_
  have L5 : ∀ (n : Nat) (kq : Nat) (hkq : kq ≤ 8), 8 - kq < n → WS X G 6 σ 5 [(0, .ref (gad G 10)), (1, .int (nI pqq)), (2, .int (nI hiq2)), (3, .int (nI (blv rdq pqq hiq2 kq))), (4, .int (nI kq))] [] := by
    intro n
    induction n with
    | zero => intro kq hkq hm; exact absurd hm (Nat.not_lt_zero _)
    | succ n ih5 =>
      intro kq hkq hm
      have hrl : rdq kq &&& pqq < 1048576 := Nat.lt_of_le_of_lt Nat.and_le_left (hrdl kq)
      have hpl1 := popc_le (rdq kq &&& pqq &&& hiq2)
      have hpl2 := popc_le (ndiff (rdq kq &&& pqq) hiq2)
      refine r_iload o dX6_believing_5 4 rfl ?_
      refine r_bipush o (v := nI 8) dX6_believing_7 (by decide) ?_
      refine r_icmp_ge o (tgt := 55) dX6_believing_9 (by decide) (fun hb9 => ?_) (fun hb9 => ?_)
      · skip
        rw [nI_leI (by omega) (by omega)] at hb9
        obtain rfl : kq = 8 := by omega
        refine r_iload_n o dX6_believing_55 3 rfl ?_
        exact r_ireturn o q dX6_believing_56 (⟨rfl, rfl⟩)
      · skip
        rw [nI_leI (by omega) (by omega)] at hb9
        refine r_aload_n o dX6_believing_12 0 rfl ?_
        refine gf_10_0 o mw_226 dX6_believing_13 ?_
        refine r_iload o dX6_believing_16 4 rfl ?_
        refine r_ia o (by decide) ia_30 (f := (σ 30).1) rfl kq rfl (by omega) (by decide) dX6_believing_18 ?_
        refine r_topi (y := nI (rdq kq)) (hrdv _ (by omega)) ?_
        refine r_iload_n o dX6_believing_19 1 rfl ?_
        refine r_iand o dX6_believing_20 ?_
        refine r_topi (y := nI ((rdq kq) &&& pqq)) (nI_and _ _) ?_
        refine r_istore o (lv' := [(5, .int (nI ((rdq kq) &&& pqq))), (0, .ref (gad G 10)), (1, .int (nI pqq)), (2, .int (nI hiq2)), (3, .int (nI (blv rdq pqq hiq2 kq))), (4, .int (nI kq))]) dX6_believing_21 (by decide) rfl ?_
        refine r_iload o dX6_believing_23 0 rfl ?_
        refine r_iload_n o dX6_believing_25 3 rfl ?_
        refine r_iand o dX6_believing_26 ?_
        refine r_topi (y := nI (((rdq kq) &&& pqq) &&& hiq2)) (nI_and _ _) ?_
        refine r_callSI o (As := [.int (nI (((rdq kq) &&& pqq) &&& hiq2))]) (st := []) (c_J6_bitCount_0f7a4 (xl X) G σ (rdq kq &&& pqq &&& hiq2) (Nat.lt_of_le_of_lt Nat.and_le_left hrl)) om_J6_bitCount_0f7a4 mw_529 mw_643 (by decide) rfl rfl (Nat.le_of_ble_eq_true rfl) dX6_believing_27 (fun rr27 σσ27 hp27 => ?_)
        obtain ⟨hp27, hp27b⟩ := hp27; replace hp27 := Eq.symm hp27; replace hp27b := Eq.symm hp27b; subst hp27; subst hp27b
        refine r_iload o dX6_believing_30 0 rfl ?_
        refine r_iload_n o dX6_believing_32 3 rfl ?_
        refine r_iconst o (v := (-1)) dX6_believing_33 (by decide) ?_
        refine r_ixor o dX6_believing_34 ?_
        refine r_iand o dX6_believing_35 ?_
        refine r_topi (y := nI (ndiff (rdq kq &&& pqq) hiq2)) nI_ndiff ?_
        refine r_callSI o (As := [.int (nI (ndiff (rdq kq &&& pqq) hiq2))]) (st := [.int (nI (popc (rdq kq &&& pqq &&& hiq2)))]) (c_J6_bitCount_0f7a4 (xl X) G σ (ndiff (rdq kq &&& pqq) hiq2) (ndiff_lt (nq := 20) hrl)) om_J6_bitCount_0f7a4 mw_529 mw_643 (by decide) rfl rfl (Nat.le_of_ble_eq_true rfl) dX6_believing_36 (fun rr36 σσ36 hp36 => ?_)
        obtain ⟨hp36, hp36b⟩ := hp36; replace hp36 := Eq.symm hp36; replace hp36b := Eq.symm hp36b; subst hp36; subst hp36b
        refine r_icmp_le o (tgt := 49) dX6_believing_39 (by decide) (fun hb39 => ?_) (fun hb39 => ?_)
        · skip
          rw [nI_leI (by omega) (by omega)] at hb39
          refine r_lv (lv' := [(5, .int (nI ((rdq kq) &&& pqq))), (0, .ref (gad G 10)), (1, .int (nI pqq)), (2, .int (nI hiq2)), (3, .int (nI (blv rdq pqq hiq2 (kq + 1)))), (4, .int (nI kq))]) (congrArg (fun zz => ([(5, .int (nI ((rdq kq) &&& pqq))), (0, .ref (gad G 10)), (1, .int (nI pqq)), (2, .int (nI hiq2)), (3, .int zz), (4, .int (nI kq))] : List (Nat × Value))) (show nI (blv rdq pqq hiq2 kq) = nI (blv rdq pqq hiq2 (kq + 1)) from congrArg nI (if_pos hb39).symm)) ?_
          refine r_iinc o (v := nI (kq + 1)) (lv' := [(4, .int (nI (kq + 1))), (5, .int (nI ((rdq kq) &&& pqq))), (0, .ref (gad G 10)), (1, .int (nI pqq)), (2, .int (nI hiq2)), (3, .int (nI (blv rdq pqq hiq2 (kq + 1))))]) dX6_believing_49 5 rfl (nI_inc _) (by decide) rfl ?_
          refine r_goto o (tgt := 5) dX6_believing_52 (by decide) ?_
          exact r_to rfl [2, 3, 4, 5, 0] rfl (ih5 (kq + 1) (by omega) (by omega))
        · skip
          rw [nI_leI (by omega) (by omega)] at hb39
          refine r_iload_n o dX6_believing_42 4 rfl ?_
          refine r_iconst o (v := nI 1) dX6_believing_43 (by decide) ?_
          refine r_iload o dX6_believing_44 5 rfl ?_
          refine r_ishl o dX6_believing_46 ?_
          refine r_topi (y := nI (1 * 2 ^ kq)) (nI_shl (by omega)) ?_
          refine r_ior o dX6_believing_47 ?_
          refine r_topi (y := nI ((blv rdq pqq hiq2 kq) ||| (1 * 2 ^ kq))) (nI_or _ _) ?_
          refine r_istore_n o (lv' := [(3, .int (nI ((blv rdq pqq hiq2 kq) ||| (1 * 2 ^ kq)))), (5, .int (nI ((rdq kq) &&& pqq))), (0, .ref (gad G 10)), (1, .int (nI pqq)), (2, .int (nI hiq2)), (4, .int (nI kq))]) dX6_believing_48 (by decide) rfl ?_
          refine r_lv (lv' := [(3, .int (nI (blv rdq pqq hiq2 (kq + 1)))), (5, .int (nI ((rdq kq) &&& pqq))), (0, .ref (gad G 10)), (1, .int (nI pqq)), (2, .int (nI hiq2)), (4, .int (nI kq))]) (congrArg (fun zz => ([(3, .int zz), (5, .int (nI ((rdq kq) &&& pqq))), (0, .ref (gad G 10)), (1, .int (nI pqq)), (2, .int (nI hiq2)), (4, .int (nI kq))] : List (Nat × Value))) (show nI (blv rdq pqq hiq2 kq ||| 1 * 2 ^ kq) = nI (blv rdq pqq hiq2 (kq + 1)) from congrArg nI (if_neg hb39).symm)) ?_
          refine r_iinc o (v := nI (kq + 1)) (lv' := [(4, .int (nI (kq + 1))), (3, .int (nI (blv rdq pqq hiq2 (kq + 1)))), (5, .int (nI ((rdq kq) &&& pqq))), (0, .ref (gad G 10)), (1, .int (nI pqq)), (2, .int (nI hiq2))]) dX6_believing_49 5 rfl (nI_inc _) (by decide) rfl ?_
          refine r_goto o (tgt := 5) dX6_believing_52 (by decide) ?_
          exact r_to rfl [3, 4, 5, 1, 0] rfl (ih5 (kq + 1) (by omega) (by omega))
  exact r_to rfl [2, 3, 4, 1, 0] rfl (L5 _ 0 (by omega) (Nat.lt_succ_self _))
set_option maxHeartbeats 4000000 in
set_option maxRecDepth 100000 in
theorem c_X6_fewestToTurn (l : Launch) (G : Gl) (σ : Sto) (rdq : Nat → Nat) (barq : Nat) (hrd : RdO σ rdq barq) (cntq : Nat) (prq : Nat) (trq : Nat) (hdr : DrO σ cntq prq trq) (pf2 : Nat → Int32) (hpf : (σ 29).1 = pf2) (menq : Nat) (hmen : menq < 256) : CtI l G yX6_fewestToTurn cX6_fewestToTurn 10 (some .int) 2 45 [.ref (gad G 10), .int (nI menq), .ref (gad G 9)] σ (fun r σ' => r = opI (fwS rdq prq (kpt pf2 (nI barq) cntq) menq (fup prq cntq).1 (2 ^ popc (fup prq cntq).1)).1 ∧ σ' = σ) := by
  refine CtI.of (by decide +kernel) (Nat.le_of_ble_eq_true rfl) (fun X o q => ?_)
  show WS X G 10 σ 0 [(0, .ref (gad G 10)), (1, .int (nI menq)), (2, .ref (gad G 9))] []
  obtain ⟨hbr, hbrl, hrdv, hrdl⟩ := id hrd
  obtain ⟨hcq, hcnt, hpr, hprl, htr, htrl⟩ := id hdr
  have hpr20 : prq < 1048576 := pow_up hprl hcnt
  obtain ⟨hiq2, hhi⟩ : ∃ zq, zq = kpt pf2 (nI barq) cntq := ⟨_, rfl⟩
  obtain ⟨oq, hoq⟩ : ∃ zq, zq = (fup prq cntq).1 := ⟨_, rfl⟩
  have hol : oq < 1048576 := by rw [hoq]; exact pow_up (fup_lt prq cntq) hcnt
  have hpo := popc_le oq
  have hw := nI_wpow hpo
  refine r_aload_n o dX6_fewestToTurn_0 2 rfl ?_
  refine r_aload_n o dX6_fewestToTurn_1 0 rfl ?_
  refine gf_10_1 o (v := nI barq) hbr mw_228 dX6_fewestToTurn_2 ?_
  refine r_callVI o (As := [.int (nI barq)]) (st := []) (c_X1_kept (xl X) G σ cntq prq trq hdr pf2 hpf (nI barq)) om_X1_kept mw_636 mw_637 mw_652 (by decide) rfl rfl rfl (by decide) rfl rfl (Nat.le_of_ble_eq_true rfl) dX6_fewestToTurn_5 (fun rr5 σσ5 hp5 => ?_)
  obtain ⟨hp5, hp5b⟩ := hp5; replace hp5 := Eq.symm hp5; replace hp5b := Eq.symm hp5b; subst hp5; subst hp5b
  refine r_topi (y := nI hiq2) (by rw [hhi]) ?_
  refine r_istore_n o (lv' := [(3, .int (nI hiq2)), (0, .ref (gad G 10)), (1, .int (nI menq)), (2, .ref (gad G 9))]) dX6_fewestToTurn_8 (by decide) rfl ?_
  refine r_aload_n o dX6_fewestToTurn_9 3 rfl ?_
  refine r_callVI o (As := []) (st := []) (c_X1_firstUnprinted (xl X) G σ cntq prq trq hdr) om_X1_firstUnprinted mw_654 mw_655 mw_653 (by decide) rfl rfl rfl (by decide) rfl rfl (Nat.le_of_ble_eq_true rfl) dX6_fewestToTurn_10 (fun rr10 σσ10 hp10 => ?_)
  obtain ⟨hp10, hp10b⟩ := hp10; replace hp10 := Eq.symm hp10; replace hp10b := Eq.symm hp10b; subst hp10; subst hp10b
  refine r_topi (y := nI oq) (by rw [hoq]) ?_
  refine r_istore o (lv' := [(4, .int (nI oq)), (3, .int (nI hiq2)), (0, .ref (gad G 10)), (1, .int (nI menq)), (2, .ref (gad G 9))]) dX6_fewestToTurn_13 (by decide) rfl ?_
  refine r_iconst o (v := nI 1) dX6_fewestToTurn_15 (by decide) ?_
  refine r_iload o dX6_fewestToTurn_16 0 rfl ?_
  refine r_callSI o (As := [.int (nI oq)]) (st := [.int (nI 1)]) (c_J6_bitCount_0f7a4 (xl X) G σ oq hol) om_J6_bitCount_0f7a4 mw_529 mw_643 (by decide) rfl rfl (Nat.le_of_ble_eq_true rfl) dX6_fewestToTurn_18 (fun rr18 σσ18 hp18 => ?_)
  obtain ⟨hp18, hp18b⟩ := hp18; replace hp18 := Eq.symm hp18; replace hp18b := Eq.symm hp18b; subst hp18; subst hp18b
  refine r_ishl o dX6_fewestToTurn_21 ?_
  refine r_topi (y := nI (1 * 2 ^ (popc oq))) (nI_shl (by omega)) ?_
  refine r_topi (y := nI (2 ^ popc oq)) (by rw [Nat.one_mul]) ?_
  refine r_istore o (lv' := [(5, .int (nI (2 ^ popc oq))), (4, .int (nI oq)), (3, .int (nI hiq2)), (0, .ref (gad G 10)), (1, .int (nI menq)), (2, .ref (gad G 9))]) dX6_fewestToTurn_22 (by decide) rfl ?_
  refine r_bipush o (v := (-6)) dX6_fewestToTurn_24 (by decide) ?_
  refine r_istore o (lv' := [(6, .int (-6)), (5, .int (nI (2 ^ popc oq))), (4, .int (nI oq)), (3, .int (nI hiq2)), (0, .ref (gad G 10)), (1, .int (nI menq)), (2, .ref (gad G 9))]) dX6_fewestToTurn_26 (by decide) rfl ?_
  refine r_iconst o (v := nI 0) dX6_fewestToTurn_28 (by decide) ?_
  refine r_istore o (lv' := [(7, .int (nI 0)), (6, .int (-6)), (5, .int (nI (2 ^ popc oq))), (4, .int (nI oq)), (3, .int (nI hiq2)), (0, .ref (gad G 10)), (1, .int (nI menq)), (2, .ref (gad G 9))]) dX6_fewestToTurn_29 (by decide) rfl ?_
  refine r_iconst o (v := nI 0) dX6_fewestToTurn_31 (by decide) ?_
  refine r_istore o (lv' := [(8, .int (nI 0)), (7, .int (nI 0)), (6, .int (-6)), (5, .int (nI (2 ^ popc oq))), (4, .int (nI oq)), (3, .int (nI hiq2)), (0, .ref (gad G 10)), (1, .int (nI menq)), (2, .ref (gad G 9))]) dX6_fewestToTurn_32 (by decide) rfl ?_
  have L34 : ∀ (n : Nat) (kq : Nat) (hkq : kq ≤ 2 ^ popc oq), 2 ^ popc oq - kq < n → WS X G 10 σ 34 [(0, .ref (gad G 10)), (1, .int (nI menq)), (2, .ref (gad G 9)), (3, .int (nI hiq2)), (4, .int (nI oq)), (5, .int (nI (2 ^ popc oq))), (6, .int (opI (fwS rdq prq hiq2 menq oq kq).1)), (7, .int (nI ((fwS rdq prq hiq2 menq oq kq).2))), (8, .int (nI kq))] [] := by
    intro n
    induction n with
    | zero => intro kq hkq hm; exact absurd hm (Nat.not_lt_zero _)
    | succ n ih34 =>
      intro kq hkq hm
      have hsl := fwS_s (rdq := rdq) (prq := prq) (hiq := hiq2) (menq := menq) hol kq
      have hps := popc_le (fwS rdq prq hiq2 menq oq kq).2
      refine r_iload o dX6_fewestToTurn_34 8 rfl ?_
      refine r_iload o dX6_fewestToTurn_36 5 rfl ?_
      refine r_icmp_ge o (tgt := 110) dX6_fewestToTurn_38 (by decide) (fun hb38 => ?_) (fun hb38 => ?_)
      · skip
        rw [nI_leI (by omega) (by omega)] at hb38
        obtain rfl : kq = 2 ^ popc oq := by omega
        refine r_iload o dX6_fewestToTurn_110 6 rfl ?_
        exact r_ireturn o q dX6_fewestToTurn_112 (⟨by rw [hhi, hoq], rfl⟩)
      · skip
        rw [nI_leI (by omega) (by omega)] at hb38
        rcases hfw : (fwS rdq prq hiq2 menq oq kq).1 with _ | xq
        · skip
          refine r_lv (lv' := [(0, .ref (gad G 10)), (1, .int (nI menq)), (2, .ref (gad G 9)), (3, .int (nI hiq2)), (4, .int (nI oq)), (5, .int (nI (2 ^ popc oq))), (6, .int (-6)), (7, .int (nI ((fwS rdq prq hiq2 menq oq kq).2))), (8, .int (nI kq))]) (congrArg (fun zz => ([(0, .ref (gad G 10)), (1, .int (nI menq)), (2, .ref (gad G 9)), (3, .int (nI hiq2)), (4, .int (nI oq)), (5, .int (nI (2 ^ popc oq))), (6, .int zz), (7, .int (nI ((fwS rdq prq hiq2 menq oq kq).2))), (8, .int (nI kq))] : List (Nat × Value))) (show opI none = -6 from rfl)) ?_
          refine r_iload o dX6_fewestToTurn_41 6 rfl ?_
          refine r_bipush o (v := (-6)) dX6_fewestToTurn_43 (by decide) ?_
          refine r_icmp_eq o (tgt := 61) dX6_fewestToTurn_45 (by decide) (fun hb45 => ?_) (fun hb45 => ?_)
          · skip
            refine r_iconst o (v := nI 1) dX6_fewestToTurn_61 (by decide) ?_
            refine r_goto o (tgt := 66) dX6_fewestToTurn_62 (by decide) ?_
            refine r_istore o (lv' := [(9, .int (nI 1)), (0, .ref (gad G 10)), (1, .int (nI menq)), (2, .ref (gad G 9)), (3, .int (nI hiq2)), (4, .int (nI oq)), (5, .int (nI (2 ^ popc oq))), (6, .int (-6)), (7, .int (nI ((fwS rdq prq hiq2 menq oq kq).2))), (8, .int (nI kq))]) dX6_fewestToTurn_66 (by decide) rfl ?_
            refine r_iload o dX6_fewestToTurn_68 0 rfl ?_
            refine r_if_eq o (tgt := 94) dX6_fewestToTurn_70 (by decide) (fun hb70 => ?_) (fun hb70 => ?_)
            · exact absurd hb70 (by decide)
            · skip
              refine r_aload_n o dX6_fewestToTurn_73 1 rfl ?_
              refine r_aload_n o dX6_fewestToTurn_74 3 rfl ?_
              refine gfN_9_4 o (v := nI prq) hpr mw_203 dX6_fewestToTurn_75 ?_
              refine r_iload o dX6_fewestToTurn_78 8 rfl ?_
              refine r_ior o dX6_fewestToTurn_80 ?_
              refine r_topi (y := nI (prq ||| ((fwS rdq prq hiq2 menq oq kq).2))) (nI_or _ _) ?_
              refine r_iload_n o dX6_fewestToTurn_81 4 rfl ?_
              refine r_callVI o (As := [.int (nI (prq ||| ((fwS rdq prq hiq2 menq oq kq).2))), .int (nI hiq2)]) (st := []) (c_X6_believing (xl X) G σ rdq barq hrd (prq ||| (fwS rdq prq hiq2 menq oq kq).2) (or_lt (nq := 20) hpr20 hsl) hiq2) om_X6_believing mw_640 mw_641 mw_657 (by decide) rfl rfl rfl (by decide) rfl rfl (Nat.le_of_ble_eq_true rfl) dX6_fewestToTurn_82 (fun rr82 σσ82 hp82 => ?_)
              obtain ⟨hp82, hp82b⟩ := hp82; replace hp82 := Eq.symm hp82; replace hp82b := Eq.symm hp82b; subst hp82; subst hp82b
              refine r_iload_n o dX6_fewestToTurn_85 2 rfl ?_
              refine r_iand o dX6_fewestToTurn_86 ?_
              refine r_topi (y := nI ((blv rdq (prq ||| (fwS rdq prq hiq2 menq oq kq).2) hiq2 8) &&& menq)) (nI_and _ _) ?_
              have hbl : blv rdq (prq ||| (fwS rdq prq hiq2 menq oq kq).2) hiq2 8 &&& menq < 256 := Nat.lt_of_le_of_lt Nat.and_le_left (blv_lt _ _ _ 8)
              refine r_if_ne o (tgt := 94) dX6_fewestToTurn_87 (by decide) (fun hb87 => ?_) (fun hb87 => ?_)
              · skip
                rw [nI_eq0 (by omega)] at hb87
                refine r_lv (lv' := [(9, .int (nI 1)), (0, .ref (gad G 10)), (1, .int (nI menq)), (2, .ref (gad G 9)), (3, .int (nI hiq2)), (4, .int (nI oq)), (5, .int (nI (2 ^ popc oq))), (6, .int (opI (fwS rdq prq hiq2 menq oq (kq + 1)).1)), (7, .int (nI ((fwS rdq prq hiq2 menq oq kq).2))), (8, .int (nI kq))]) (congrArg (fun zz => ([(9, .int (nI 1)), (0, .ref (gad G 10)), (1, .int (nI menq)), (2, .ref (gad G 9)), (3, .int (nI hiq2)), (4, .int (nI oq)), (5, .int (nI (2 ^ popc oq))), (6, .int zz), (7, .int (nI ((fwS rdq prq hiq2 menq oq kq).2))), (8, .int (nI kq))] : List (Nat × Value))) (fw_B6 hfw hb87)) ?_
                refine r_iload o dX6_fewestToTurn_94 8 rfl ?_
                refine r_iload o dX6_fewestToTurn_96 5 rfl ?_
                refine r_isub o dX6_fewestToTurn_98 ?_
                refine r_iload o dX6_fewestToTurn_99 5 rfl ?_
                refine r_iand o dX6_fewestToTurn_101 ?_
                refine r_topi (y := nI (nxs oq (fwS rdq prq hiq2 menq oq kq).2)) (nI_nxs hol hsl) ?_
                refine r_istore o (lv' := [(7, .int (nI (nxs oq (fwS rdq prq hiq2 menq oq kq).2))), (9, .int (nI 1)), (0, .ref (gad G 10)), (1, .int (nI menq)), (2, .ref (gad G 9)), (3, .int (nI hiq2)), (4, .int (nI oq)), (5, .int (nI (2 ^ popc oq))), (6, .int (opI (fwS rdq prq hiq2 menq oq (kq + 1)).1)), (8, .int (nI kq))]) dX6_fewestToTurn_102 (by decide) rfl ?_
                refine r_iinc o (v := nI (kq + 1)) (lv' := [(8, .int (nI (kq + 1))), (7, .int (nI (nxs oq (fwS rdq prq hiq2 menq oq kq).2))), (9, .int (nI 1)), (0, .ref (gad G 10)), (1, .int (nI menq)), (2, .ref (gad G 9)), (3, .int (nI hiq2)), (4, .int (nI oq)), (5, .int (nI (2 ^ popc oq))), (6, .int (opI (fwS rdq prq hiq2 menq oq (kq + 1)).1))]) dX6_fewestToTurn_104 9 rfl (nI_inc _) (by decide) rfl ?_
                refine r_goto o (tgt := 34) dX6_fewestToTurn_107 (by decide) ?_
                exact r_to rfl [3, 4, 5, 6, 7, 8, 9, 1, 0] rfl (ih34 (kq + 1) (by omega) (by omega))
              · skip
                rw [nI_eq0 (by omega)] at hb87
                refine r_iload o dX6_fewestToTurn_90 8 rfl ?_
                refine r_istore o (lv' := [(6, .int (nI ((fwS rdq prq hiq2 menq oq kq).2))), (9, .int (nI 1)), (0, .ref (gad G 10)), (1, .int (nI menq)), (2, .ref (gad G 9)), (3, .int (nI hiq2)), (4, .int (nI oq)), (5, .int (nI (2 ^ popc oq))), (7, .int (nI ((fwS rdq prq hiq2 menq oq kq).2))), (8, .int (nI kq))]) dX6_fewestToTurn_92 (by decide) rfl ?_
                refine r_lv (lv' := [(6, .int (opI (fwS rdq prq hiq2 menq oq (kq + 1)).1)), (9, .int (nI 1)), (0, .ref (gad G 10)), (1, .int (nI menq)), (2, .ref (gad G 9)), (3, .int (nI hiq2)), (4, .int (nI oq)), (5, .int (nI (2 ^ popc oq))), (7, .int (nI ((fwS rdq prq hiq2 menq oq kq).2))), (8, .int (nI kq))]) (congrArg (fun zz => ([(6, .int zz), (9, .int (nI 1)), (0, .ref (gad G 10)), (1, .int (nI menq)), (2, .ref (gad G 9)), (3, .int (nI hiq2)), (4, .int (nI oq)), (5, .int (nI (2 ^ popc oq))), (7, .int (nI ((fwS rdq prq hiq2 menq oq kq).2))), (8, .int (nI kq))] : List (Nat × Value))) (fw_C6 hfw hb87)) ?_
                refine r_iload o dX6_fewestToTurn_94 8 rfl ?_
                refine r_iload o dX6_fewestToTurn_96 6 rfl ?_
                refine r_isub o dX6_fewestToTurn_98 ?_
                refine r_iload o dX6_fewestToTurn_99 6 rfl ?_
                refine r_iand o dX6_fewestToTurn_101 ?_
                refine r_topi (y := nI (nxs oq (fwS rdq prq hiq2 menq oq kq).2)) (nI_nxs hol hsl) ?_
                refine r_istore o (lv' := [(7, .int (nI (nxs oq (fwS rdq prq hiq2 menq oq kq).2))), (6, .int (opI (fwS rdq prq hiq2 menq oq (kq + 1)).1)), (9, .int (nI 1)), (0, .ref (gad G 10)), (1, .int (nI menq)), (2, .ref (gad G 9)), (3, .int (nI hiq2)), (4, .int (nI oq)), (5, .int (nI (2 ^ popc oq))), (8, .int (nI kq))]) dX6_fewestToTurn_102 (by decide) rfl ?_
                refine r_iinc o (v := nI (kq + 1)) (lv' := [(8, .int (nI (kq + 1))), (7, .int (nI (nxs oq (fwS rdq prq hiq2 menq oq kq).2))), (6, .int (opI (fwS rdq prq hiq2 menq oq (kq + 1)).1)), (9, .int (nI 1)), (0, .ref (gad G 10)), (1, .int (nI menq)), (2, .ref (gad G 9)), (3, .int (nI hiq2)), (4, .int (nI oq)), (5, .int (nI (2 ^ popc oq)))]) dX6_fewestToTurn_104 9 rfl (nI_inc _) (by decide) rfl ?_
                refine r_goto o (tgt := 34) dX6_fewestToTurn_107 (by decide) ?_
                exact r_to rfl [4, 5, 6, 7, 8, 9, 2, 1, 0] rfl (ih34 (kq + 1) (by omega) (by omega))
          · skip
            exact absurd rfl hb45
        · skip
          have hxl := fwS_f hol kq xq hfw
          have hpx := popc_le xq
          refine r_lv (lv' := [(0, .ref (gad G 10)), (1, .int (nI menq)), (2, .ref (gad G 9)), (3, .int (nI hiq2)), (4, .int (nI oq)), (5, .int (nI (2 ^ popc oq))), (6, .int (nI xq)), (7, .int (nI ((fwS rdq prq hiq2 menq oq kq).2))), (8, .int (nI kq))]) (congrArg (fun zz => ([(0, .ref (gad G 10)), (1, .int (nI menq)), (2, .ref (gad G 9)), (3, .int (nI hiq2)), (4, .int (nI oq)), (5, .int (nI (2 ^ popc oq))), (6, .int zz), (7, .int (nI ((fwS rdq prq hiq2 menq oq kq).2))), (8, .int (nI kq))] : List (Nat × Value))) (show opI (some xq) = nI xq from rfl)) ?_
          refine r_iload o dX6_fewestToTurn_41 6 rfl ?_
          refine r_bipush o (v := (-6)) dX6_fewestToTurn_43 (by decide) ?_
          refine r_icmp_eq o (tgt := 61) dX6_fewestToTurn_45 (by decide) (fun hb45 => ?_) (fun hb45 => ?_)
          · skip
            exact absurd hb45 (nI_ne6 (by omega))
          · skip
            refine r_iload o dX6_fewestToTurn_48 7 rfl ?_
            refine r_callSI o (As := [.int (nI ((fwS rdq prq hiq2 menq oq kq).2))]) (st := []) (c_J6_bitCount_0f7a4 (xl X) G σ ((fwS rdq prq hiq2 menq oq kq).2) hsl) om_J6_bitCount_0f7a4 mw_529 mw_643 (by decide) rfl rfl (Nat.le_of_ble_eq_true rfl) dX6_fewestToTurn_50 (fun rr50 σσ50 hp50 => ?_)
            obtain ⟨hp50, hp50b⟩ := hp50; replace hp50 := Eq.symm hp50; replace hp50b := Eq.symm hp50b; subst hp50; subst hp50b
            refine r_iload o dX6_fewestToTurn_53 6 rfl ?_
            refine r_callSI o (As := [.int (nI xq)]) (st := [.int (nI (popc ((fwS rdq prq hiq2 menq oq kq).2)))]) (c_J6_bitCount_0f7a4 (xl X) G σ xq hxl) om_J6_bitCount_0f7a4 mw_529 mw_643 (by decide) rfl rfl (Nat.le_of_ble_eq_true rfl) dX6_fewestToTurn_55 (fun rr55 σσ55 hp55 => ?_)
            obtain ⟨hp55, hp55b⟩ := hp55; replace hp55 := Eq.symm hp55; replace hp55b := Eq.symm hp55b; subst hp55; subst hp55b
            refine r_icmp_ge o (tgt := 65) dX6_fewestToTurn_58 (by decide) (fun hb58 => ?_) (fun hb58 => ?_)
            · skip
              rw [nI_leI (by omega) (by omega)] at hb58
              refine r_iconst o (v := nI 0) dX6_fewestToTurn_65 (by decide) ?_
              refine r_istore o (lv' := [(9, .int (nI 0)), (0, .ref (gad G 10)), (1, .int (nI menq)), (2, .ref (gad G 9)), (3, .int (nI hiq2)), (4, .int (nI oq)), (5, .int (nI (2 ^ popc oq))), (6, .int (nI xq)), (7, .int (nI ((fwS rdq prq hiq2 menq oq kq).2))), (8, .int (nI kq))]) dX6_fewestToTurn_66 (by decide) rfl ?_
              refine r_iload o dX6_fewestToTurn_68 0 rfl ?_
              refine r_if_eq o (tgt := 94) dX6_fewestToTurn_70 (by decide) (fun hb70 => ?_) (fun hb70 => ?_)
              · skip
                refine r_lv (lv' := [(9, .int (nI 0)), (0, .ref (gad G 10)), (1, .int (nI menq)), (2, .ref (gad G 9)), (3, .int (nI hiq2)), (4, .int (nI oq)), (5, .int (nI (2 ^ popc oq))), (6, .int (opI (fwS rdq prq hiq2 menq oq (kq + 1)).1)), (7, .int (nI ((fwS rdq prq hiq2 menq oq kq).2))), (8, .int (nI kq))]) (congrArg (fun zz => ([(9, .int (nI 0)), (0, .ref (gad G 10)), (1, .int (nI menq)), (2, .ref (gad G 9)), (3, .int (nI hiq2)), (4, .int (nI oq)), (5, .int (nI (2 ^ popc oq))), (6, .int zz), (7, .int (nI ((fwS rdq prq hiq2 menq oq kq).2))), (8, .int (nI kq))] : List (Nat × Value))) (fw_A hfw hb58)) ?_
                refine r_iload o dX6_fewestToTurn_94 8 rfl ?_
                refine r_iload o dX6_fewestToTurn_96 5 rfl ?_
                refine r_isub o dX6_fewestToTurn_98 ?_
                refine r_iload o dX6_fewestToTurn_99 5 rfl ?_
                refine r_iand o dX6_fewestToTurn_101 ?_
                refine r_topi (y := nI (nxs oq (fwS rdq prq hiq2 menq oq kq).2)) (nI_nxs hol hsl) ?_
                refine r_istore o (lv' := [(7, .int (nI (nxs oq (fwS rdq prq hiq2 menq oq kq).2))), (9, .int (nI 0)), (0, .ref (gad G 10)), (1, .int (nI menq)), (2, .ref (gad G 9)), (3, .int (nI hiq2)), (4, .int (nI oq)), (5, .int (nI (2 ^ popc oq))), (6, .int (opI (fwS rdq prq hiq2 menq oq (kq + 1)).1)), (8, .int (nI kq))]) dX6_fewestToTurn_102 (by decide) rfl ?_
                refine r_iinc o (v := nI (kq + 1)) (lv' := [(8, .int (nI (kq + 1))), (7, .int (nI (nxs oq (fwS rdq prq hiq2 menq oq kq).2))), (9, .int (nI 0)), (0, .ref (gad G 10)), (1, .int (nI menq)), (2, .ref (gad G 9)), (3, .int (nI hiq2)), (4, .int (nI oq)), (5, .int (nI (2 ^ popc oq))), (6, .int (opI (fwS rdq prq hiq2 menq oq (kq + 1)).1))]) dX6_fewestToTurn_104 9 rfl (nI_inc _) (by decide) rfl ?_
                refine r_goto o (tgt := 34) dX6_fewestToTurn_107 (by decide) ?_
                exact r_to rfl [3, 4, 5, 6, 7, 8, 9, 1, 0] rfl (ih34 (kq + 1) (by omega) (by omega))
              · exact absurd hb70 (by decide)
            · skip
              rw [nI_leI (by omega) (by omega)] at hb58
              refine r_iconst o (v := nI 1) dX6_fewestToTurn_61 (by decide) ?_
              refine r_goto o (tgt := 66) dX6_fewestToTurn_62 (by decide) ?_
              refine r_istore o (lv' := [(9, .int (nI 1)), (0, .ref (gad G 10)), (1, .int (nI menq)), (2, .ref (gad G 9)), (3, .int (nI hiq2)), (4, .int (nI oq)), (5, .int (nI (2 ^ popc oq))), (6, .int (nI xq)), (7, .int (nI ((fwS rdq prq hiq2 menq oq kq).2))), (8, .int (nI kq))]) dX6_fewestToTurn_66 (by decide) rfl ?_
              refine r_iload o dX6_fewestToTurn_68 0 rfl ?_
              refine r_if_eq o (tgt := 94) dX6_fewestToTurn_70 (by decide) (fun hb70 => ?_) (fun hb70 => ?_)
              · exact absurd hb70 (by decide)
              · skip
                refine r_aload_n o dX6_fewestToTurn_73 1 rfl ?_
                refine r_aload_n o dX6_fewestToTurn_74 3 rfl ?_
                refine gfN_9_4 o (v := nI prq) hpr mw_203 dX6_fewestToTurn_75 ?_
                refine r_iload o dX6_fewestToTurn_78 8 rfl ?_
                refine r_ior o dX6_fewestToTurn_80 ?_
                refine r_topi (y := nI (prq ||| ((fwS rdq prq hiq2 menq oq kq).2))) (nI_or _ _) ?_
                refine r_iload_n o dX6_fewestToTurn_81 4 rfl ?_
                refine r_callVI o (As := [.int (nI (prq ||| ((fwS rdq prq hiq2 menq oq kq).2))), .int (nI hiq2)]) (st := []) (c_X6_believing (xl X) G σ rdq barq hrd (prq ||| (fwS rdq prq hiq2 menq oq kq).2) (or_lt (nq := 20) hpr20 hsl) hiq2) om_X6_believing mw_640 mw_641 mw_657 (by decide) rfl rfl rfl (by decide) rfl rfl (Nat.le_of_ble_eq_true rfl) dX6_fewestToTurn_82 (fun rr82 σσ82 hp82 => ?_)
                obtain ⟨hp82, hp82b⟩ := hp82; replace hp82 := Eq.symm hp82; replace hp82b := Eq.symm hp82b; subst hp82; subst hp82b
                refine r_iload_n o dX6_fewestToTurn_85 2 rfl ?_
                refine r_iand o dX6_fewestToTurn_86 ?_
                refine r_topi (y := nI ((blv rdq (prq ||| (fwS rdq prq hiq2 menq oq kq).2) hiq2 8) &&& menq)) (nI_and _ _) ?_
                have hbl : blv rdq (prq ||| (fwS rdq prq hiq2 menq oq kq).2) hiq2 8 &&& menq < 256 := Nat.lt_of_le_of_lt Nat.and_le_left (blv_lt _ _ _ 8)
                refine r_if_ne o (tgt := 94) dX6_fewestToTurn_87 (by decide) (fun hb87 => ?_) (fun hb87 => ?_)
                · skip
                  rw [nI_eq0 (by omega)] at hb87
                  refine r_lv (lv' := [(9, .int (nI 1)), (0, .ref (gad G 10)), (1, .int (nI menq)), (2, .ref (gad G 9)), (3, .int (nI hiq2)), (4, .int (nI oq)), (5, .int (nI (2 ^ popc oq))), (6, .int (opI (fwS rdq prq hiq2 menq oq (kq + 1)).1)), (7, .int (nI ((fwS rdq prq hiq2 menq oq kq).2))), (8, .int (nI kq))]) (congrArg (fun zz => ([(9, .int (nI 1)), (0, .ref (gad G 10)), (1, .int (nI menq)), (2, .ref (gad G 9)), (3, .int (nI hiq2)), (4, .int (nI oq)), (5, .int (nI (2 ^ popc oq))), (6, .int zz), (7, .int (nI ((fwS rdq prq hiq2 menq oq kq).2))), (8, .int (nI kq))] : List (Nat × Value))) (fw_BN hfw hb87)) ?_
                  refine r_iload o dX6_fewestToTurn_94 8 rfl ?_
                  refine r_iload o dX6_fewestToTurn_96 5 rfl ?_
                  refine r_isub o dX6_fewestToTurn_98 ?_
                  refine r_iload o dX6_fewestToTurn_99 5 rfl ?_
                  refine r_iand o dX6_fewestToTurn_101 ?_
                  refine r_topi (y := nI (nxs oq (fwS rdq prq hiq2 menq oq kq).2)) (nI_nxs hol hsl) ?_
                  refine r_istore o (lv' := [(7, .int (nI (nxs oq (fwS rdq prq hiq2 menq oq kq).2))), (9, .int (nI 1)), (0, .ref (gad G 10)), (1, .int (nI menq)), (2, .ref (gad G 9)), (3, .int (nI hiq2)), (4, .int (nI oq)), (5, .int (nI (2 ^ popc oq))), (6, .int (opI (fwS rdq prq hiq2 menq oq (kq + 1)).1)), (8, .int (nI kq))]) dX6_fewestToTurn_102 (by decide) rfl ?_
                  refine r_iinc o (v := nI (kq + 1)) (lv' := [(8, .int (nI (kq + 1))), (7, .int (nI (nxs oq (fwS rdq prq hiq2 menq oq kq).2))), (9, .int (nI 1)), (0, .ref (gad G 10)), (1, .int (nI menq)), (2, .ref (gad G 9)), (3, .int (nI hiq2)), (4, .int (nI oq)), (5, .int (nI (2 ^ popc oq))), (6, .int (opI (fwS rdq prq hiq2 menq oq (kq + 1)).1))]) dX6_fewestToTurn_104 9 rfl (nI_inc _) (by decide) rfl ?_
                  refine r_goto o (tgt := 34) dX6_fewestToTurn_107 (by decide) ?_
                  exact r_to rfl [3, 4, 5, 6, 7, 8, 9, 1, 0] rfl (ih34 (kq + 1) (by omega) (by omega))
                · skip
                  rw [nI_eq0 (by omega)] at hb87
                  refine r_iload o dX6_fewestToTurn_90 8 rfl ?_
                  refine r_istore o (lv' := [(6, .int (nI ((fwS rdq prq hiq2 menq oq kq).2))), (9, .int (nI 1)), (0, .ref (gad G 10)), (1, .int (nI menq)), (2, .ref (gad G 9)), (3, .int (nI hiq2)), (4, .int (nI oq)), (5, .int (nI (2 ^ popc oq))), (7, .int (nI ((fwS rdq prq hiq2 menq oq kq).2))), (8, .int (nI kq))]) dX6_fewestToTurn_92 (by decide) rfl ?_
                  refine r_lv (lv' := [(6, .int (opI (fwS rdq prq hiq2 menq oq (kq + 1)).1)), (9, .int (nI 1)), (0, .ref (gad G 10)), (1, .int (nI menq)), (2, .ref (gad G 9)), (3, .int (nI hiq2)), (4, .int (nI oq)), (5, .int (nI (2 ^ popc oq))), (7, .int (nI ((fwS rdq prq hiq2 menq oq kq).2))), (8, .int (nI kq))]) (congrArg (fun zz => ([(6, .int zz), (9, .int (nI 1)), (0, .ref (gad G 10)), (1, .int (nI menq)), (2, .ref (gad G 9)), (3, .int (nI hiq2)), (4, .int (nI oq)), (5, .int (nI (2 ^ popc oq))), (7, .int (nI ((fwS rdq prq hiq2 menq oq kq).2))), (8, .int (nI kq))] : List (Nat × Value))) (fw_CN hfw hb58 hb87)) ?_
                  refine r_iload o dX6_fewestToTurn_94 8 rfl ?_
                  refine r_iload o dX6_fewestToTurn_96 6 rfl ?_
                  refine r_isub o dX6_fewestToTurn_98 ?_
                  refine r_iload o dX6_fewestToTurn_99 6 rfl ?_
                  refine r_iand o dX6_fewestToTurn_101 ?_
                  refine r_topi (y := nI (nxs oq (fwS rdq prq hiq2 menq oq kq).2)) (nI_nxs hol hsl) ?_
                  refine r_istore o (lv' := [(7, .int (nI (nxs oq (fwS rdq prq hiq2 menq oq kq).2))), (6, .int (opI (fwS rdq prq hiq2 menq oq (kq + 1)).1)), (9, .int (nI 1)), (0, .ref (gad G 10)), (1, .int (nI menq)), (2, .ref (gad G 9)), (3, .int (nI hiq2)), (4, .int (nI oq)), (5, .int (nI (2 ^ popc oq))), (8, .int (nI kq))]) dX6_fewestToTurn_102 (by decide) rfl ?_
                  refine r_iinc o (v := nI (kq + 1)) (lv' := [(8, .int (nI (kq + 1))), (7, .int (nI (nxs oq (fwS rdq prq hiq2 menq oq kq).2))), (6, .int (opI (fwS rdq prq hiq2 menq oq (kq + 1)).1)), (9, .int (nI 1)), (0, .ref (gad G 10)), (1, .int (nI menq)), (2, .ref (gad G 9)), (3, .int (nI hiq2)), (4, .int (nI oq)), (5, .int (nI (2 ^ popc oq)))]) dX6_fewestToTurn_104 9 rfl (nI_inc _) (by decide) rfl ?_
                  refine r_goto o (tgt := 34) dX6_fewestToTurn_107 (by decide) ?_
                  exact r_to rfl [4, 5, 6, 7, 8, 9, 2, 1, 0] rfl (ih34 (kq + 1) (by omega) (by omega))
  exact r_to rfl [6, 7, 8, 5, 4, 3, 2, 1, 0] rfl (L34 _ 0 (Nat.zero_le _) (Nat.lt_succ_self _))
set_option maxHeartbeats 4000000 in
set_option maxRecDepth 100000 in
theorem c_X2_commonDivisor (l : Launch) (G : Gl) (σ : Sto) (aq : Int64) (bq : Int64) : CtL l G yX2_commonDivisor cX2_commonDivisor 11 (some .long) 0 0 [.long aq, .long bq] σ (fun r σ' => r = gcdS 100 aq bq ∧ σ' = σ) := by
  refine CtL.of (by decide +kernel) (Nat.le_of_ble_eq_true rfl) (fun X o q => ?_)
  show WS X G 11 σ 0 [(0, .long aq), (2, .long bq)] []
  refine r_lload_n o dX2_commonDivisor_0 0 rfl ?_
  refine r_lstore o (lv' := [(4, .long aq), (0, .long aq), (2, .long bq)]) dX2_commonDivisor_1 (by decide) rfl ?_
  refine r_lload_n o dX2_commonDivisor_3 2 rfl ?_
  refine r_lstore o (lv' := [(6, .long bq), (4, .long aq), (0, .long aq), (2, .long bq)]) dX2_commonDivisor_4 (by decide) rfl ?_
  refine r_iconst o (v := nI 0) dX2_commonDivisor_6 (by decide) ?_
  refine r_istore o (lv' := [(8, .int (nI 0)), (6, .long bq), (4, .long aq), (0, .long aq), (2, .long bq)]) dX2_commonDivisor_7 (by decide) rfl ?_
  have L9 : ∀ (n : Nat) (kq : Nat) (xq : Int64) (yq : Int64) (hkq : kq ≤ 100) (hgq : gcdS 100 aq bq = gcdS (100 - kq) xq yq), 100 - kq < n → WS X G 11 σ 9 [(0, .long aq), (2, .long bq), (4, .long xq), (6, .long yq), (8, .int (nI kq))] [] := by
    intro n
    induction n with
    | zero => intro kq xq yq hkq hgq hm; exact absurd hm (Nat.not_lt_zero _)
    | succ n ih9 =>
      intro kq xq yq hkq hgq hm
      refine r_iload o dX2_commonDivisor_9 4 rfl ?_
      refine r_bipush o (v := nI 100) dX2_commonDivisor_11 (by decide) ?_
      refine r_icmp_ge o (tgt := 44) dX2_commonDivisor_13 (by decide) (fun hb13 => ?_) (fun hb13 => ?_)
      · skip
        rw [nI_leI (by omega) (by omega)] at hb13
        refine r_lload o dX2_commonDivisor_44 2 rfl ?_
        exact r_lreturn o q dX2_commonDivisor_46 (⟨by rw [hgq]; first | (rw [show 100 - kq = (100 - (kq + 1)) + 1 by omega]; exact (if_pos hb20).symm) | (rw [show 100 - kq = 0 by omega]; rfl), rfl⟩)
      · skip
        rw [nI_leI (by omega) (by omega)] at hb13
        refine r_lload o dX2_commonDivisor_16 3 rfl ?_
        refine r_lconst o (v := 0) dX2_commonDivisor_18 rfl ?_
        refine r_lcmp o dX2_commonDivisor_19 ?_
        refine r_if_eq o (tgt := 44) dX2_commonDivisor_20 (by decide) (fun hb20 => ?_) (fun hb20 => ?_)
        · skip
          rw [lg_cmp_eq] at hb20
          refine r_lload o dX2_commonDivisor_44 2 rfl ?_
          exact r_lreturn o q dX2_commonDivisor_46 (⟨by rw [hgq]; first | (rw [show 100 - kq = (100 - (kq + 1)) + 1 by omega]; exact (if_pos hb20).symm) | (rw [show 100 - kq = 0 by omega]; rfl), rfl⟩)
        · skip
          rw [lg_cmp_eq] at hb20
          refine r_lload o dX2_commonDivisor_23 2 rfl ?_
          refine r_lload o dX2_commonDivisor_25 3 rfl ?_
          refine r_lrem o dX2_commonDivisor_27 hb20 ?_
          refine r_topl (y := lrm xq yq) rfl ?_
          refine r_lstore o (lv' := [(9, .long (lrm xq yq)), (0, .long aq), (2, .long bq), (4, .long xq), (6, .long yq), (8, .int (nI kq))]) dX2_commonDivisor_28 (by decide) rfl ?_
          refine r_lload o dX2_commonDivisor_30 4 rfl ?_
          refine r_lstore o (lv' := [(4, .long yq), (9, .long (lrm xq yq)), (0, .long aq), (2, .long bq), (6, .long yq), (8, .int (nI kq))]) dX2_commonDivisor_32 (by decide) rfl ?_
          refine r_lload o dX2_commonDivisor_34 1 rfl ?_
          refine r_lstore o (lv' := [(6, .long (lrm xq yq)), (4, .long yq), (9, .long (lrm xq yq)), (0, .long aq), (2, .long bq), (8, .int (nI kq))]) dX2_commonDivisor_36 (by decide) rfl ?_
          refine r_iinc o (v := nI (kq + 1)) (lv' := [(8, .int (nI (kq + 1))), (6, .long (lrm xq yq)), (4, .long yq), (9, .long (lrm xq yq)), (0, .long aq), (2, .long bq)]) dX2_commonDivisor_38 5 rfl (nI_inc _) (by decide) rfl ?_
          refine r_goto o (tgt := 9) dX2_commonDivisor_41 (by decide) ?_
          exact r_to rfl [4, 5, 2, 1, 0] rfl (ih9 (kq + 1) yq (lrm xq yq) (by omega) (by rw [hgq, show 100 - kq = (100 - (kq + 1)) + 1 by omega]; exact if_neg hb20) (by omega))
  exact r_to rfl [3, 4, 2, 1, 0] rfl (L9 _ 0 aq bq (by omega) rfl (Nat.lt_succ_self _))
set_option maxHeartbeats 4000000 in
set_option maxRecDepth 100000 in
theorem c_X2_put_7 (l : Launch) (G : Gl) (σ : Sto) (upq : Int64) (lowq : Int64) : CtV l G yX2_put cX2_put 7 none 1 30 [.ref (gad G 7), .long upq, .long lowq] σ (fun σ' => σ' = stl (stl σ 7 0 (fU upq lowq)) 7 1 (fL upq lowq)) := by
  refine CtV.of (by decide +kernel) (Nat.le_of_ble_eq_true rfl) (fun X o q => ?_)
  show WS X G 7 σ 0 [(0, .ref (gad G 7)), (1, .long upq), (3, .long lowq)] []
  refine r_lload_n o dX2_put_0 1 rfl ?_
  refine r_absl o (mw 441 (by decide +kernel) (by decide +kernel)) (mw 442 (by decide +kernel) (by decide +kernel)) (mw 47 (by decide +kernel) (by decide +kernel)) (mw 443 (by decide +kernel) (by decide +kernel)) (by decide) (Nat.le_of_ble_eq_true rfl) dX2_put_1 ?_
  refine r_topl (y := absL upq) rfl ?_
  refine r_lload_n o dX2_put_4 2 rfl ?_
  refine r_callSL o (As := [.long (absL upq), .long lowq]) (st := []) (c_X2_commonDivisor (xl X) G σ (absL upq) lowq) om_X2_commonDivisor mw_445 mw_444 (by decide) rfl rfl (Nat.le_of_ble_eq_true rfl) dX2_put_5 (fun rr5 σσ5 hp5 => ?_)
  obtain ⟨hp5, hp5b⟩ := hp5; replace hp5 := Eq.symm hp5; replace hp5b := Eq.symm hp5b; subst hp5; subst hp5b
  refine r_lstore o (lv' := [(5, .long (gcdS 100 (absL upq) lowq)), (0, .ref (gad G 7)), (1, .long upq), (3, .long lowq)]) dX2_put_8 (by decide) rfl ?_
  refine r_lload_n o dX2_put_10 2 rfl ?_
  refine r_lconst o (v := 0) dX2_put_11 rfl ?_
  refine r_lcmp o dX2_put_12 ?_
  refine r_if_eq o (tgt := 29) dX2_put_13 (by decide) (fun hb13 => ?_) (fun hb13 => ?_)
  · skip
    rw [lg_cmp_eq] at hb13
    refine r_aload_n o dX2_put_29 1 rfl ?_
    refine r_lconst o (v := 0) dX2_put_30 rfl ?_
    refine pf_7_0 o mw_181 dX2_put_31 ?_
    refine r_aload_n o dX2_put_34 1 rfl ?_
    refine r_lconst o (v := 1) dX2_put_35 rfl ?_
    refine pf_7_1 o mw_182 dX2_put_36 ?_
    refine r_goto o (tgt := 58) dX2_put_39 (by decide) ?_
    exact r_return o q dX2_put_58 (by unfold fU fL; first | (rw [if_pos hb13, if_pos hb13]) | (rw [if_neg hb13, if_neg hb13, if_pos hb19, if_pos hb19]) | (rw [if_neg hb13, if_neg hb13, if_neg hb19, if_neg hb19, if_neg hb26, if_neg hb26]) | (rw [if_neg hb13, if_neg hb13, if_neg hb19, if_neg hb19, if_pos hb26, if_pos hb26]))
  · skip
    rw [lg_cmp_eq] at hb13
    refine r_lload_n o dX2_put_16 3 rfl ?_
    refine r_lconst o (v := 0) dX2_put_17 rfl ?_
    refine r_lcmp o dX2_put_18 ?_
    refine r_if_le o (tgt := 29) dX2_put_19 (by decide) (fun hb19 => ?_) (fun hb19 => ?_)
    · skip
      rw [lg_cmp_le] at hb19
      refine r_aload_n o dX2_put_29 1 rfl ?_
      refine r_lconst o (v := 0) dX2_put_30 rfl ?_
      refine pf_7_0 o mw_181 dX2_put_31 ?_
      refine r_aload_n o dX2_put_34 1 rfl ?_
      refine r_lconst o (v := 1) dX2_put_35 rfl ?_
      refine pf_7_1 o mw_182 dX2_put_36 ?_
      refine r_goto o (tgt := 58) dX2_put_39 (by decide) ?_
      exact r_return o q dX2_put_58 (by unfold fU fL; first | (rw [if_pos hb13, if_pos hb13]) | (rw [if_neg hb13, if_neg hb13, if_pos hb19, if_pos hb19]) | (rw [if_neg hb13, if_neg hb13, if_neg hb19, if_neg hb19, if_neg hb26, if_neg hb26]) | (rw [if_neg hb13, if_neg hb13, if_neg hb19, if_neg hb19, if_pos hb26, if_pos hb26]))
    · skip
      rw [lg_cmp_le] at hb19
      refine r_lload o dX2_put_22 0 rfl ?_
      refine r_lconst o (v := 0) dX2_put_24 rfl ?_
      refine r_lcmp o dX2_put_25 ?_
      refine r_if_gt o (tgt := 42) dX2_put_26 (by decide) (fun hb26 => ?_) (fun hb26 => ?_)
      · skip
        rw [lg_cmp_gt] at hb26
        refine r_aload_n o dX2_put_42 1 rfl ?_
        refine r_lload_n o dX2_put_43 2 rfl ?_
        refine r_lload o dX2_put_44 0 rfl ?_
        refine r_ldiv o dX2_put_46 (l_ne0 hb26) ?_
        refine pf_7_0 o mw_181 dX2_put_47 ?_
        refine r_aload_n o dX2_put_50 1 rfl ?_
        refine r_lload_n o dX2_put_51 3 rfl ?_
        refine r_lload o dX2_put_52 0 rfl ?_
        refine r_ldiv o dX2_put_54 (l_ne0 hb26) ?_
        refine pf_7_1 o mw_182 dX2_put_55 ?_
        exact r_return o q dX2_put_58 (by unfold fU fL; first | (rw [if_pos hb13, if_pos hb13]) | (rw [if_neg hb13, if_neg hb13, if_pos hb19, if_pos hb19]) | (rw [if_neg hb13, if_neg hb13, if_neg hb19, if_neg hb19, if_neg hb26, if_neg hb26]) | (rw [if_neg hb13, if_neg hb13, if_neg hb19, if_neg hb19, if_pos hb26, if_pos hb26]))
      · skip
        rw [lg_cmp_gt] at hb26
        refine r_aload_n o dX2_put_29 1 rfl ?_
        refine r_lconst o (v := 0) dX2_put_30 rfl ?_
        refine pf_7_0 o mw_181 dX2_put_31 ?_
        refine r_aload_n o dX2_put_34 1 rfl ?_
        refine r_lconst o (v := 1) dX2_put_35 rfl ?_
        refine pf_7_1 o mw_182 dX2_put_36 ?_
        refine r_goto o (tgt := 58) dX2_put_39 (by decide) ?_
        exact r_return o q dX2_put_58 (by unfold fU fL; first | (rw [if_pos hb13, if_pos hb13]) | (rw [if_neg hb13, if_neg hb13, if_pos hb19, if_pos hb19]) | (rw [if_neg hb13, if_neg hb13, if_neg hb19, if_neg hb19, if_neg hb26, if_neg hb26]) | (rw [if_neg hb13, if_neg hb13, if_neg hb19, if_neg hb19, if_pos hb26, if_pos hb26]))
set_option maxHeartbeats 4000000 in
set_option maxRecDepth 100000 in
theorem c_X2_put_8 (l : Launch) (G : Gl) (σ : Sto) (upq : Int64) (lowq : Int64) : CtV l G yX2_put cX2_put 7 none 1 30 [.ref (gad G 8), .long upq, .long lowq] σ (fun σ' => σ' = stl (stl σ 8 0 (fU upq lowq)) 8 1 (fL upq lowq)) := by
  refine CtV.of (by decide +kernel) (Nat.le_of_ble_eq_true rfl) (fun X o q => ?_)
  show WS X G 7 σ 0 [(0, .ref (gad G 8)), (1, .long upq), (3, .long lowq)] []
  refine r_lload_n o dX2_put_0 1 rfl ?_
  refine r_absl o (mw 441 (by decide +kernel) (by decide +kernel)) (mw 442 (by decide +kernel) (by decide +kernel)) (mw 47 (by decide +kernel) (by decide +kernel)) (mw 443 (by decide +kernel) (by decide +kernel)) (by decide) (Nat.le_of_ble_eq_true rfl) dX2_put_1 ?_
  refine r_topl (y := absL upq) rfl ?_
  refine r_lload_n o dX2_put_4 2 rfl ?_
  refine r_callSL o (As := [.long (absL upq), .long lowq]) (st := []) (c_X2_commonDivisor (xl X) G σ (absL upq) lowq) om_X2_commonDivisor mw_445 mw_444 (by decide) rfl rfl (Nat.le_of_ble_eq_true rfl) dX2_put_5 (fun rr5 σσ5 hp5 => ?_)
  obtain ⟨hp5, hp5b⟩ := hp5; replace hp5 := Eq.symm hp5; replace hp5b := Eq.symm hp5b; subst hp5; subst hp5b
  refine r_lstore o (lv' := [(5, .long (gcdS 100 (absL upq) lowq)), (0, .ref (gad G 8)), (1, .long upq), (3, .long lowq)]) dX2_put_8 (by decide) rfl ?_
  refine r_lload_n o dX2_put_10 2 rfl ?_
  refine r_lconst o (v := 0) dX2_put_11 rfl ?_
  refine r_lcmp o dX2_put_12 ?_
  refine r_if_eq o (tgt := 29) dX2_put_13 (by decide) (fun hb13 => ?_) (fun hb13 => ?_)
  · skip
    rw [lg_cmp_eq] at hb13
    refine r_aload_n o dX2_put_29 1 rfl ?_
    refine r_lconst o (v := 0) dX2_put_30 rfl ?_
    refine pf_8_0 o mw_181 dX2_put_31 ?_
    refine r_aload_n o dX2_put_34 1 rfl ?_
    refine r_lconst o (v := 1) dX2_put_35 rfl ?_
    refine pf_8_1 o mw_182 dX2_put_36 ?_
    refine r_goto o (tgt := 58) dX2_put_39 (by decide) ?_
    exact r_return o q dX2_put_58 (by unfold fU fL; first | (rw [if_pos hb13, if_pos hb13]) | (rw [if_neg hb13, if_neg hb13, if_pos hb19, if_pos hb19]) | (rw [if_neg hb13, if_neg hb13, if_neg hb19, if_neg hb19, if_neg hb26, if_neg hb26]) | (rw [if_neg hb13, if_neg hb13, if_neg hb19, if_neg hb19, if_pos hb26, if_pos hb26]))
  · skip
    rw [lg_cmp_eq] at hb13
    refine r_lload_n o dX2_put_16 3 rfl ?_
    refine r_lconst o (v := 0) dX2_put_17 rfl ?_
    refine r_lcmp o dX2_put_18 ?_
    refine r_if_le o (tgt := 29) dX2_put_19 (by decide) (fun hb19 => ?_) (fun hb19 => ?_)
    · skip
      rw [lg_cmp_le] at hb19
      refine r_aload_n o dX2_put_29 1 rfl ?_
      refine r_lconst o (v := 0) dX2_put_30 rfl ?_
      refine pf_8_0 o mw_181 dX2_put_31 ?_
      refine r_aload_n o dX2_put_34 1 rfl ?_
      refine r_lconst o (v := 1) dX2_put_35 rfl ?_
      refine pf_8_1 o mw_182 dX2_put_36 ?_
      refine r_goto o (tgt := 58) dX2_put_39 (by decide) ?_
      exact r_return o q dX2_put_58 (by unfold fU fL; first | (rw [if_pos hb13, if_pos hb13]) | (rw [if_neg hb13, if_neg hb13, if_pos hb19, if_pos hb19]) | (rw [if_neg hb13, if_neg hb13, if_neg hb19, if_neg hb19, if_neg hb26, if_neg hb26]) | (rw [if_neg hb13, if_neg hb13, if_neg hb19, if_neg hb19, if_pos hb26, if_pos hb26]))
    · skip
      rw [lg_cmp_le] at hb19
      refine r_lload o dX2_put_22 0 rfl ?_
      refine r_lconst o (v := 0) dX2_put_24 rfl ?_
      refine r_lcmp o dX2_put_25 ?_
      refine r_if_gt o (tgt := 42) dX2_put_26 (by decide) (fun hb26 => ?_) (fun hb26 => ?_)
      · skip
        rw [lg_cmp_gt] at hb26
        refine r_aload_n o dX2_put_42 1 rfl ?_
        refine r_lload_n o dX2_put_43 2 rfl ?_
        refine r_lload o dX2_put_44 0 rfl ?_
        refine r_ldiv o dX2_put_46 (l_ne0 hb26) ?_
        refine pf_8_0 o mw_181 dX2_put_47 ?_
        refine r_aload_n o dX2_put_50 1 rfl ?_
        refine r_lload_n o dX2_put_51 3 rfl ?_
        refine r_lload o dX2_put_52 0 rfl ?_
        refine r_ldiv o dX2_put_54 (l_ne0 hb26) ?_
        refine pf_8_1 o mw_182 dX2_put_55 ?_
        exact r_return o q dX2_put_58 (by unfold fU fL; first | (rw [if_pos hb13, if_pos hb13]) | (rw [if_neg hb13, if_neg hb13, if_pos hb19, if_pos hb19]) | (rw [if_neg hb13, if_neg hb13, if_neg hb19, if_neg hb19, if_neg hb26, if_neg hb26]) | (rw [if_neg hb13, if_neg hb13, if_neg hb19, if_neg hb19, if_pos hb26, if_pos hb26]))
      · skip
        rw [lg_cmp_gt] at hb26
        refine r_aload_n o dX2_put_29 1 rfl ?_
        refine r_lconst o (v := 0) dX2_put_30 rfl ?_
        refine pf_8_0 o mw_181 dX2_put_31 ?_
        refine r_aload_n o dX2_put_34 1 rfl ?_
        refine r_lconst o (v := 1) dX2_put_35 rfl ?_
        refine pf_8_1 o mw_182 dX2_put_36 ?_
        refine r_goto o (tgt := 58) dX2_put_39 (by decide) ?_
        exact r_return o q dX2_put_58 (by unfold fU fL; first | (rw [if_pos hb13, if_pos hb13]) | (rw [if_neg hb13, if_neg hb13, if_pos hb19, if_pos hb19]) | (rw [if_neg hb13, if_neg hb13, if_neg hb19, if_neg hb19, if_neg hb26, if_neg hb26]) | (rw [if_neg hb13, if_neg hb13, if_neg hb19, if_neg hb19, if_pos hb26, if_pos hb26]))
set_option maxHeartbeats 4000000 in
set_option maxRecDepth 100000 in
theorem c_X2_partOf (l : Launch) (G : Gl) (σ : Sto) (upq : Int64) (hup : (σ 7).2 0 = upq) (lowq : Int64) (hlow : (σ 7).2 1 = lowq) (vz : Int32) : CtL l G yX2_partOf cX2_partOf 2 (some .long) 0 0 [.ref (gad G 7), .int vz] σ (fun r σ' => r = (if vz = 0 then upq else lowq) ∧ σ' = σ) := by
  refine CtL.of (by decide +kernel) (Nat.le_of_ble_eq_true rfl) (fun X o q => ?_)
  show WS X G 2 σ 0 [(0, .ref (gad G 7)), (1, .int vz)] []
  refine r_iload_n o dX2_partOf_0 1 rfl ?_
  refine r_if_ne o (tgt := 11) dX2_partOf_1 (by decide) (fun hb1 => ?_) (fun hb1 => ?_)
  · skip
    refine r_aload_n o dX2_partOf_11 0 rfl ?_
    refine gf_7_1 o (v := lowq) hlow mw_182 dX2_partOf_12 ?_
    exact r_lreturn o q dX2_partOf_15 (⟨by first | exact (if_pos hb1).symm | exact (if_neg hb1).symm, rfl⟩)
  · skip
    refine r_aload_n o dX2_partOf_4 0 rfl ?_
    refine gf_7_0 o (v := upq) hup mw_181 dX2_partOf_5 ?_
    refine r_goto o (tgt := 15) dX2_partOf_8 (by decide) ?_
    exact r_lreturn o q dX2_partOf_15 (⟨by first | exact (if_pos hb1).symm | exact (if_neg hb1).symm, rfl⟩)
set_option maxHeartbeats 4000000 in
set_option maxRecDepth 100000 in
theorem c_X2_percent (l : Launch) (G : Gl) (σ : Sto) (upq : Int64) (hup : (σ 7).2 0 = upq) (lowq : Int64) (hlow : (σ 7).2 1 = lowq) : CtI l G yX2_percent cX2_percent 1 (some .int) 0 0 [.ref (gad G 7)] σ (fun r σ' => r = pctI upq lowq ∧ σ' = σ) := by
  refine CtI.of (by decide +kernel) (Nat.le_of_ble_eq_true rfl) (fun X o q => ?_)
  show WS X G 1 σ 0 [(0, .ref (gad G 7))] []
  refine r_aload_n o dX2_percent_0 0 rfl ?_
  refine gf_7_1 o (v := lowq) hlow mw_182 dX2_percent_1 ?_
  refine r_lconst o (v := 0) dX2_percent_4 rfl ?_
  refine r_lcmp o dX2_percent_5 ?_
  refine r_if_le o (tgt := 26) dX2_percent_6 (by decide) (fun hb6 => ?_) (fun hb6 => ?_)
  · skip
    rw [lg_cmp_le] at hb6
    refine r_iconst o (v := nI 0) dX2_percent_26 (by decide) ?_
    exact r_ireturn o q dX2_percent_27 (⟨by unfold pctI; first | (rw [if_pos hb6]) | (rw [if_neg hb6]), rfl⟩)
  · skip
    rw [lg_cmp_le] at hb6
    refine r_ldc2_w o mw_585 dX2_percent_9 ?_
    refine r_aload_n o dX2_percent_12 0 rfl ?_
    refine gf_7_0 o (v := upq) hup mw_181 dX2_percent_13 ?_
    refine r_lmul o dX2_percent_16 ?_
    refine r_aload_n o dX2_percent_17 0 rfl ?_
    refine gf_7_1 o (v := lowq) hlow mw_182 dX2_percent_18 ?_
    refine r_ldiv o dX2_percent_21 (l_ne0 (l_nle.mp hb6)) ?_
    refine r_l2i o dX2_percent_22 rfl ?_
    refine r_goto o (tgt := 27) dX2_percent_23 (by decide) ?_
    exact r_ireturn o q dX2_percent_27 (⟨by unfold pctI; first | (rw [if_pos hb6]) | (rw [if_neg hb6]), rfl⟩)
set_option maxHeartbeats 4000000 in
set_option maxRecDepth 100000 in
theorem c_X2_isAtLeast (l : Launch) (G : Gl) (σ : Sto) (a0q : Int64) (ha0 : (σ 7).2 0 = a0q) (b0q : Int64) (hb0 : (σ 7).2 1 = b0q) (c0q : Int64) (hc0 : (σ 8).2 0 = c0q) (d0q : Int64) (hd0 : (σ 8).2 1 = d0q) : CtI l G yX2_isAtLeast cX2_isAtLeast 16 (some .boolean) 0 0 [.ref (gad G 7), .ref (gad G 8)] σ (fun r σ' => r = b01 (atlS 100 a0q b0q c0q d0q false) ∧ σ' = σ) := by
  refine CtI.of (by decide +kernel) (Nat.le_of_ble_eq_true rfl) (fun X o q => ?_)
  show WS X G 16 σ 0 [(0, .ref (gad G 7)), (1, .ref (gad G 8))] []
  refine r_aload_n o dX2_isAtLeast_0 0 rfl ?_
  refine gf_7_0 o (v := a0q) ha0 mw_181 dX2_isAtLeast_1 ?_
  refine r_lstore_n o (lv' := [(2, .long a0q), (0, .ref (gad G 7)), (1, .ref (gad G 8))]) dX2_isAtLeast_4 (by decide) rfl ?_
  refine r_aload_n o dX2_isAtLeast_5 1 rfl ?_
  refine gf_7_1 o (v := b0q) hb0 mw_182 dX2_isAtLeast_6 ?_
  refine r_lstore o (lv' := [(4, .long b0q), (2, .long a0q), (0, .ref (gad G 7)), (1, .ref (gad G 8))]) dX2_isAtLeast_9 (by decide) rfl ?_
  refine r_aload_n o dX2_isAtLeast_11 3 rfl ?_
  refine gf_8_0 o (v := c0q) hc0 mw_181 dX2_isAtLeast_12 ?_
  refine r_lstore o (lv' := [(6, .long c0q), (4, .long b0q), (2, .long a0q), (0, .ref (gad G 7)), (1, .ref (gad G 8))]) dX2_isAtLeast_15 (by decide) rfl ?_
  refine r_aload_n o dX2_isAtLeast_17 4 rfl ?_
  refine gf_8_1 o (v := d0q) hd0 mw_182 dX2_isAtLeast_18 ?_
  refine r_lstore o (lv' := [(8, .long d0q), (6, .long c0q), (4, .long b0q), (2, .long a0q), (0, .ref (gad G 7)), (1, .ref (gad G 8))]) dX2_isAtLeast_21 (by decide) rfl ?_
  refine r_iconst o (v := nI 0) dX2_isAtLeast_23 (by decide) ?_
  refine r_istore o (lv' := [(10, .int (nI 0)), (8, .long d0q), (6, .long c0q), (4, .long b0q), (2, .long a0q), (0, .ref (gad G 7)), (1, .ref (gad G 8))]) dX2_isAtLeast_24 (by decide) rfl ?_
  refine r_iconst o (v := nI 0) dX2_isAtLeast_26 (by decide) ?_
  refine r_istore o (lv' := [(11, .int (nI 0)), (10, .int (nI 0)), (8, .long d0q), (6, .long c0q), (4, .long b0q), (2, .long a0q), (0, .ref (gad G 7)), (1, .ref (gad G 8))]) dX2_isAtLeast_27 (by decide) rfl ?_
  have L29 : ∀ (n : Nat) (kq : Nat) (aq : Int64) (bq : Int64) (cq : Int64) (dq : Int64) (tz : Bool) (hkq : kq ≤ 100) (hgq : atlS 100 a0q b0q c0q d0q false = atlS (100 - kq) aq bq cq dq tz), 100 - kq < n → WS X G 16 σ 29 [(0, .ref (gad G 7)), (1, .ref (gad G 8)), (2, .long aq), (4, .long bq), (6, .long cq), (8, .long dq), (10, .int (b01 tz)), (11, .int (nI kq))] [] := by
    intro n
    induction n with
    | zero => intro kq aq bq cq dq tz hkq hgq hm; exact absurd hm (Nat.not_lt_zero _)
    | succ n ih29 =>
      intro kq aq bq cq dq tz hkq hgq hm
      refine r_iload o dX2_isAtLeast_29 7 rfl ?_
      refine r_bipush o (v := nI 100) dX2_isAtLeast_31 (by decide) ?_
      refine r_icmp_ge o (tgt := 138) dX2_isAtLeast_33 (by decide) (fun hb33 => ?_) (fun hb33 => ?_)
      · skip
        rw [nI_leI (by omega) (by omega)] at hb33
        refine r_lload o dX2_isAtLeast_138 3 rfl ?_
        refine r_lload o dX2_isAtLeast_140 5 rfl ?_
        refine r_lcmp o dX2_isAtLeast_142 ?_
        refine r_if_eq o (tgt := 164) dX2_isAtLeast_143 (by decide) (fun hb143 => ?_) (fun hb143 => ?_)
        · skip
          rw [lg_cmp_eq] at hb143
          refine r_iconst o (v := nI 1) dX2_isAtLeast_164 (by decide) ?_
          refine r_goto o (tgt := 169) dX2_isAtLeast_165 (by decide) ?_
          exact r_zreturn o q (by decide) dX2_isAtLeast_169 (⟨b01_t' (by rw [hgq, atlS_e (by first | exact Or.inl (by omega) | exact Or.inr (Or.inl hb40) | exact Or.inr (Or.inr hb47))]; unfold atlE; first | (rw [if_pos hb143]; done) | (rw [if_neg hb143]; first | (simp [l_nle.mp hb151]; done) | (simp [show ¬ bq < dq from fun zq => absurd hb151 (l_nle.mpr zq)]; done))), rfl⟩)
        · skip
          rw [lg_cmp_eq] at hb143
          refine r_lload o dX2_isAtLeast_146 3 rfl ?_
          refine r_lload o dX2_isAtLeast_148 5 rfl ?_
          refine r_lcmp o dX2_isAtLeast_150 ?_
          refine r_if_ge o (tgt := 158) dX2_isAtLeast_151 (by decide) (fun hb151 => ?_) (fun hb151 => ?_)
          · skip
            rw [lg_cmp_ge] at hb151
            refine r_iconst o (v := nI 0) dX2_isAtLeast_158 (by decide) ?_
            refine r_iload o dX2_isAtLeast_159 6 rfl ?_
            cases tz
            · skip
              refine r_topi (y := nI 0) rfl ?_
              refine r_icmp_eq o (tgt := 168) dX2_isAtLeast_161 (by decide) (fun hb161 => ?_) (fun hb161 => ?_)
              · skip
                refine r_iconst o (v := nI 0) dX2_isAtLeast_168 (by decide) ?_
                exact r_zreturn o q (by decide) dX2_isAtLeast_169 (⟨b01_f' (by rw [hgq, atlS_e (by first | exact Or.inl (by omega) | exact Or.inr (Or.inl hb40) | exact Or.inr (Or.inr hb47))]; unfold atlE; first | (rw [if_pos hb143]; done) | (rw [if_neg hb143]; first | (simp [l_nle.mp hb151]; done) | (simp [show ¬ bq < dq from fun zq => absurd hb151 (l_nle.mpr zq)]; done))), rfl⟩)
              · exact absurd hb161 (by decide)
            · skip
              refine r_topi (y := nI 1) rfl ?_
              refine r_icmp_eq o (tgt := 168) dX2_isAtLeast_161 (by decide) (fun hb161 => ?_) (fun hb161 => ?_)
              · exact absurd hb161 (by decide)
              · skip
                refine r_iconst o (v := nI 1) dX2_isAtLeast_164 (by decide) ?_
                refine r_goto o (tgt := 169) dX2_isAtLeast_165 (by decide) ?_
                exact r_zreturn o q (by decide) dX2_isAtLeast_169 (⟨b01_t' (by rw [hgq, atlS_e (by first | exact Or.inl (by omega) | exact Or.inr (Or.inl hb40) | exact Or.inr (Or.inr hb47))]; unfold atlE; first | (rw [if_pos hb143]; done) | (rw [if_neg hb143]; first | (simp [l_nle.mp hb151]; done) | (simp [show ¬ bq < dq from fun zq => absurd hb151 (l_nle.mpr zq)]; done))), rfl⟩)
          · skip
            rw [lg_cmp_ge] at hb151
            refine r_iconst o (v := nI 1) dX2_isAtLeast_154 (by decide) ?_
            refine r_goto o (tgt := 159) dX2_isAtLeast_155 (by decide) ?_
            refine r_iload o dX2_isAtLeast_159 6 rfl ?_
            cases tz
            · skip
              refine r_topi (y := nI 0) rfl ?_
              refine r_icmp_eq o (tgt := 168) dX2_isAtLeast_161 (by decide) (fun hb161 => ?_) (fun hb161 => ?_)
              · exact absurd hb161 (by decide)
              · skip
                refine r_iconst o (v := nI 1) dX2_isAtLeast_164 (by decide) ?_
                refine r_goto o (tgt := 169) dX2_isAtLeast_165 (by decide) ?_
                exact r_zreturn o q (by decide) dX2_isAtLeast_169 (⟨b01_t' (by rw [hgq, atlS_e (by first | exact Or.inl (by omega) | exact Or.inr (Or.inl hb40) | exact Or.inr (Or.inr hb47))]; unfold atlE; first | (rw [if_pos hb143]; done) | (rw [if_neg hb143]; first | (simp [l_nle.mp hb151]; done) | (simp [show ¬ bq < dq from fun zq => absurd hb151 (l_nle.mpr zq)]; done))), rfl⟩)
            · skip
              refine r_topi (y := nI 1) rfl ?_
              refine r_icmp_eq o (tgt := 168) dX2_isAtLeast_161 (by decide) (fun hb161 => ?_) (fun hb161 => ?_)
              · skip
                refine r_iconst o (v := nI 0) dX2_isAtLeast_168 (by decide) ?_
                exact r_zreturn o q (by decide) dX2_isAtLeast_169 (⟨b01_f' (by rw [hgq, atlS_e (by first | exact Or.inl (by omega) | exact Or.inr (Or.inl hb40) | exact Or.inr (Or.inr hb47))]; unfold atlE; first | (rw [if_pos hb143]; done) | (rw [if_neg hb143]; first | (simp [l_nle.mp hb151]; done) | (simp [show ¬ bq < dq from fun zq => absurd hb151 (l_nle.mpr zq)]; done))), rfl⟩)
              · exact absurd hb161 (by decide)
      · skip
        rw [nI_leI (by omega) (by omega)] at hb33
        refine r_lload o dX2_isAtLeast_36 3 rfl ?_
        refine r_lconst o (v := 0) dX2_isAtLeast_38 rfl ?_
        refine r_lcmp o dX2_isAtLeast_39 ?_
        refine r_if_le o (tgt := 138) dX2_isAtLeast_40 (by decide) (fun hb40 => ?_) (fun hb40 => ?_)
        · skip
          rw [lg_cmp_le] at hb40
          refine r_lload o dX2_isAtLeast_138 3 rfl ?_
          refine r_lload o dX2_isAtLeast_140 5 rfl ?_
          refine r_lcmp o dX2_isAtLeast_142 ?_
          refine r_if_eq o (tgt := 164) dX2_isAtLeast_143 (by decide) (fun hb143 => ?_) (fun hb143 => ?_)
          · skip
            rw [lg_cmp_eq] at hb143
            refine r_iconst o (v := nI 1) dX2_isAtLeast_164 (by decide) ?_
            refine r_goto o (tgt := 169) dX2_isAtLeast_165 (by decide) ?_
            exact r_zreturn o q (by decide) dX2_isAtLeast_169 (⟨b01_t' (by rw [hgq, atlS_e (by first | exact Or.inl (by omega) | exact Or.inr (Or.inl hb40) | exact Or.inr (Or.inr hb47))]; unfold atlE; first | (rw [if_pos hb143]; done) | (rw [if_neg hb143]; first | (simp [l_nle.mp hb151]; done) | (simp [show ¬ bq < dq from fun zq => absurd hb151 (l_nle.mpr zq)]; done))), rfl⟩)
          · skip
            rw [lg_cmp_eq] at hb143
            refine r_lload o dX2_isAtLeast_146 3 rfl ?_
            refine r_lload o dX2_isAtLeast_148 5 rfl ?_
            refine r_lcmp o dX2_isAtLeast_150 ?_
            refine r_if_ge o (tgt := 158) dX2_isAtLeast_151 (by decide) (fun hb151 => ?_) (fun hb151 => ?_)
            · skip
              rw [lg_cmp_ge] at hb151
              refine r_iconst o (v := nI 0) dX2_isAtLeast_158 (by decide) ?_
              refine r_iload o dX2_isAtLeast_159 6 rfl ?_
              cases tz
              · skip
                refine r_topi (y := nI 0) rfl ?_
                refine r_icmp_eq o (tgt := 168) dX2_isAtLeast_161 (by decide) (fun hb161 => ?_) (fun hb161 => ?_)
                · skip
                  refine r_iconst o (v := nI 0) dX2_isAtLeast_168 (by decide) ?_
                  exact r_zreturn o q (by decide) dX2_isAtLeast_169 (⟨b01_f' (by rw [hgq, atlS_e (by first | exact Or.inl (by omega) | exact Or.inr (Or.inl hb40) | exact Or.inr (Or.inr hb47))]; unfold atlE; first | (rw [if_pos hb143]; done) | (rw [if_neg hb143]; first | (simp [l_nle.mp hb151]; done) | (simp [show ¬ bq < dq from fun zq => absurd hb151 (l_nle.mpr zq)]; done))), rfl⟩)
                · exact absurd hb161 (by decide)
              · skip
                refine r_topi (y := nI 1) rfl ?_
                refine r_icmp_eq o (tgt := 168) dX2_isAtLeast_161 (by decide) (fun hb161 => ?_) (fun hb161 => ?_)
                · exact absurd hb161 (by decide)
                · skip
                  refine r_iconst o (v := nI 1) dX2_isAtLeast_164 (by decide) ?_
                  refine r_goto o (tgt := 169) dX2_isAtLeast_165 (by decide) ?_
                  exact r_zreturn o q (by decide) dX2_isAtLeast_169 (⟨b01_t' (by rw [hgq, atlS_e (by first | exact Or.inl (by omega) | exact Or.inr (Or.inl hb40) | exact Or.inr (Or.inr hb47))]; unfold atlE; first | (rw [if_pos hb143]; done) | (rw [if_neg hb143]; first | (simp [l_nle.mp hb151]; done) | (simp [show ¬ bq < dq from fun zq => absurd hb151 (l_nle.mpr zq)]; done))), rfl⟩)
            · skip
              rw [lg_cmp_ge] at hb151
              refine r_iconst o (v := nI 1) dX2_isAtLeast_154 (by decide) ?_
              refine r_goto o (tgt := 159) dX2_isAtLeast_155 (by decide) ?_
              refine r_iload o dX2_isAtLeast_159 6 rfl ?_
              cases tz
              · skip
                refine r_topi (y := nI 0) rfl ?_
                refine r_icmp_eq o (tgt := 168) dX2_isAtLeast_161 (by decide) (fun hb161 => ?_) (fun hb161 => ?_)
                · exact absurd hb161 (by decide)
                · skip
                  refine r_iconst o (v := nI 1) dX2_isAtLeast_164 (by decide) ?_
                  refine r_goto o (tgt := 169) dX2_isAtLeast_165 (by decide) ?_
                  exact r_zreturn o q (by decide) dX2_isAtLeast_169 (⟨b01_t' (by rw [hgq, atlS_e (by first | exact Or.inl (by omega) | exact Or.inr (Or.inl hb40) | exact Or.inr (Or.inr hb47))]; unfold atlE; first | (rw [if_pos hb143]; done) | (rw [if_neg hb143]; first | (simp [l_nle.mp hb151]; done) | (simp [show ¬ bq < dq from fun zq => absurd hb151 (l_nle.mpr zq)]; done))), rfl⟩)
              · skip
                refine r_topi (y := nI 1) rfl ?_
                refine r_icmp_eq o (tgt := 168) dX2_isAtLeast_161 (by decide) (fun hb161 => ?_) (fun hb161 => ?_)
                · skip
                  refine r_iconst o (v := nI 0) dX2_isAtLeast_168 (by decide) ?_
                  exact r_zreturn o q (by decide) dX2_isAtLeast_169 (⟨b01_f' (by rw [hgq, atlS_e (by first | exact Or.inl (by omega) | exact Or.inr (Or.inl hb40) | exact Or.inr (Or.inr hb47))]; unfold atlE; first | (rw [if_pos hb143]; done) | (rw [if_neg hb143]; first | (simp [l_nle.mp hb151]; done) | (simp [show ¬ bq < dq from fun zq => absurd hb151 (l_nle.mpr zq)]; done))), rfl⟩)
                · exact absurd hb161 (by decide)
        · skip
          rw [lg_cmp_le] at hb40
          refine r_lload o dX2_isAtLeast_43 5 rfl ?_
          refine r_lconst o (v := 0) dX2_isAtLeast_45 rfl ?_
          refine r_lcmp o dX2_isAtLeast_46 ?_
          refine r_if_le o (tgt := 138) dX2_isAtLeast_47 (by decide) (fun hb47 => ?_) (fun hb47 => ?_)
          · skip
            rw [lg_cmp_le] at hb47
            refine r_lload o dX2_isAtLeast_138 3 rfl ?_
            refine r_lload o dX2_isAtLeast_140 5 rfl ?_
            refine r_lcmp o dX2_isAtLeast_142 ?_
            refine r_if_eq o (tgt := 164) dX2_isAtLeast_143 (by decide) (fun hb143 => ?_) (fun hb143 => ?_)
            · skip
              rw [lg_cmp_eq] at hb143
              refine r_iconst o (v := nI 1) dX2_isAtLeast_164 (by decide) ?_
              refine r_goto o (tgt := 169) dX2_isAtLeast_165 (by decide) ?_
              exact r_zreturn o q (by decide) dX2_isAtLeast_169 (⟨b01_t' (by rw [hgq, atlS_e (by first | exact Or.inl (by omega) | exact Or.inr (Or.inl hb40) | exact Or.inr (Or.inr hb47))]; unfold atlE; first | (rw [if_pos hb143]; done) | (rw [if_neg hb143]; first | (simp [l_nle.mp hb151]; done) | (simp [show ¬ bq < dq from fun zq => absurd hb151 (l_nle.mpr zq)]; done))), rfl⟩)
            · skip
              rw [lg_cmp_eq] at hb143
              refine r_lload o dX2_isAtLeast_146 3 rfl ?_
              refine r_lload o dX2_isAtLeast_148 5 rfl ?_
              refine r_lcmp o dX2_isAtLeast_150 ?_
              refine r_if_ge o (tgt := 158) dX2_isAtLeast_151 (by decide) (fun hb151 => ?_) (fun hb151 => ?_)
              · skip
                rw [lg_cmp_ge] at hb151
                refine r_iconst o (v := nI 0) dX2_isAtLeast_158 (by decide) ?_
                refine r_iload o dX2_isAtLeast_159 6 rfl ?_
                cases tz
                · skip
                  refine r_topi (y := nI 0) rfl ?_
                  refine r_icmp_eq o (tgt := 168) dX2_isAtLeast_161 (by decide) (fun hb161 => ?_) (fun hb161 => ?_)
                  · skip
                    refine r_iconst o (v := nI 0) dX2_isAtLeast_168 (by decide) ?_
                    exact r_zreturn o q (by decide) dX2_isAtLeast_169 (⟨b01_f' (by rw [hgq, atlS_e (by first | exact Or.inl (by omega) | exact Or.inr (Or.inl hb40) | exact Or.inr (Or.inr hb47))]; unfold atlE; first | (rw [if_pos hb143]; done) | (rw [if_neg hb143]; first | (simp [l_nle.mp hb151]; done) | (simp [show ¬ bq < dq from fun zq => absurd hb151 (l_nle.mpr zq)]; done))), rfl⟩)
                  · exact absurd hb161 (by decide)
                · skip
                  refine r_topi (y := nI 1) rfl ?_
                  refine r_icmp_eq o (tgt := 168) dX2_isAtLeast_161 (by decide) (fun hb161 => ?_) (fun hb161 => ?_)
                  · exact absurd hb161 (by decide)
                  · skip
                    refine r_iconst o (v := nI 1) dX2_isAtLeast_164 (by decide) ?_
                    refine r_goto o (tgt := 169) dX2_isAtLeast_165 (by decide) ?_
                    exact r_zreturn o q (by decide) dX2_isAtLeast_169 (⟨b01_t' (by rw [hgq, atlS_e (by first | exact Or.inl (by omega) | exact Or.inr (Or.inl hb40) | exact Or.inr (Or.inr hb47))]; unfold atlE; first | (rw [if_pos hb143]; done) | (rw [if_neg hb143]; first | (simp [l_nle.mp hb151]; done) | (simp [show ¬ bq < dq from fun zq => absurd hb151 (l_nle.mpr zq)]; done))), rfl⟩)
              · skip
                rw [lg_cmp_ge] at hb151
                refine r_iconst o (v := nI 1) dX2_isAtLeast_154 (by decide) ?_
                refine r_goto o (tgt := 159) dX2_isAtLeast_155 (by decide) ?_
                refine r_iload o dX2_isAtLeast_159 6 rfl ?_
                cases tz
                · skip
                  refine r_topi (y := nI 0) rfl ?_
                  refine r_icmp_eq o (tgt := 168) dX2_isAtLeast_161 (by decide) (fun hb161 => ?_) (fun hb161 => ?_)
                  · exact absurd hb161 (by decide)
                  · skip
                    refine r_iconst o (v := nI 1) dX2_isAtLeast_164 (by decide) ?_
                    refine r_goto o (tgt := 169) dX2_isAtLeast_165 (by decide) ?_
                    exact r_zreturn o q (by decide) dX2_isAtLeast_169 (⟨b01_t' (by rw [hgq, atlS_e (by first | exact Or.inl (by omega) | exact Or.inr (Or.inl hb40) | exact Or.inr (Or.inr hb47))]; unfold atlE; first | (rw [if_pos hb143]; done) | (rw [if_neg hb143]; first | (simp [l_nle.mp hb151]; done) | (simp [show ¬ bq < dq from fun zq => absurd hb151 (l_nle.mpr zq)]; done))), rfl⟩)
                · skip
                  refine r_topi (y := nI 1) rfl ?_
                  refine r_icmp_eq o (tgt := 168) dX2_isAtLeast_161 (by decide) (fun hb161 => ?_) (fun hb161 => ?_)
                  · skip
                    refine r_iconst o (v := nI 0) dX2_isAtLeast_168 (by decide) ?_
                    exact r_zreturn o q (by decide) dX2_isAtLeast_169 (⟨b01_f' (by rw [hgq, atlS_e (by first | exact Or.inl (by omega) | exact Or.inr (Or.inl hb40) | exact Or.inr (Or.inr hb47))]; unfold atlE; first | (rw [if_pos hb143]; done) | (rw [if_neg hb143]; first | (simp [l_nle.mp hb151]; done) | (simp [show ¬ bq < dq from fun zq => absurd hb151 (l_nle.mpr zq)]; done))), rfl⟩)
                  · exact absurd hb161 (by decide)
          · skip
            rw [lg_cmp_le] at hb47
            refine r_lload_n o dX2_isAtLeast_50 2 rfl ?_
            refine r_lload o dX2_isAtLeast_51 3 rfl ?_
            refine r_ldiv o dX2_isAtLeast_53 (l_ne0 (l_nle.mp hb40)) ?_
            refine r_lload o dX2_isAtLeast_54 4 rfl ?_
            refine r_lload o dX2_isAtLeast_56 5 rfl ?_
            refine r_ldiv o dX2_isAtLeast_58 (l_ne0 (l_nle.mp hb47)) ?_
            refine r_lcmp o dX2_isAtLeast_59 ?_
            refine r_if_eq o (tgt := 92) dX2_isAtLeast_60 (by decide) (fun hb60 => ?_) (fun hb60 => ?_)
            · skip
              rw [lg_cmp_eq] at hb60
              refine r_lload_n o dX2_isAtLeast_92 2 rfl ?_
              refine r_lload o dX2_isAtLeast_93 3 rfl ?_
              refine r_lrem o dX2_isAtLeast_95 (l_ne0 (l_nle.mp hb40)) ?_
              refine r_topl (y := lrm aq bq) rfl ?_
              refine r_lstore o (lv' := [(12, .long (lrm aq bq)), (0, .ref (gad G 7)), (1, .ref (gad G 8)), (2, .long aq), (4, .long bq), (6, .long cq), (8, .long dq), (10, .int (b01 tz)), (11, .int (nI kq))]) dX2_isAtLeast_96 (by decide) rfl ?_
              refine r_lload o dX2_isAtLeast_98 5 rfl ?_
              refine r_lload o dX2_isAtLeast_100 6 rfl ?_
              refine r_lrem o dX2_isAtLeast_102 (l_ne0 (l_nle.mp hb47)) ?_
              refine r_topl (y := lrm cq dq) rfl ?_
              refine r_lstore o (lv' := [(14, .long (lrm cq dq)), (12, .long (lrm aq bq)), (0, .ref (gad G 7)), (1, .ref (gad G 8)), (2, .long aq), (4, .long bq), (6, .long cq), (8, .long dq), (10, .int (b01 tz)), (11, .int (nI kq))]) dX2_isAtLeast_103 (by decide) rfl ?_
              refine r_lload o dX2_isAtLeast_105 5 rfl ?_
              refine r_lstore_n o (lv' := [(2, .long bq), (14, .long (lrm cq dq)), (12, .long (lrm aq bq)), (0, .ref (gad G 7)), (1, .ref (gad G 8)), (4, .long bq), (6, .long cq), (8, .long dq), (10, .int (b01 tz)), (11, .int (nI kq))]) dX2_isAtLeast_107 (by decide) rfl ?_
              refine r_lload o dX2_isAtLeast_108 2 rfl ?_
              refine r_lstore o (lv' := [(4, .long (lrm aq bq)), (2, .long bq), (14, .long (lrm cq dq)), (12, .long (lrm aq bq)), (0, .ref (gad G 7)), (1, .ref (gad G 8)), (6, .long cq), (8, .long dq), (10, .int (b01 tz)), (11, .int (nI kq))]) dX2_isAtLeast_110 (by decide) rfl ?_
              refine r_lload o dX2_isAtLeast_112 7 rfl ?_
              refine r_lstore o (lv' := [(6, .long dq), (4, .long (lrm aq bq)), (2, .long bq), (14, .long (lrm cq dq)), (12, .long (lrm aq bq)), (0, .ref (gad G 7)), (1, .ref (gad G 8)), (8, .long dq), (10, .int (b01 tz)), (11, .int (nI kq))]) dX2_isAtLeast_114 (by decide) rfl ?_
              refine r_lload o dX2_isAtLeast_116 3 rfl ?_
              refine r_lstore o (lv' := [(8, .long (lrm cq dq)), (6, .long dq), (4, .long (lrm aq bq)), (2, .long bq), (14, .long (lrm cq dq)), (12, .long (lrm aq bq)), (0, .ref (gad G 7)), (1, .ref (gad G 8)), (10, .int (b01 tz)), (11, .int (nI kq))]) dX2_isAtLeast_118 (by decide) rfl ?_
              refine r_iload o dX2_isAtLeast_120 8 rfl ?_
              refine r_if_ne o (tgt := 129) dX2_isAtLeast_122 (by decide) (fun hb122 => ?_) (fun hb122 => ?_)
              · skip
                rw [b01_ne0] at hb122
                refine r_iconst o (v := nI 0) dX2_isAtLeast_129 (by decide) ?_
                refine r_topi (y := b01 (!tz)) (by rw [hb122]; rfl) ?_
                refine r_istore o (lv' := [(10, .int (b01 (!tz))), (8, .long (lrm cq dq)), (6, .long dq), (4, .long (lrm aq bq)), (2, .long bq), (14, .long (lrm cq dq)), (12, .long (lrm aq bq)), (0, .ref (gad G 7)), (1, .ref (gad G 8)), (11, .int (nI kq))]) dX2_isAtLeast_130 (by decide) rfl ?_
                refine r_iinc o (v := nI (kq + 1)) (lv' := [(11, .int (nI (kq + 1))), (10, .int (b01 (!tz))), (8, .long (lrm cq dq)), (6, .long dq), (4, .long (lrm aq bq)), (2, .long bq), (14, .long (lrm cq dq)), (12, .long (lrm aq bq)), (0, .ref (gad G 7)), (1, .ref (gad G 8))]) dX2_isAtLeast_132 9 rfl (nI_inc _) (by decide) rfl ?_
                refine r_goto o (tgt := 29) dX2_isAtLeast_135 (by decide) ?_
                exact r_to rfl [8, 9, 5, 4, 3, 2, 1, 0] rfl (ih29 (kq + 1) bq (lrm aq bq) dq (lrm cq dq) (!tz) (by omega) (by rw [hgq, show 100 - kq = (100 - (kq + 1)) + 1 by omega]; exact atlS_s hb40 hb47 hb60) (by omega))
              · skip
                rw [b01_eq0] at hb122
                refine r_iconst o (v := nI 1) dX2_isAtLeast_125 (by decide) ?_
                refine r_goto o (tgt := 130) dX2_isAtLeast_126 (by decide) ?_
                refine r_topi (y := b01 (!tz)) (by rw [hb122]; rfl) ?_
                refine r_istore o (lv' := [(10, .int (b01 (!tz))), (8, .long (lrm cq dq)), (6, .long dq), (4, .long (lrm aq bq)), (2, .long bq), (14, .long (lrm cq dq)), (12, .long (lrm aq bq)), (0, .ref (gad G 7)), (1, .ref (gad G 8)), (11, .int (nI kq))]) dX2_isAtLeast_130 (by decide) rfl ?_
                refine r_iinc o (v := nI (kq + 1)) (lv' := [(11, .int (nI (kq + 1))), (10, .int (b01 (!tz))), (8, .long (lrm cq dq)), (6, .long dq), (4, .long (lrm aq bq)), (2, .long bq), (14, .long (lrm cq dq)), (12, .long (lrm aq bq)), (0, .ref (gad G 7)), (1, .ref (gad G 8))]) dX2_isAtLeast_132 9 rfl (nI_inc _) (by decide) rfl ?_
                refine r_goto o (tgt := 29) dX2_isAtLeast_135 (by decide) ?_
                exact r_to rfl [8, 9, 5, 4, 3, 2, 1, 0] rfl (ih29 (kq + 1) bq (lrm aq bq) dq (lrm cq dq) (!tz) (by omega) (by rw [hgq, show 100 - kq = (100 - (kq + 1)) + 1 by omega]; exact atlS_s hb40 hb47 hb60) (by omega))
            · skip
              rw [lg_cmp_eq] at hb60
              refine r_lload_n o dX2_isAtLeast_63 2 rfl ?_
              refine r_lload o dX2_isAtLeast_64 3 rfl ?_
              refine r_ldiv o dX2_isAtLeast_66 (l_ne0 (l_nle.mp hb40)) ?_
              refine r_lload o dX2_isAtLeast_67 4 rfl ?_
              refine r_lload o dX2_isAtLeast_69 5 rfl ?_
              refine r_ldiv o dX2_isAtLeast_71 (l_ne0 (l_nle.mp hb47)) ?_
              refine r_lcmp o dX2_isAtLeast_72 ?_
              refine r_if_le o (tgt := 80) dX2_isAtLeast_73 (by decide) (fun hb73 => ?_) (fun hb73 => ?_)
              · skip
                rw [lg_cmp_le] at hb73
                refine r_iconst o (v := nI 0) dX2_isAtLeast_80 (by decide) ?_
                refine r_iload o dX2_isAtLeast_81 6 rfl ?_
                cases tz
                · skip
                  refine r_topi (y := nI 0) rfl ?_
                  refine r_icmp_eq o (tgt := 90) dX2_isAtLeast_83 (by decide) (fun hb83 => ?_) (fun hb83 => ?_)
                  · skip
                    refine r_iconst o (v := nI 0) dX2_isAtLeast_90 (by decide) ?_
                    exact r_zreturn o q (by decide) dX2_isAtLeast_91 (⟨b01_f' (by rw [hgq, show 100 - kq = (100 - (kq + 1)) + 1 by omega, atlS_d hb40 hb47 hb60]; first | (simp [l_nle.mp hb73]; done) | (simp [show ¬ cq / dq < aq / bq from fun zq => absurd hb73 (l_nle.mpr zq)]; done)), rfl⟩)
                  · exact absurd hb83 (by decide)
                · skip
                  refine r_topi (y := nI 1) rfl ?_
                  refine r_icmp_eq o (tgt := 90) dX2_isAtLeast_83 (by decide) (fun hb83 => ?_) (fun hb83 => ?_)
                  · exact absurd hb83 (by decide)
                  · skip
                    refine r_iconst o (v := nI 1) dX2_isAtLeast_86 (by decide) ?_
                    refine r_goto o (tgt := 91) dX2_isAtLeast_87 (by decide) ?_
                    exact r_zreturn o q (by decide) dX2_isAtLeast_91 (⟨b01_t' (by rw [hgq, show 100 - kq = (100 - (kq + 1)) + 1 by omega, atlS_d hb40 hb47 hb60]; first | (simp [l_nle.mp hb73]; done) | (simp [show ¬ cq / dq < aq / bq from fun zq => absurd hb73 (l_nle.mpr zq)]; done)), rfl⟩)
              · skip
                rw [lg_cmp_le] at hb73
                refine r_iconst o (v := nI 1) dX2_isAtLeast_76 (by decide) ?_
                refine r_goto o (tgt := 81) dX2_isAtLeast_77 (by decide) ?_
                refine r_iload o dX2_isAtLeast_81 6 rfl ?_
                cases tz
                · skip
                  refine r_topi (y := nI 0) rfl ?_
                  refine r_icmp_eq o (tgt := 90) dX2_isAtLeast_83 (by decide) (fun hb83 => ?_) (fun hb83 => ?_)
                  · exact absurd hb83 (by decide)
                  · skip
                    refine r_iconst o (v := nI 1) dX2_isAtLeast_86 (by decide) ?_
                    refine r_goto o (tgt := 91) dX2_isAtLeast_87 (by decide) ?_
                    exact r_zreturn o q (by decide) dX2_isAtLeast_91 (⟨b01_t' (by rw [hgq, show 100 - kq = (100 - (kq + 1)) + 1 by omega, atlS_d hb40 hb47 hb60]; first | (simp [l_nle.mp hb73]; done) | (simp [show ¬ cq / dq < aq / bq from fun zq => absurd hb73 (l_nle.mpr zq)]; done)), rfl⟩)
                · skip
                  refine r_topi (y := nI 1) rfl ?_
                  refine r_icmp_eq o (tgt := 90) dX2_isAtLeast_83 (by decide) (fun hb83 => ?_) (fun hb83 => ?_)
                  · skip
                    refine r_iconst o (v := nI 0) dX2_isAtLeast_90 (by decide) ?_
                    exact r_zreturn o q (by decide) dX2_isAtLeast_91 (⟨b01_f' (by rw [hgq, show 100 - kq = (100 - (kq + 1)) + 1 by omega, atlS_d hb40 hb47 hb60]; first | (simp [l_nle.mp hb73]; done) | (simp [show ¬ cq / dq < aq / bq from fun zq => absurd hb73 (l_nle.mpr zq)]; done)), rfl⟩)
                  · exact absurd hb83 (by decide)
  refine r_lv (lv' := [(11, .int (nI 0)), (10, .int (b01 false)), (8, .long d0q), (6, .long c0q), (4, .long b0q), (2, .long a0q), (0, .ref (gad G 7)), (1, .ref (gad G 8))]) (congrArg (fun zz => ([(11, .int (nI 0)), (10, .int zz), (8, .long d0q), (6, .long c0q), (4, .long b0q), (2, .long a0q), (0, .ref (gad G 7)), (1, .ref (gad G 8))] : List (Nat × Value))) (show nI 0 = b01 false from rfl)) ?_
  exact r_to rfl [6, 7, 5, 4, 3, 2, 1, 0] rfl (L29 _ 0 a0q b0q c0q d0q false (by omega) rfl (Nat.lt_succ_self _))
set_option maxHeartbeats 4000000 in
set_option maxRecDepth 100000 in
theorem c_X1_putLean (l : Launch) (G : Gl) (σ : Sto) (cntq : Nat) (prq : Nat) (trq : Nat) (hdr : DrO σ cntq prq trq) (pf2 : Nat → Int32) (hpf : (σ 29).1 = pf2) : CtV l G yX1_putLean cX1_putLean 8 none 2 56 [.ref (gad G 9), .ref (gad G 7)] σ (fun σ' => σ' = stl (stl σ 7 0 (fU (leanU pf2 prq cntq) (leanD prq cntq))) 7 1 (fL (leanU pf2 prq cntq) (leanD prq cntq))) := by
  refine CtV.of (by decide +kernel) (Nat.le_of_ble_eq_true rfl) (fun X o q => ?_)
  show WS X G 8 σ 0 [(0, .ref (gad G 9)), (1, .ref (gad G 7))] []
  obtain ⟨hcq, hcnt, hpr, hprl, htr, htrl⟩ := id hdr
  have hpr20 : prq < 1048576 := pow_up hprl hcnt
  refine r_lconst o (v := 0) dX1_putLean_0 rfl ?_
  refine r_lstore_n o (lv' := [(2, .long 0), (0, .ref (gad G 9)), (1, .ref (gad G 7))]) dX1_putLean_1 (by decide) rfl ?_
  refine r_lconst o (v := 0) dX1_putLean_2 rfl ?_
  refine r_lstore o (lv' := [(4, .long 0), (2, .long 0), (0, .ref (gad G 9)), (1, .ref (gad G 7))]) dX1_putLean_3 (by decide) rfl ?_
  refine r_iconst o (v := nI 0) dX1_putLean_5 (by decide) ?_
  refine r_istore o (lv' := [(6, .int (nI 0)), (4, .long 0), (2, .long 0), (0, .ref (gad G 9)), (1, .ref (gad G 7))]) dX1_putLean_6 (by decide) rfl ?_
  have L8 : ∀ (n : Nat) (kq : Nat) (hkq : kq ≤ cntq), cntq - kq < n → WS X G 8 σ 8 [(0, .ref (gad G 9)), (1, .ref (gad G 7)), (2, .long (sumL pf2 kq)), (4, .long (psL pf2 prq kq)), (6, .int (nI kq))] [] := by
    intro n
    induction n with
    | zero => intro kq hkq hm; exact absurd hm (Nat.not_lt_zero _)
    | succ n ih8 =>
      intro kq hkq hm
      refine r_iload o dX1_putLean_8 4 rfl ?_
      refine r_aload_n o dX1_putLean_10 0 rfl ?_
      refine gf_9_3 o (v := nI cntq) hcq mw_200 dX1_putLean_11 ?_
      refine r_icmp_ge o (tgt := 56) dX1_putLean_14 (by decide) (fun hb14 => ?_) (fun hb14 => ?_)
      · skip
        rw [nI_leI (by omega) (by omega)] at hb14
        obtain rfl : cntq = kq := by omega
        refine r_aload_n o dX1_putLean_56 0 rfl ?_
        refine gf_9_4 o (v := nI prq) hpr mw_202 dX1_putLean_57 ?_
        refine r_callSI o (As := [.int (nI prq)]) (st := []) (c_J6_bitCount_0f7a4 (xl X) G σ prq hpr20) om_J6_bitCount_0f7a4 mw_529 mw_620 (by decide) rfl rfl (Nat.le_of_ble_eq_true rfl) dX1_putLean_60 (fun rr60 σσ60 hp60 => ?_)
        obtain ⟨hp60, hp60b⟩ := hp60; replace hp60 := Eq.symm hp60; replace hp60b := Eq.symm hp60b; subst hp60; subst hp60b
        refine r_i2l o dX1_putLean_63 rfl ?_
        refine r_lstore o (lv' := [(6, .long ((nI (popc prq)).toInt64)), (0, .ref (gad G 9)), (1, .ref (gad G 7)), (2, .long (sumL pf2 cntq)), (4, .long (psL pf2 prq cntq))]) dX1_putLean_64 (by decide) rfl ?_
        refine r_aload_n o dX1_putLean_66 2 rfl ?_
        refine r_lload o dX1_putLean_67 4 rfl ?_
        refine r_aload_n o dX1_putLean_69 1 rfl ?_
        refine gf_9_3 o (v := nI cntq) hcq mw_200 dX1_putLean_70 ?_
        refine r_i2l o dX1_putLean_73 rfl ?_
        refine r_lmul o dX1_putLean_74 ?_
        refine r_lload_n o dX1_putLean_75 3 rfl ?_
        refine r_lload o dX1_putLean_76 0 rfl ?_
        refine r_lmul o dX1_putLean_78 ?_
        refine r_lsub o dX1_putLean_79 ?_
        refine r_lload o dX1_putLean_80 0 rfl ?_
        refine r_aload_n o dX1_putLean_82 1 rfl ?_
        refine gf_9_3 o (v := nI cntq) hcq mw_200 dX1_putLean_83 ?_
        refine r_i2l o dX1_putLean_86 rfl ?_
        refine r_lmul o dX1_putLean_87 ?_
        refine r_callVV o (As := [.long (((psL pf2 prq cntq) * ((nI cntq).toInt64)) - ((sumL pf2 cntq) * ((nI (popc prq)).toInt64))), .long (((nI (popc prq)).toInt64) * ((nI cntq).toInt64))]) (st := []) (c_X2_put_7 (xl X) G σ (((psL pf2 prq cntq) * ((nI cntq).toInt64)) - ((sumL pf2 cntq) * ((nI (popc prq)).toInt64))) (((nI (popc prq)).toInt64) * ((nI cntq).toInt64))) om_X2_put mw_438 mw_439 mw_621 (by decide) rfl rfl rfl (by decide) rfl rfl (Nat.le_of_ble_eq_true rfl) dX1_putLean_88 (fun σσ88 hp88 => ?_)
        replace hp88 := Eq.symm hp88; subst hp88
        exact r_return o q dX1_putLean_91 rfl
      · skip
        rw [nI_leI (by omega) (by omega)] at hb14
        refine r_lload_n o dX1_putLean_17 2 rfl ?_
        refine r_aload_n o dX1_putLean_18 0 rfl ?_
        refine gf_9_2 o mw_198 dX1_putLean_19 ?_
        refine r_iload o dX1_putLean_22 4 rfl ?_
        refine r_ia o (by decide) ia_29 (f := pf2) hpf kq rfl (by omega) (by decide) dX1_putLean_24 ?_
        refine r_i2l o dX1_putLean_25 rfl ?_
        refine r_ladd o dX1_putLean_26 ?_
        refine r_lstore_n o (lv' := [(2, .long ((sumL pf2 kq) + ((pf2 kq).toInt64))), (0, .ref (gad G 9)), (1, .ref (gad G 7)), (4, .long (psL pf2 prq kq)), (6, .int (nI kq))]) dX1_putLean_27 (by decide) rfl ?_
        refine r_aload_n o dX1_putLean_28 1 rfl ?_
        refine r_iload o dX1_putLean_29 4 rfl ?_
        refine r_callVI o (As := [.int (nI kq)]) (st := []) (c_X1_isPrinted (xl X) G σ cntq prq trq hdr kq (by omega)) om_X1_isPrinted mw_600 mw_601 mw_619 (by decide) rfl rfl rfl (by decide) rfl rfl (Nat.le_of_ble_eq_true rfl) dX1_putLean_31 (fun rr31 σσ31 hp31 => ?_)
        obtain ⟨hp31, hp31b⟩ := hp31; replace hp31 := Eq.symm hp31; replace hp31b := Eq.symm hp31b; subst hp31; subst hp31b
        refine r_if_eq o (tgt := 50) dX1_putLean_34 (by decide) (fun hb34 => ?_) (fun hb34 => ?_)
        · skip
          rw [b01_eq0] at hb34
          refine r_lv (lv' := [(2, .long ((sumL pf2 kq) + ((pf2 kq).toInt64))), (0, .ref (gad G 9)), (1, .ref (gad G 7)), (4, .long (psL pf2 prq (kq + 1))), (6, .int (nI kq))]) (congrArg (fun zz => ([(2, .long ((sumL pf2 kq) + ((pf2 kq).toInt64))), (0, .ref (gad G 9)), (1, .ref (gad G 7)), (4, .long zz), (6, .int (nI kq))] : List (Nat × Value))) (show psL pf2 prq kq = psL pf2 prq (kq + 1) from (if_neg (by rw [hb34]; exact Bool.false_ne_true)).symm)) ?_
          refine r_iinc o (v := nI (kq + 1)) (lv' := [(6, .int (nI (kq + 1))), (2, .long ((sumL pf2 kq) + ((pf2 kq).toInt64))), (0, .ref (gad G 9)), (1, .ref (gad G 7)), (4, .long (psL pf2 prq (kq + 1)))]) dX1_putLean_50 4 rfl (nI_inc _) (by decide) rfl ?_
          refine r_goto o (tgt := 8) dX1_putLean_53 (by decide) ?_
          exact r_to rfl [2, 3, 1, 4, 0] rfl (ih8 (kq + 1) (by omega) (by omega))
        · skip
          rw [b01_ne0] at hb34
          refine r_lload o dX1_putLean_37 3 rfl ?_
          refine r_aload_n o dX1_putLean_39 1 rfl ?_
          refine gf_9_2 o mw_198 dX1_putLean_40 ?_
          refine r_iload o dX1_putLean_43 4 rfl ?_
          refine r_ia o (by decide) ia_29 (f := pf2) hpf kq rfl (by omega) (by decide) dX1_putLean_45 ?_
          refine r_i2l o dX1_putLean_46 rfl ?_
          refine r_ladd o dX1_putLean_47 ?_
          refine r_lstore o (lv' := [(4, .long ((psL pf2 prq kq) + ((pf2 kq).toInt64))), (2, .long ((sumL pf2 kq) + ((pf2 kq).toInt64))), (0, .ref (gad G 9)), (1, .ref (gad G 7)), (6, .int (nI kq))]) dX1_putLean_48 (by decide) rfl ?_
          refine r_lv (lv' := [(4, .long (psL pf2 prq (kq + 1))), (2, .long ((sumL pf2 kq) + ((pf2 kq).toInt64))), (0, .ref (gad G 9)), (1, .ref (gad G 7)), (6, .int (nI kq))]) (congrArg (fun zz => ([(4, .long zz), (2, .long ((sumL pf2 kq) + ((pf2 kq).toInt64))), (0, .ref (gad G 9)), (1, .ref (gad G 7)), (6, .int (nI kq))] : List (Nat × Value))) (show psL pf2 prq kq + (pf2 kq).toInt64 = psL pf2 prq (kq + 1) from (if_pos hb34).symm)) ?_
          refine r_iinc o (v := nI (kq + 1)) (lv' := [(6, .int (nI (kq + 1))), (4, .long (psL pf2 prq (kq + 1))), (2, .long ((sumL pf2 kq) + ((pf2 kq).toInt64))), (0, .ref (gad G 9)), (1, .ref (gad G 7))]) dX1_putLean_50 4 rfl (nI_inc _) (by decide) rfl ?_
          refine r_goto o (tgt := 8) dX1_putLean_53 (by decide) ?_
          exact r_to rfl [3, 4, 2, 1, 0] rfl (ih8 (kq + 1) (by omega) (by omega))
  exact r_to rfl [3, 4, 2, 1, 0] rfl (L8 _ 0 (by omega) (Nat.lt_succ_self _))
