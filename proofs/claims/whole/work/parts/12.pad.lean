set_option maxHeartbeats 4000000 in
set_option maxRecDepth 100000 in
theorem c_X5_isFull (l : Launch) (G : Gl) (σ : Sto) (sn : Nat → Nat) (cntq : Nat) (hp : PadO σ sn cntq) : CtI l G yX5_isFull cX5_isFull 1 (some .boolean) 0 0 [.ref (gad G 1)] σ (fun r σ' => r = b01 (decide (20 ≤ cntq)) ∧ σ' = σ) := by
  refine CtI.of (by decide +kernel) (Nat.le_of_ble_eq_true rfl) (fun X o q => ?_)
  show WS X G 1 σ 0 [(0, .ref (gad G 1))] []
  obtain ⟨hcq, hcnt, hsg, hsn⟩ := id hp
  refine r_aload_n o dX5_isFull_0 0 rfl ?_
  refine gf_1_1 o (v := nI cntq) hcq mw_67 dX5_isFull_1 ?_
  refine r_bipush o (v := nI 20) dX5_isFull_4 (by decide) ?_
  refine r_icmp_lt o (tgt := 13) dX5_isFull_6 (by decide) (fun hb6 => ?_) (fun hb6 => ?_)
  · skip
    rw [nI_ltI (by omega) (by omega)] at hb6
    refine r_iconst o (v := nI 0) dX5_isFull_13 (by decide) ?_
    exact r_zreturn o q (by decide) dX5_isFull_14 (⟨b01_f' (by simp; omega), rfl⟩)
  · skip
    rw [nI_ltI (by omega) (by omega)] at hb6
    refine r_iconst o (v := nI 1) dX5_isFull_9 (by decide) ?_
    refine r_goto o (tgt := 14) dX5_isFull_10 (by decide) ?_
    exact r_zreturn o q (by decide) dX5_isFull_14 (⟨b01_t' (by simp; omega), rfl⟩)
set_option maxHeartbeats 4000000 in
set_option maxRecDepth 100000 in
theorem c_X5_clear (l : Launch) (G : Gl) (σ : Sto)  : CtV l G yX5_clear cX5_clear 1 none 0 0 [.ref (gad G 1)] σ (fun σ' => σ' = sti σ 1 1 (nI 0)) := by
  refine CtV.of (by decide +kernel) (Nat.le_of_ble_eq_true rfl) (fun X o q => ?_)
  show WS X G 1 σ 0 [(0, .ref (gad G 1))] []
  refine r_aload_n o dX5_clear_0 0 rfl ?_
  refine r_iconst o (v := nI 0) dX5_clear_1 (by decide) ?_
  refine pf_1_1 o mw_67 dX5_clear_2 ?_
  exact r_return o q dX5_clear_5 rfl
set_option maxHeartbeats 4000000 in
set_option maxRecDepth 100000 in
theorem c_X5_add (l : Launch) (G : Gl) (σ : Sto) (sn : Nat → Nat) (cntq : Nat) (hp : PadO σ sn cntq) (kq : Nat) (hk : cntq < 20) : CtV l G yX5_add cX5_add 2 none 1 20 [.ref (gad G 1), .int (nI kq)] σ (fun σ' => σ' = sti (sti σ 19 cntq (nI kq)) 1 1 (nI (cntq + 1))) := by
  refine CtV.of (by decide +kernel) (Nat.le_of_ble_eq_true rfl) (fun X o q => ?_)
  show WS X G 2 σ 0 [(0, .ref (gad G 1)), (1, .int (nI kq))] []
  obtain ⟨hcq, hcnt, hsg, hsn⟩ := id hp
  refine r_aload_n o dX5_add_0 0 rfl ?_
  refine r_callVI o (As := []) (st := []) (c_X5_isFull (xl X) G σ sn cntq hp) om_X5_isFull mw_293 mw_294 mw_300 (by decide) rfl rfl rfl (by decide) rfl rfl (Nat.le_of_ble_eq_true rfl) dX5_add_1 (fun rr1 σσ1 hp1 => ?_)
  obtain ⟨hp1, hp1b⟩ := hp1; replace hp1 := Eq.symm hp1; replace hp1b := Eq.symm hp1b; subst hp1; subst hp1b
  refine r_if_ne o (tgt := 27) dX5_add_4 (by decide) (fun hb4 => ?_) (fun hb4 => ?_)
  · skip
    rw [b01_ne0] at hb4
    exact absurd (decide_eq_true_eq.mp hb4) (by omega)
  · skip
    rw [b01_eq0] at hb4
    refine r_aload_n o dX5_add_7 0 rfl ?_
    refine gf_1_0 o mw_66 dX5_add_8 ?_
    refine r_aload_n o dX5_add_11 0 rfl ?_
    refine gf_1_1 o (v := nI cntq) hcq mw_67 dX5_add_12 ?_
    refine r_iload_n o dX5_add_15 1 rfl ?_
    refine r_iast o (by decide) ia_19 cntq rfl (by omega) (by decide) dX5_add_16 ?_
    refine r_aload_n o dX5_add_17 0 rfl ?_
    refine r_dup o dX5_add_18 rfl ?_
    refine gf_1_1 (σ := sti σ 19 cntq (nI kq)) o (v := nI cntq) hcq mw_67 dX5_add_19 ?_
    refine r_iconst o (v := nI 1) dX5_add_22 (by decide) ?_
    refine r_iadd o dX5_add_23 ?_
    refine r_topi (y := nI (cntq + 1)) (nI_add' _ _) ?_
    refine pf_1_1 o mw_67 dX5_add_24 ?_
    exact r_return o q dX5_add_27 rfl
set_option maxHeartbeats 4000000 in
set_option maxRecDepth 100000 in
theorem c_X5_digitsBehind (l : Launch) (G : Gl) (σ : Sto) (cq : Nat) (hcq : cq < 127) : CtI l G yX5_digitsBehind cX5_digitsBehind 1 (some .int) 0 0 [.int (nI cq)] σ (fun r σ' => r = dgI cq ∧ σ' = σ) := by
  refine CtI.of (by decide +kernel) (Nat.le_of_ble_eq_true rfl) (fun X o q => ?_)
  show WS X G 1 σ 0 [(0, .int (nI cq))] []
  refine r_iload_n o dX5_digitsBehind_0 0 rfl ?_
  by_cases hs1_99 : cq = 99
  · skip
    refine r_topi (y := nI 99) (by rw [hs1_99]) ?_
    refine r_lookup o (off := 57) (tgt := 58) dX5_digitsBehind_1 (by decide) (by decide) (by decide) ?_
    refine r_iconst o (v := nI 4) dX5_digitsBehind_58 (by decide) ?_
    exact r_ireturn o q dX5_digitsBehind_59 (⟨by first | (rw [hs1_99]; rfl) | (rw [hs1_100]; rfl) | (rw [hs1_108]; rfl) | (rw [hs1_115]; rfl) | (rw [hs1_116]; rfl) | (unfold dgI digs; rw [if_neg hs1_99, if_neg hs1_100, if_neg hs1_108, if_neg hs1_115, if_neg hs1_116]), rfl⟩)
  by_cases hs1_100 : cq = 100
  · skip
    refine r_topi (y := nI 100) (by rw [hs1_100]) ?_
    refine r_lookup o (off := 51) (tgt := 52) dX5_digitsBehind_1 (by decide) (by decide) (by decide) ?_
    refine r_iconst o (v := nI 0) dX5_digitsBehind_52 (by decide) ?_
    exact r_ireturn o q dX5_digitsBehind_53 (⟨by first | (rw [hs1_99]; rfl) | (rw [hs1_100]; rfl) | (rw [hs1_108]; rfl) | (rw [hs1_115]; rfl) | (rw [hs1_116]; rfl) | (unfold dgI digs; rw [if_neg hs1_99, if_neg hs1_100, if_neg hs1_108, if_neg hs1_115, if_neg hs1_116]), rfl⟩)
  by_cases hs1_108 : cq = 108
  · skip
    refine r_topi (y := nI 108) (by rw [hs1_108]) ?_
    refine r_lookup o (off := 53) (tgt := 54) dX5_digitsBehind_1 (by decide) (by decide) (by decide) ?_
    refine r_iconst o (v := nI 1) dX5_digitsBehind_54 (by decide) ?_
    exact r_ireturn o q dX5_digitsBehind_55 (⟨by first | (rw [hs1_99]; rfl) | (rw [hs1_100]; rfl) | (rw [hs1_108]; rfl) | (rw [hs1_115]; rfl) | (rw [hs1_116]; rfl) | (unfold dgI digs; rw [if_neg hs1_99, if_neg hs1_100, if_neg hs1_108, if_neg hs1_115, if_neg hs1_116]), rfl⟩)
  by_cases hs1_115 : cq = 115
  · skip
    refine r_topi (y := nI 115) (by rw [hs1_115]) ?_
    refine r_lookup o (off := 53) (tgt := 54) dX5_digitsBehind_1 (by decide) (by decide) (by decide) ?_
    refine r_iconst o (v := nI 1) dX5_digitsBehind_54 (by decide) ?_
    exact r_ireturn o q dX5_digitsBehind_55 (⟨by first | (rw [hs1_99]; rfl) | (rw [hs1_100]; rfl) | (rw [hs1_108]; rfl) | (rw [hs1_115]; rfl) | (rw [hs1_116]; rfl) | (unfold dgI digs; rw [if_neg hs1_99, if_neg hs1_100, if_neg hs1_108, if_neg hs1_115, if_neg hs1_116]), rfl⟩)
  by_cases hs1_116 : cq = 116
  · skip
    refine r_topi (y := nI 116) (by rw [hs1_116]) ?_
    refine r_lookup o (off := 55) (tgt := 56) dX5_digitsBehind_1 (by decide) (by decide) (by decide) ?_
    refine r_iconst o (v := nI 2) dX5_digitsBehind_56 (by decide) ?_
    exact r_ireturn o q dX5_digitsBehind_57 (⟨by first | (rw [hs1_99]; rfl) | (rw [hs1_100]; rfl) | (rw [hs1_108]; rfl) | (rw [hs1_115]; rfl) | (rw [hs1_116]; rfl) | (unfold dgI digs; rw [if_neg hs1_99, if_neg hs1_100, if_neg hs1_108, if_neg hs1_115, if_neg hs1_116]), rfl⟩)
  refine r_lookup o (off := 59) (tgt := 60) dX5_digitsBehind_1 (by decide) (lk_def (by rw [nI_toInt (by omega)]; simp; omega)) (by decide) ?_
  refine r_bipush o (v := (-6)) dX5_digitsBehind_60 (by decide) ?_
  exact r_ireturn o q dX5_digitsBehind_62 (⟨by first | (rw [hs1_99]; rfl) | (rw [hs1_100]; rfl) | (rw [hs1_108]; rfl) | (rw [hs1_115]; rfl) | (rw [hs1_116]; rfl) | (unfold dgI digs; rw [if_neg hs1_99, if_neg hs1_100, if_neg hs1_108, if_neg hs1_115, if_neg hs1_116]), rfl⟩)
set_option maxHeartbeats 4000000 in
set_option maxRecDepth 100000 in
theorem c_X5_digitAt (l : Launch) (G : Gl) (σ : Sto) (sn : Nat → Nat) (cntq : Nat) (hp : PadO σ sn cntq) (jq : Nat) (hj : jq < 100) : CtI l G yX5_digitAt cX5_digitAt 2 (some .int) 0 0 [.ref (gad G 1), .int (nI jq)] σ (fun r σ' => r = digI sn cntq jq ∧ σ' = σ) := by
  refine CtI.of (by decide +kernel) (Nat.le_of_ble_eq_true rfl) (fun X o q => ?_)
  show WS X G 2 σ 0 [(0, .ref (gad G 1)), (1, .int (nI jq))] []
  obtain ⟨hcq, hcnt, hsg, hsn⟩ := id hp
  have hsj := hsn jq
  refine r_iload_n o dX5_digitAt_0 1 rfl ?_
  refine r_if_lt o (tgt := 12) dX5_digitAt_1 (by decide) (fun hb1 => ?_) (fun hb1 => ?_)
  · skip
    rw [nI_lt0 (by omega)] at hb1
    exact absurd hb1 (Nat.not_lt_zero _)
  · skip
    rw [nI_lt0 (by omega)] at hb1
    refine r_iload_n o dX5_digitAt_4 1 rfl ?_
    refine r_aload_n o dX5_digitAt_5 0 rfl ?_
    refine gf_1_1 o (v := nI cntq) hcq mw_67 dX5_digitAt_6 ?_
    refine r_icmp_lt o (tgt := 15) dX5_digitAt_9 (by decide) (fun hb9 => ?_) (fun hb9 => ?_)
    · skip
      rw [nI_ltI (by omega) (by omega)] at hb9
      refine r_aload_n o dX5_digitAt_15 0 rfl ?_
      refine gf_1_0 o mw_66 dX5_digitAt_16 ?_
      refine r_iload_n o dX5_digitAt_19 1 rfl ?_
      refine r_ia o (by decide) ia_19 (f := (σ 19).1) rfl jq rfl (by omega) (by decide) dX5_digitAt_20 ?_
      refine r_topi (y := nI (sn jq)) (hsg _ (by omega)) ?_
      refine r_bipush o (v := nI 48) dX5_digitAt_21 (by decide) ?_
      refine r_icmp_lt o (tgt := 49) dX5_digitAt_23 (by decide) (fun hb23 => ?_) (fun hb23 => ?_)
      · skip
        rw [nI_ltI (by omega) (by omega)] at hb23
        refine r_bipush o (v := (-6)) dX5_digitAt_49 (by decide) ?_
        exact r_ireturn o q dX5_digitAt_51 (⟨(if_neg (fun zq => by omega)).symm, rfl⟩)
      · skip
        rw [nI_ltI (by omega) (by omega)] at hb23
        refine r_aload_n o dX5_digitAt_26 0 rfl ?_
        refine gf_1_0 o mw_66 dX5_digitAt_27 ?_
        refine r_iload_n o dX5_digitAt_30 1 rfl ?_
        refine r_ia o (by decide) ia_19 (f := (σ 19).1) rfl jq rfl (by omega) (by decide) dX5_digitAt_31 ?_
        refine r_topi (y := nI (sn jq)) (hsg _ (by omega)) ?_
        refine r_bipush o (v := nI 57) dX5_digitAt_32 (by decide) ?_
        refine r_icmp_gt o (tgt := 49) dX5_digitAt_34 (by decide) (fun hb34 => ?_) (fun hb34 => ?_)
        · skip
          rw [nI_ltI (by omega) (by omega)] at hb34
          refine r_bipush o (v := (-6)) dX5_digitAt_49 (by decide) ?_
          exact r_ireturn o q dX5_digitAt_51 (⟨(if_neg (fun zq => by omega)).symm, rfl⟩)
        · skip
          rw [nI_ltI (by omega) (by omega)] at hb34
          refine r_aload_n o dX5_digitAt_37 0 rfl ?_
          refine gf_1_0 o mw_66 dX5_digitAt_38 ?_
          refine r_iload_n o dX5_digitAt_41 1 rfl ?_
          refine r_ia o (by decide) ia_19 (f := (σ 19).1) rfl jq rfl (by omega) (by decide) dX5_digitAt_42 ?_
          refine r_topi (y := nI (sn jq)) (hsg _ (by omega)) ?_
          refine r_bipush o (v := nI 48) dX5_digitAt_43 (by decide) ?_
          refine r_isub o dX5_digitAt_45 ?_
          refine r_topi (y := nI (sn jq - 48)) (nI_sub' (by omega)) ?_
          refine r_goto o (tgt := 51) dX5_digitAt_46 (by decide) ?_
          exact r_ireturn o q dX5_digitAt_51 (⟨(digI_ok (by omega) (by omega) (by omega)).symm, rfl⟩)
    · skip
      rw [nI_ltI (by omega) (by omega)] at hb9
      refine r_bipush o (v := (-6)) dX5_digitAt_12 (by decide) ?_
      exact r_ireturn o q dX5_digitAt_14 (⟨(if_neg (fun zq => by omega)).symm, rfl⟩)
set_option maxHeartbeats 4000000 in
set_option maxRecDepth 100000 in
theorem c_X5_twoDigitsAt (l : Launch) (G : Gl) (σ : Sto) (sn : Nat → Nat) (cntq : Nat) (hp : PadO σ sn cntq) (jq : Nat) (hj : jq < 99) : CtI l G yX5_twoDigitsAt cX5_twoDigitsAt 2 (some .int) 1 21 [.ref (gad G 1), .int (nI jq)] σ (fun r σ' => r = nI 10 * digI sn cntq jq + digI sn cntq (jq + 1) ∧ σ' = σ) := by
  refine CtI.of (by decide +kernel) (Nat.le_of_ble_eq_true rfl) (fun X o q => ?_)
  show WS X G 2 σ 0 [(0, .ref (gad G 1)), (1, .int (nI jq))] []
  obtain ⟨hcq, hcnt, hsg, hsn⟩ := id hp
  refine r_bipush o (v := nI 10) dX5_twoDigitsAt_0 (by decide) ?_
  refine r_aload_n o dX5_twoDigitsAt_2 0 rfl ?_
  refine r_iload_n o dX5_twoDigitsAt_3 1 rfl ?_
  refine r_callVI o (As := [.int (nI jq)]) (st := [.int (nI 10)]) (c_X5_digitAt (xl X) G σ sn cntq hp jq (by omega)) om_X5_digitAt mw_326 mw_1 mw_324 (by decide) rfl rfl rfl (by decide) rfl rfl (Nat.le_of_ble_eq_true rfl) dX5_twoDigitsAt_4 (fun rr4 σσ4 hp4 => ?_)
  obtain ⟨hp4, hp4b⟩ := hp4; replace hp4 := Eq.symm hp4; replace hp4b := Eq.symm hp4b; subst hp4; subst hp4b
  refine r_imul o dX5_twoDigitsAt_7 ?_
  refine r_aload_n o dX5_twoDigitsAt_8 0 rfl ?_
  refine r_iload_n o dX5_twoDigitsAt_9 1 rfl ?_
  refine r_iconst o (v := nI 1) dX5_twoDigitsAt_10 (by decide) ?_
  refine r_iadd o dX5_twoDigitsAt_11 ?_
  refine r_topi (y := nI (jq + 1)) (nI_add' _ _) ?_
  refine r_callVI o (As := [.int (nI (jq + 1))]) (st := [.int ((nI 10) * (digI sn cntq jq))]) (c_X5_digitAt (xl X) G σ sn cntq hp (jq + 1) (by omega)) om_X5_digitAt mw_326 mw_1 mw_324 (by decide) rfl rfl rfl (by decide) rfl rfl (Nat.le_of_ble_eq_true rfl) dX5_twoDigitsAt_12 (fun rr12 σσ12 hp12 => ?_)
  obtain ⟨hp12, hp12b⟩ := hp12; replace hp12 := Eq.symm hp12; replace hp12b := Eq.symm hp12b; subst hp12; subst hp12b
  refine r_iadd o dX5_twoDigitsAt_15 ?_
  exact r_ireturn o q dX5_twoDigitsAt_16 (⟨rfl, rfl⟩)
set_option maxHeartbeats 4000000 in
set_option maxRecDepth 100000 in
theorem c_X5_canStandInYear (l : Launch) (G : Gl) (σ : Sto) (sn : Nat → Nat) (cntq : Nat) (hp : PadO σ sn cntq) (aq : Nat) (iq : Nat) (hatq : aq + iq < cntq) (hiq1 : 1 ≤ iq ∧ iq ≤ 4) (hdgq : ∀ jq, aq < jq → jq < aq + iq → 48 ≤ sn jq ∧ sn jq ≤ 57) (dq : Nat) (hdq : dq < 10) : CtI l G yX5_canStandInYear cX5_canStandInYear 5 (some .boolean) 2 42 [.ref (gad G 1), .int (nI aq), .int (nI iq), .int (nI dq)] σ (fun r σ' => r = b01 (canY sn aq iq dq) ∧ σ' = σ) := by
  refine CtI.of (by decide +kernel) (Nat.le_of_ble_eq_true rfl) (fun X o q => ?_)
  show WS X G 5 σ 0 [(0, .ref (gad G 1)), (1, .int (nI aq)), (2, .int (nI iq)), (3, .int (nI dq))] []
  obtain ⟨hcq, hcnt, hsg, hsn⟩ := id hp
  have hf2 := fst2_lt hsn aq iq
  refine r_iload_n o dX5_canStandInYear_0 2 rfl ?_
  refine r_iconst o (v := nI 2) dX5_canStandInYear_1 (by decide) ?_
  refine r_icmp_le o (tgt := 15) dX5_canStandInYear_2 (by decide) (fun hb2 => ?_) (fun hb2 => ?_)
  · skip
    rw [nI_leI (by omega) (by omega)] at hb2
    refine r_iconst o (v := nI 0) dX5_canStandInYear_15 (by decide) ?_
    refine r_topi (y := nI (fst2 sn aq iq)) (by rw [fst2, if_neg (by omega)]) ?_
    refine r_istore o (lv' := [(4, .int (nI (fst2 sn aq iq))), (0, .ref (gad G 1)), (1, .int (nI aq)), (2, .int (nI iq)), (3, .int (nI dq))]) dX5_canStandInYear_16 (by decide) rfl ?_
    refine r_iload_n o dX5_canStandInYear_18 3 rfl ?_
    refine r_iconst o (v := nI 2) dX5_canStandInYear_19 (by decide) ?_
    refine r_irem o dX5_canStandInYear_20 (nI_z (by omega) (by omega)) ?_
    refine r_topi (y := nI (iq % 2)) (nI_rem' (by omega) (by omega) (by omega)) ?_
    refine r_iconst o (v := nI 1) dX5_canStandInYear_21 (by decide) ?_
    refine r_icmp_ne o (tgt := 52) dX5_canStandInYear_22 (by decide) (fun hb22 => ?_) (fun hb22 => ?_)
    · skip
      rw [nI_eq (by omega) (by omega)] at hb22
      refine r_bipush o (v := nI 10) dX5_canStandInYear_52 (by decide) ?_
      refine r_aload_n o dX5_canStandInYear_54 1 rfl ?_
      refine r_iload_n o dX5_canStandInYear_55 2 rfl ?_
      refine r_iload_n o dX5_canStandInYear_56 3 rfl ?_
      refine r_iadd o dX5_canStandInYear_57 ?_
      refine r_topi (y := nI (aq + iq)) (nI_add' _ _) ?_
      refine r_iconst o (v := nI 1) dX5_canStandInYear_58 (by decide) ?_
      refine r_isub o dX5_canStandInYear_59 ?_
      refine r_topi (y := nI (aq + iq - 1)) (nI_sub' (by omega)) ?_
      refine r_callVI o (As := [.int (nI (aq + iq - 1))]) (st := [.int (nI 10)]) (c_X5_digitAt (xl X) G σ sn cntq hp (aq + iq - 1) (by omega)) om_X5_digitAt mw_326 mw_1 mw_324 (by decide) rfl rfl rfl (by decide) rfl rfl (Nat.le_of_ble_eq_true rfl) dX5_canStandInYear_60 (fun rr60 σσ60 hp60 => ?_)
      obtain ⟨hp60, hp60b⟩ := hp60; replace hp60 := Eq.symm hp60; replace hp60b := Eq.symm hp60b; subst hp60; subst hp60b
      refine r_topi (y := nI (sn (aq + iq - 1) - 48)) (by have aq1 := hdgq (aq + iq - 1) (by omega) (by omega); exact digI_ok (by omega) aq1.1 aq1.2) ?_
      refine r_imul o dX5_canStandInYear_63 ?_
      refine r_topi (y := nI (10 * (sn (aq + iq - 1) - 48))) (nI_mul' _ _) ?_
      refine r_iload_n o dX5_canStandInYear_64 4 rfl ?_
      refine r_iadd o dX5_canStandInYear_65 ?_
      refine r_topi (y := nI (10 * (sn (aq + iq - 1) - 48) + dq)) (nI_add' _ _) ?_
      have hsp := hsn (aq + iq - 1)
      refine r_iload o dX5_canStandInYear_66 0 rfl ?_
      refine r_bipush o (v := nI 23) dX5_canStandInYear_68 (by decide) ?_
      refine r_callNI o (As := [.int (nI (10 * (sn (aq + iq - 1) - 48) + dq)), .int (nI (fst2 sn aq iq)), .int (nI 23)]) (st := []) (c_X9_isWithin (xl X) G σ (nI (10 * (sn (aq + iq - 1) - 48) + dq)) (nI (fst2 sn aq iq)) (nI 23)) om_X9_isWithin mw_278 mw_328 (by decide) rfl rfl (Nat.le_of_ble_eq_true rfl) dX5_canStandInYear_70 (fun rr70 σσ70 hp70 => ?_)
      obtain ⟨hp70, hp70b⟩ := hp70; replace hp70 := Eq.symm hp70; replace hp70b := Eq.symm hp70b; subst hp70; subst hp70b
      exact r_zreturn o q (b01_n _) dX5_canStandInYear_73 (⟨congrArg b01 (by unfold canY; rw [if_neg (by omega), inB_N (by omega) (by omega) (by omega)]), rfl⟩)
    · skip
      rw [nI_eq (by omega) (by omega)] at hb22
      refine r_bipush o (v := nI 10) dX5_canStandInYear_25 (by decide) ?_
      refine r_iload_n o dX5_canStandInYear_27 4 rfl ?_
      refine r_imul o dX5_canStandInYear_28 ?_
      refine r_topi (y := nI (10 * dq)) (nI_mul' _ _) ?_
      refine r_bipush o (v := nI 24) dX5_canStandInYear_29 (by decide) ?_
      refine r_icmp_ge o (tgt := 50) dX5_canStandInYear_31 (by decide) (fun hb31 => ?_) (fun hb31 => ?_)
      · skip
        rw [nI_leI (by omega) (by omega)] at hb31
        refine r_iconst o (v := nI 0) dX5_canStandInYear_50 (by decide) ?_
        exact r_zreturn o q (by decide) dX5_canStandInYear_51 (⟨b01_f' (by unfold canY; rw [if_pos (by omega)]; simp; omega), rfl⟩)
      · skip
        rw [nI_leI (by omega) (by omega)] at hb31
        refine r_bipush o (v := nI 10) dX5_canStandInYear_34 (by decide) ?_
        refine r_iload_n o dX5_canStandInYear_36 4 rfl ?_
        refine r_imul o dX5_canStandInYear_37 ?_
        refine r_topi (y := nI (10 * dq)) (nI_mul' _ _) ?_
        refine r_bipush o (v := nI 9) dX5_canStandInYear_38 (by decide) ?_
        refine r_iadd o dX5_canStandInYear_40 ?_
        refine r_topi (y := nI (10 * dq + 9)) (nI_add' _ _) ?_
        refine r_iload o dX5_canStandInYear_41 0 rfl ?_
        refine r_icmp_lt o (tgt := 50) dX5_canStandInYear_43 (by decide) (fun hb43 => ?_) (fun hb43 => ?_)
        · skip
          rw [nI_ltI (by omega) (by omega)] at hb43
          refine r_iconst o (v := nI 0) dX5_canStandInYear_50 (by decide) ?_
          exact r_zreturn o q (by decide) dX5_canStandInYear_51 (⟨b01_f' (by unfold canY; rw [if_pos (by omega)]; simp; omega), rfl⟩)
        · skip
          rw [nI_ltI (by omega) (by omega)] at hb43
          refine r_iconst o (v := nI 1) dX5_canStandInYear_46 (by decide) ?_
          refine r_goto o (tgt := 51) dX5_canStandInYear_47 (by decide) ?_
          exact r_zreturn o q (by decide) dX5_canStandInYear_51 (⟨b01_t' (by unfold canY; rw [if_pos (by omega)]; simp; omega), rfl⟩)
  · skip
    rw [nI_leI (by omega) (by omega)] at hb2
    refine r_aload_n o dX5_canStandInYear_5 0 rfl ?_
    refine r_iload_n o dX5_canStandInYear_6 1 rfl ?_
    refine r_iconst o (v := nI 1) dX5_canStandInYear_7 (by decide) ?_
    refine r_iadd o dX5_canStandInYear_8 ?_
    refine r_topi (y := nI (aq + 1)) (nI_add' _ _) ?_
    refine r_callVI o (As := [.int (nI (aq + 1))]) (st := []) (c_X5_twoDigitsAt (xl X) G σ sn cntq hp (aq + 1) (by omega)) om_X5_twoDigitsAt mw_335 mw_3 mw_333 (by decide) rfl rfl rfl (by decide) rfl rfl (Nat.le_of_ble_eq_true rfl) dX5_canStandInYear_9 (fun rr9 σσ9 hp9 => ?_)
    obtain ⟨hp9, hp9b⟩ := hp9; replace hp9 := Eq.symm hp9; replace hp9b := Eq.symm hp9b; subst hp9; subst hp9b
    refine r_topi (y := nI (twoN sn (aq + 1))) (by have aq1 := hdgq (aq + 1) (by omega) (by omega); have aq2 := hdgq (aq + 1 + 1) (by omega) (by omega); rw [digI_ok (by omega) aq1.1 aq1.2, digI_ok (by omega) aq2.1 aq2.2, nI_mul', nI_add']; rfl) ?_
    refine r_goto o (tgt := 16) dX5_canStandInYear_12 (by decide) ?_
    refine r_topi (y := nI (fst2 sn aq iq)) (by rw [fst2, if_pos (by omega)]) ?_
    refine r_istore o (lv' := [(4, .int (nI (fst2 sn aq iq))), (0, .ref (gad G 1)), (1, .int (nI aq)), (2, .int (nI iq)), (3, .int (nI dq))]) dX5_canStandInYear_16 (by decide) rfl ?_
    refine r_iload_n o dX5_canStandInYear_18 3 rfl ?_
    refine r_iconst o (v := nI 2) dX5_canStandInYear_19 (by decide) ?_
    refine r_irem o dX5_canStandInYear_20 (nI_z (by omega) (by omega)) ?_
    refine r_topi (y := nI (iq % 2)) (nI_rem' (by omega) (by omega) (by omega)) ?_
    refine r_iconst o (v := nI 1) dX5_canStandInYear_21 (by decide) ?_
    refine r_icmp_ne o (tgt := 52) dX5_canStandInYear_22 (by decide) (fun hb22 => ?_) (fun hb22 => ?_)
    · skip
      rw [nI_eq (by omega) (by omega)] at hb22
      refine r_bipush o (v := nI 10) dX5_canStandInYear_52 (by decide) ?_
      refine r_aload_n o dX5_canStandInYear_54 1 rfl ?_
      refine r_iload_n o dX5_canStandInYear_55 2 rfl ?_
      refine r_iload_n o dX5_canStandInYear_56 3 rfl ?_
      refine r_iadd o dX5_canStandInYear_57 ?_
      refine r_topi (y := nI (aq + iq)) (nI_add' _ _) ?_
      refine r_iconst o (v := nI 1) dX5_canStandInYear_58 (by decide) ?_
      refine r_isub o dX5_canStandInYear_59 ?_
      refine r_topi (y := nI (aq + iq - 1)) (nI_sub' (by omega)) ?_
      refine r_callVI o (As := [.int (nI (aq + iq - 1))]) (st := [.int (nI 10)]) (c_X5_digitAt (xl X) G σ sn cntq hp (aq + iq - 1) (by omega)) om_X5_digitAt mw_326 mw_1 mw_324 (by decide) rfl rfl rfl (by decide) rfl rfl (Nat.le_of_ble_eq_true rfl) dX5_canStandInYear_60 (fun rr60 σσ60 hp60 => ?_)
      obtain ⟨hp60, hp60b⟩ := hp60; replace hp60 := Eq.symm hp60; replace hp60b := Eq.symm hp60b; subst hp60; subst hp60b
      refine r_topi (y := nI (sn (aq + iq - 1) - 48)) (by have aq1 := hdgq (aq + iq - 1) (by omega) (by omega); exact digI_ok (by omega) aq1.1 aq1.2) ?_
      refine r_imul o dX5_canStandInYear_63 ?_
      refine r_topi (y := nI (10 * (sn (aq + iq - 1) - 48))) (nI_mul' _ _) ?_
      refine r_iload_n o dX5_canStandInYear_64 4 rfl ?_
      refine r_iadd o dX5_canStandInYear_65 ?_
      refine r_topi (y := nI (10 * (sn (aq + iq - 1) - 48) + dq)) (nI_add' _ _) ?_
      have hsp := hsn (aq + iq - 1)
      refine r_iload o dX5_canStandInYear_66 0 rfl ?_
      refine r_bipush o (v := nI 23) dX5_canStandInYear_68 (by decide) ?_
      refine r_callNI o (As := [.int (nI (10 * (sn (aq + iq - 1) - 48) + dq)), .int (nI (fst2 sn aq iq)), .int (nI 23)]) (st := []) (c_X9_isWithin (xl X) G σ (nI (10 * (sn (aq + iq - 1) - 48) + dq)) (nI (fst2 sn aq iq)) (nI 23)) om_X9_isWithin mw_278 mw_328 (by decide) rfl rfl (Nat.le_of_ble_eq_true rfl) dX5_canStandInYear_70 (fun rr70 σσ70 hp70 => ?_)
      obtain ⟨hp70, hp70b⟩ := hp70; replace hp70 := Eq.symm hp70; replace hp70b := Eq.symm hp70b; subst hp70; subst hp70b
      exact r_zreturn o q (b01_n _) dX5_canStandInYear_73 (⟨congrArg b01 (by unfold canY; rw [if_neg (by omega), inB_N (by omega) (by omega) (by omega)]), rfl⟩)
    · skip
      rw [nI_eq (by omega) (by omega)] at hb22
      refine r_bipush o (v := nI 10) dX5_canStandInYear_25 (by decide) ?_
      refine r_iload_n o dX5_canStandInYear_27 4 rfl ?_
      refine r_imul o dX5_canStandInYear_28 ?_
      refine r_topi (y := nI (10 * dq)) (nI_mul' _ _) ?_
      refine r_bipush o (v := nI 24) dX5_canStandInYear_29 (by decide) ?_
      refine r_icmp_ge o (tgt := 50) dX5_canStandInYear_31 (by decide) (fun hb31 => ?_) (fun hb31 => ?_)
      · skip
        rw [nI_leI (by omega) (by omega)] at hb31
        refine r_iconst o (v := nI 0) dX5_canStandInYear_50 (by decide) ?_
        exact r_zreturn o q (by decide) dX5_canStandInYear_51 (⟨b01_f' (by unfold canY; rw [if_pos (by omega)]; simp; omega), rfl⟩)
      · skip
        rw [nI_leI (by omega) (by omega)] at hb31
        refine r_bipush o (v := nI 10) dX5_canStandInYear_34 (by decide) ?_
        refine r_iload_n o dX5_canStandInYear_36 4 rfl ?_
        refine r_imul o dX5_canStandInYear_37 ?_
        refine r_topi (y := nI (10 * dq)) (nI_mul' _ _) ?_
        refine r_bipush o (v := nI 9) dX5_canStandInYear_38 (by decide) ?_
        refine r_iadd o dX5_canStandInYear_40 ?_
        refine r_topi (y := nI (10 * dq + 9)) (nI_add' _ _) ?_
        refine r_iload o dX5_canStandInYear_41 0 rfl ?_
        refine r_icmp_lt o (tgt := 50) dX5_canStandInYear_43 (by decide) (fun hb43 => ?_) (fun hb43 => ?_)
        · skip
          rw [nI_ltI (by omega) (by omega)] at hb43
          refine r_iconst o (v := nI 0) dX5_canStandInYear_50 (by decide) ?_
          exact r_zreturn o q (by decide) dX5_canStandInYear_51 (⟨b01_f' (by unfold canY; rw [if_pos (by omega)]; simp; omega), rfl⟩)
        · skip
          rw [nI_ltI (by omega) (by omega)] at hb43
          refine r_iconst o (v := nI 1) dX5_canStandInYear_46 (by decide) ?_
          refine r_goto o (tgt := 51) dX5_canStandInYear_47 (by decide) ?_
          exact r_zreturn o q (by decide) dX5_canStandInYear_51 (⟨b01_t' (by unfold canY; rw [if_pos (by omega)]; simp; omega), rfl⟩)
set_option maxHeartbeats 4000000 in
set_option maxRecDepth 100000 in
theorem c_X5_canStand (l : Launch) (G : Gl) (σ : Sto) (sn : Nat → Nat) (cntq : Nat) (hp : PadO σ sn cntq) (aq : Nat) (iq : Nat) (hatq : aq + iq < cntq) (hiq1 : 1 ≤ iq ∧ iq ≤ 4) (hdgq : ∀ jq, aq < jq → jq < aq + iq → 48 ≤ sn jq ∧ sn jq ≤ 57) : CtI l G yX5_canStand cX5_canStand 4 (some .boolean) 3 66 [.ref (gad G 1), .int (nI aq), .int (nI iq)] σ (fun r σ' => r = b01 (canS sn aq iq) ∧ σ' = σ) := by
  refine CtI.of (by decide +kernel) (Nat.le_of_ble_eq_true rfl) (fun X o q => ?_)
  show WS X G 4 σ 0 [(0, .ref (gad G 1)), (1, .int (nI aq)), (2, .int (nI iq))] []
  obtain ⟨hcq, hcnt, hsg, hsn⟩ := id hp
  have hsi := hsn (aq + iq)
  have hsi2 := hsn aq
  refine r_aload_n o dX5_canStand_0 0 rfl ?_
  refine r_iload_n o dX5_canStand_1 1 rfl ?_
  refine r_iload_n o dX5_canStand_2 2 rfl ?_
  refine r_iadd o dX5_canStand_3 ?_
  refine r_topi (y := nI (aq + iq)) (nI_add' _ _) ?_
  refine r_callVI o (As := [.int (nI (aq + iq))]) (st := []) (c_X5_digitAt (xl X) G σ sn cntq hp (aq + iq) (by omega)) om_X5_digitAt mw_326 mw_1 mw_324 (by decide) rfl rfl rfl (by decide) rfl rfl (Nat.le_of_ble_eq_true rfl) dX5_canStand_4 (fun rr4 σσ4 hp4 => ?_)
  obtain ⟨hp4, hp4b⟩ := hp4; replace hp4 := Eq.symm hp4; replace hp4b := Eq.symm hp4b; subst hp4; subst hp4b
  by_cases hqq : 48 ≤ sn (aq + iq) ∧ sn (aq + iq) ≤ 57
  · skip
    refine r_topi (y := nI (sn (aq + iq) - 48)) (digI_ok (by omega) hqq.1 hqq.2) ?_
    refine r_istore_n o (lv' := [(3, .int (nI (sn (aq + iq) - 48))), (0, .ref (gad G 1)), (1, .int (nI aq)), (2, .int (nI iq))]) dX5_canStand_7 (by decide) rfl ?_
    refine r_iload_n o dX5_canStand_8 0 rfl ?_
    refine r_bipush o (v := (-6)) dX5_canStand_9 (by decide) ?_
    refine r_icmp_ne o (tgt := 16) dX5_canStand_11 (by decide) (fun hb11 => ?_) (fun hb11 => ?_)
    · skip
      refine r_aload_n o dX5_canStand_16 1 rfl ?_
      refine gf_1_0 o mw_66 dX5_canStand_17 ?_
      refine r_iload_n o dX5_canStand_20 2 rfl ?_
      refine r_ia o (by decide) ia_19 (f := (σ 19).1) rfl aq rfl (by omega) (by decide) dX5_canStand_21 ?_
      refine r_topi (y := nI (sn aq)) (hsg _ (by omega)) ?_
      by_cases hs22_108 : sn aq = 108
      · skip
        refine r_topi (y := nI 108) (by rw [hs22_108]) ?_
        refine r_lookup o (off := 33) (tgt := 55) dX5_canStand_22 (by decide) (by decide) (by decide) ?_
        refine r_iload_n o dX5_canStand_55 0 rfl ?_
        refine r_iconst o (v := nI 1) dX5_canStand_56 (by decide) ?_
        refine r_icmp_lt o (tgt := 64) dX5_canStand_57 (by decide) (fun hb57 => ?_) (fun hb57 => ?_)
        · skip
          rw [nI_ltI (by omega) (by omega)] at hb57
          refine r_iconst o (v := nI 0) dX5_canStand_64 (by decide) ?_
          exact r_zreturn o q (by decide) dX5_canStand_65 (⟨b01_f' (by unfold canS; rw [decide_eq_true hqq, if_pos hs22_108]; simp; omega), rfl⟩)
        · skip
          rw [nI_ltI (by omega) (by omega)] at hb57
          refine r_iconst o (v := nI 1) dX5_canStand_60 (by decide) ?_
          refine r_goto o (tgt := 65) dX5_canStand_61 (by decide) ?_
          exact r_zreturn o q (by decide) dX5_canStand_65 (⟨b01_t' (by unfold canS; rw [decide_eq_true hqq, if_pos hs22_108]; simp; omega), rfl⟩)
      by_cases hs22_115 : sn aq = 115
      · skip
        refine r_topi (y := nI 115) (by rw [hs22_115]) ?_
        refine r_lookup o (off := 26) (tgt := 48) dX5_canStand_22 (by decide) (by decide) (by decide) ?_
        refine r_iload_n o dX5_canStand_48 0 rfl ?_
        refine r_iconst o (v := nI 2) dX5_canStand_49 (by decide) ?_
        refine r_iconst o (v := nI 5) dX5_canStand_50 (by decide) ?_
        refine r_callNI o (As := [.int (nI (sn (aq + iq) - 48)), .int (nI 2), .int (nI 5)]) (st := []) (c_X9_isWithin (xl X) G σ (nI (sn (aq + iq) - 48)) (nI 2) (nI 5)) om_X9_isWithin mw_278 mw_328 (by decide) rfl rfl (Nat.le_of_ble_eq_true rfl) dX5_canStand_51 (fun rr51 σσ51 hp51 => ?_)
        obtain ⟨hp51, hp51b⟩ := hp51; replace hp51 := Eq.symm hp51; replace hp51b := Eq.symm hp51b; subst hp51; subst hp51b
        exact r_zreturn o q (b01_n _) dX5_canStand_54 (⟨congrArg b01 (by unfold canS; rw [decide_eq_true hqq, if_neg (by omega), if_pos hs22_115, inB_N (by omega) (by omega) (by omega)]; rfl), rfl⟩)
      refine r_lookup o (off := 44) (tgt := 66) dX5_canStand_22 (by decide) (lk_def (by rw [nI_toInt (by omega)]; simp; omega)) (by decide) ?_
      refine r_aload_n o dX5_canStand_66 1 rfl ?_
      refine r_iload_n o dX5_canStand_67 2 rfl ?_
      refine r_iload_n o dX5_canStand_68 3 rfl ?_
      refine r_iload_n o dX5_canStand_69 0 rfl ?_
      refine r_callVI o (As := [.int (nI aq), .int (nI iq), .int (nI (sn (aq + iq) - 48))]) (st := []) (c_X5_canStandInYear (xl X) G σ sn cntq hp aq iq hatq hiq1 hdgq (sn (aq + iq) - 48) (by omega)) om_X5_canStandInYear mw_331 mw_2 mw_329 (by decide) rfl rfl rfl (by decide) rfl rfl (Nat.le_of_ble_eq_true rfl) dX5_canStand_70 (fun rr70 σσ70 hp70 => ?_)
      obtain ⟨hp70, hp70b⟩ := hp70; replace hp70 := Eq.symm hp70; replace hp70b := Eq.symm hp70b; subst hp70; subst hp70b
      exact r_zreturn o q (b01_n _) dX5_canStand_73 (⟨congrArg b01 (by unfold canS; rw [decide_eq_true hqq, if_neg hs22_108, if_neg hs22_115]; rfl), rfl⟩)
    · skip
      exact absurd hb11 (nI_ne6 (by omega))
  · skip
    refine r_topi (y := (-6)) (digI_no hqq) ?_
    refine r_istore_n o (lv' := [(3, .int (-6)), (0, .ref (gad G 1)), (1, .int (nI aq)), (2, .int (nI iq))]) dX5_canStand_7 (by decide) rfl ?_
    refine r_iload_n o dX5_canStand_8 0 rfl ?_
    refine r_bipush o (v := (-6)) dX5_canStand_9 (by decide) ?_
    refine r_icmp_ne o (tgt := 16) dX5_canStand_11 (by decide) (fun hb11 => ?_) (fun hb11 => ?_)
    · skip
      exact absurd rfl hb11
    · skip
      refine r_iconst o (v := nI 0) dX5_canStand_14 (by decide) ?_
      exact r_zreturn o q (by decide) dX5_canStand_15 (⟨b01_f' (by unfold canS; rw [decide_eq_false hqq]; rfl), rfl⟩)
set_option maxHeartbeats 4000000 in
set_option maxRecDepth 100000 in
theorem c_X5_firstFault (l : Launch) (G : Gl) (σ : Sto) (sn : Nat → Nat) (cntq : Nat) (hp : PadO σ sn cntq) : CtI l G yX5_firstFault cX5_firstFault 4 (some .int) 4 89 [.ref (gad G 1)] σ (fun r σ' => r = fltI sn cntq ∧ σ' = σ) := by
  refine CtI.of (by decide +kernel) (Nat.le_of_ble_eq_true rfl) (fun X o q => ?_)
  show WS X G 4 σ 0 [(0, .ref (gad G 1))] []
  obtain ⟨hcq, hcnt, hsg, hsn⟩ := id hp
  refine r_iconst o (v := nI 0) dX5_firstFault_0 (by decide) ?_
  refine r_istore_n o (lv' := [(1, .int (nI 0)), (0, .ref (gad G 1))]) dX5_firstFault_1 (by decide) rfl ?_
  have L2 : ∀ (n : Nat) (fq : Nat) (aq : Nat) (hinq : fltF sn cntq 21 0 = fltF sn cntq fq aq) (hfq : cntq < aq + fq) (haq : aq ≤ cntq + 4), fq < n → WS X G 4 σ 2 [(0, .ref (gad G 1)), (1, .int (nI aq))] [] := by
    intro n
    induction n with
    | zero => intro fq aq hinq hfq haq hm; exact absurd hm (Nat.not_lt_zero _)
    | succ n ih2 =>
      intro fq aq hinq hfq haq hm
      refine r_iload_n o dX5_firstFault_2 1 rfl ?_
      refine r_aload_n o dX5_firstFault_3 0 rfl ?_
      refine gf_1_1 o (v := nI cntq) hcq mw_67 dX5_firstFault_4 ?_
      refine r_icmp_ge o (tgt := 78) dX5_firstFault_7 (by decide) (fun hb7 => ?_) (fun hb7 => ?_)
      · skip
        rw [nI_leI (by omega) (by omega)] at hb7
        refine r_bipush o (v := (-6)) dX5_firstFault_78 (by decide) ?_
        exact r_ireturn o q dX5_firstFault_80 (⟨by unfold fltI; rw [hinq]; cases fq with | zero => rfl | succ gq => unfold fltF; rw [if_neg (by omega)], rfl⟩)
      · skip
        rw [nI_leI (by omega) (by omega)] at hb7
        obtain ⟨gq, rfl⟩ : ∃ zq, fq = zq + 1 := ⟨fq - 1, by omega⟩
        have hsaq := hsn aq
        refine r_aload_n o dX5_firstFault_10 0 rfl ?_
        refine gf_1_0 o mw_66 dX5_firstFault_11 ?_
        refine r_iload_n o dX5_firstFault_14 1 rfl ?_
        refine r_ia o (by decide) ia_19 (f := (σ 19).1) rfl aq rfl (by omega) (by decide) dX5_firstFault_15 ?_
        refine r_topi (y := nI (sn aq)) (hsg _ (by omega)) ?_
        refine r_callSI o (As := [.int (nI (sn aq))]) (st := []) (c_X5_digitsBehind (xl X) G σ (sn aq) (by omega)) om_X5_digitsBehind mw_318 mw_317 (by decide) rfl rfl (Nat.le_of_ble_eq_true rfl) dX5_firstFault_16 (fun rr16 σσ16 hp16 => ?_)
        obtain ⟨hp16, hp16b⟩ := hp16; replace hp16 := Eq.symm hp16; replace hp16b := Eq.symm hp16b; subst hp16; subst hp16b
        rcases hdq : digs (sn aq) with _ | dgq
        · skip
          refine r_topi (y := (-6)) (by rw [dgI, hdq]) ?_
          refine r_istore_n o (lv' := [(2, .int (-6)), (0, .ref (gad G 1)), (1, .int (nI aq))]) dX5_firstFault_19 (by decide) rfl ?_
          refine r_iload_n o dX5_firstFault_20 0 rfl ?_
          refine r_bipush o (v := (-6)) dX5_firstFault_21 (by decide) ?_
          refine r_icmp_ne o (tgt := 28) dX5_firstFault_23 (by decide) (fun hb23 => ?_) (fun hb23 => ?_)
          · skip
            exact absurd rfl hb23
          · skip
            refine r_iload_n o dX5_firstFault_26 2 rfl ?_
            exact r_ireturn o q dX5_firstFault_27 (⟨by unfold fltI; rw [hinq]; unfold fltF; rw [if_pos (by omega), hdq], rfl⟩)
        · skip
          have hdlq := digs_le hdq
          refine r_topi (y := nI dgq) (by rw [dgI, hdq]) ?_
          refine r_istore_n o (lv' := [(2, .int (nI dgq)), (0, .ref (gad G 1)), (1, .int (nI aq))]) dX5_firstFault_19 (by decide) rfl ?_
          refine r_iload_n o dX5_firstFault_20 0 rfl ?_
          refine r_bipush o (v := (-6)) dX5_firstFault_21 (by decide) ?_
          refine r_icmp_ne o (tgt := 28) dX5_firstFault_23 (by decide) (fun hb23 => ?_) (fun hb23 => ?_)
          · skip
            refine r_iconst o (v := nI 1) dX5_firstFault_28 (by decide) ?_
            refine r_istore_n o (lv' := [(3, .int (nI 1)), (2, .int (nI dgq)), (0, .ref (gad G 1)), (1, .int (nI aq))]) dX5_firstFault_29 (by decide) rfl ?_
            have L30 : ∀ (n : Nat) (iq : Nat) (hiq1 : 1 ≤ iq ∧ iq ≤ dgq + 1) (hbq : badD sn cntq aq dgq 1 = badD sn cntq aq (dgq + 1 - iq) iq) (hdgq : ∀ jq, aq < jq → jq < aq + iq → 48 ≤ sn jq ∧ sn jq ≤ 57), dgq + 1 - iq < n → WS X G 4 σ 30 [(0, .ref (gad G 1)), (1, .int (nI aq)), (2, .int (nI dgq)), (3, .int (nI iq))] [] := by
              intro n
              induction n with
              | zero => intro iq hiq1 hbq hdgq hm; exact absurd hm (Nat.not_lt_zero _)
              | succ n ih30 =>
                intro iq hiq1 hbq hdgq hm
                refine r_iload_n o dX5_firstFault_30 3 rfl ?_
                refine r_iload_n o dX5_firstFault_31 2 rfl ?_
                refine r_icmp_gt o (tgt := 69) dX5_firstFault_32 (by decide) (fun hb32 => ?_) (fun hb32 => ?_)
                · skip
                  rw [nI_ltI (by omega) (by omega)] at hb32
                  have hinq2 : fltF sn cntq 21 0 = fltF sn cntq gq (aq + (1 + dgq)) := by rw [hinq]; show (if aq < cntq then _ else _) = _; rw [if_pos (show aq < cntq by omega), hdq]; simp only []; rw [hbq, show dgq + 1 - iq = 0 by omega]; show fltF sn cntq gq (aq + 1 + dgq) = _; rw [Nat.add_assoc]
                  refine r_iload_n o dX5_firstFault_69 1 rfl ?_
                  refine r_iconst o (v := nI 1) dX5_firstFault_70 (by decide) ?_
                  refine r_iload_n o dX5_firstFault_71 2 rfl ?_
                  refine r_iadd o dX5_firstFault_72 ?_
                  refine r_topi (y := nI (1 + dgq)) (nI_add' _ _) ?_
                  refine r_iadd o dX5_firstFault_73 ?_
                  refine r_topi (y := nI (aq + (1 + dgq))) (nI_add' _ _) ?_
                  refine r_istore_n o (lv' := [(1, .int (nI (aq + (1 + dgq)))), (0, .ref (gad G 1)), (2, .int (nI dgq)), (3, .int (nI iq))]) dX5_firstFault_74 (by decide) rfl ?_
                  refine r_goto o (tgt := 2) dX5_firstFault_75 (by decide) ?_
                  exact r_to rfl [1, 0] rfl (ih2 gq (aq + (1 + dgq)) hinq2 (by omega) (by omega) (by omega))
                · skip
                  rw [nI_ltI (by omega) (by omega)] at hb32
                  refine r_iload_n o dX5_firstFault_35 1 rfl ?_
                  refine r_iload_n o dX5_firstFault_36 3 rfl ?_
                  refine r_iadd o dX5_firstFault_37 ?_
                  refine r_topi (y := nI (aq + iq)) (nI_add' _ _) ?_
                  refine r_aload_n o dX5_firstFault_38 0 rfl ?_
                  refine gf_1_1 o (v := nI cntq) hcq mw_67 dX5_firstFault_39 ?_
                  refine r_icmp_lt o (tgt := 50) dX5_firstFault_42 (by decide) (fun hb42 => ?_) (fun hb42 => ?_)
                  · skip
                    rw [nI_ltI (by omega) (by omega)] at hb42
                    refine r_aload_n o dX5_firstFault_50 0 rfl ?_
                    refine r_iload_n o dX5_firstFault_51 1 rfl ?_
                    refine r_iload_n o dX5_firstFault_52 3 rfl ?_
                    refine r_callVI o (As := [.int (nI aq), .int (nI iq)]) (st := []) (c_X5_canStand (xl X) G σ sn cntq hp aq iq (by omega) (by omega) hdgq) om_X5_canStand mw_322 mw_0 mw_320 (by decide) rfl rfl rfl (by decide) rfl rfl (Nat.le_of_ble_eq_true rfl) dX5_firstFault_53 (fun rr53 σσ53 hp53 => ?_)
                    obtain ⟨hp53, hp53b⟩ := hp53; replace hp53 := Eq.symm hp53; replace hp53b := Eq.symm hp53b; subst hp53; subst hp53b
                    refine r_if_ne o (tgt := 63) dX5_firstFault_56 (by decide) (fun hb56 => ?_) (fun hb56 => ?_)
                    · skip
                      rw [b01_ne0] at hb56
                      refine r_iinc o (v := nI (iq + 1)) (lv' := [(3, .int (nI (iq + 1))), (0, .ref (gad G 1)), (1, .int (nI aq)), (2, .int (nI dgq))]) dX5_firstFault_63 3 rfl (nI_inc _) (by decide) rfl ?_
                      refine r_goto o (tgt := 30) dX5_firstFault_66 (by decide) ?_
                      exact r_to rfl [1, 2, 3, 0] rfl (ih30 (iq + 1) (by omega) (by rw [hbq, show dgq + 1 - iq = (dgq + 1 - (iq + 1)) + 1 by omega, badD_t (by omega) hb56]) (fun jq hq1 hq2 => by rcases Nat.lt_or_ge jq (aq + iq) with zq | zq; exact hdgq jq hq1 zq; rw [show jq = aq + iq by omega]; exact canS_dig hb56) (by omega))
                    · skip
                      rw [b01_eq0] at hb56
                      refine r_iload_n o dX5_firstFault_59 1 rfl ?_
                      refine r_iload_n o dX5_firstFault_60 3 rfl ?_
                      refine r_iadd o dX5_firstFault_61 ?_
                      refine r_topi (y := nI (aq + iq)) (nI_add' _ _) ?_
                      exact r_ireturn o q dX5_firstFault_62 (⟨by unfold fltI; rw [hinq]; unfold fltF; rw [if_pos (by omega), hdq]; simp only []; rw [hbq, show dgq + 1 - iq = (dgq + 1 - (iq + 1)) + 1 by omega]; unfold badD; rw [if_neg (by omega), if_neg (by rw [hb56]; exact Bool.false_ne_true)], rfl⟩)
                  · skip
                    rw [nI_ltI (by omega) (by omega)] at hb42
                    refine r_aload_n o dX5_firstFault_45 0 rfl ?_
                    refine gf_1_1 o (v := nI cntq) hcq mw_67 dX5_firstFault_46 ?_
                    exact r_ireturn o q dX5_firstFault_49 (⟨by unfold fltI; rw [hinq]; unfold fltF; rw [if_pos (by omega), hdq]; simp only []; rw [hbq, show dgq + 1 - iq = (dgq + 1 - (iq + 1)) + 1 by omega]; unfold badD; rw [if_pos (by omega)], rfl⟩)
            exact r_to rfl [2, 3, 1, 0] rfl (L30 _ 1 (by omega) rfl (fun jq hq1 hq2 => absurd hq2 (by omega)) (Nat.lt_succ_self _))
          · skip
            exact absurd hb23 (nI_ne6 (by omega))
  exact r_to rfl [1, 0] rfl (L2 _ 21 0 rfl (by omega) (by omega) (Nat.lt_succ_self _))
