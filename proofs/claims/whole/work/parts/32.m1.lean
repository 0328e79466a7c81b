set_option maxHeartbeats 4000000 in
set_option maxRecDepth 100000 in
theorem c_X10_in (l : Launch) (G : Gl) (σ : Sto) (vq_ : Int64) (loq : Int64) (hiq : Int64) : CtI l G yX10_in cX10_in 6 (some .boolean) 0 0 [.long vq_, .long loq, .long hiq] σ (fun r σ' => r = b01 (inL loq hiq vq_) ∧ σ' = σ) := by
  refine CtI.of (by decide +kernel) (Nat.le_of_ble_eq_true rfl) (fun X o q => ?_)
  show WS X G 6 σ 0 [(0, .long vq_), (2, .long loq), (4, .long hiq)] []
  refine r_lload_n o dX10_in_0 0 rfl ?_
  refine r_lload_n o dX10_in_1 1 rfl ?_
  refine r_lcmp o dX10_in_2 ?_
  refine r_if_lt o (tgt := 17) dX10_in_3 (by decide) (fun hb3 => ?_) (fun hb3 => ?_)
  · skip
    rw [lg_cmp_lt] at hb3
    refine r_iconst o (v := nI 0) dX10_in_17 (by decide) ?_
    exact r_zreturn o q (by decide) dX10_in_18 (⟨b01_f' (by first | exact inL_t hb3 hb10 | exact inL_f1 hb3 | exact inL_f2 hb10), rfl⟩)
  · skip
    rw [lg_cmp_lt] at hb3
    refine r_lload_n o dX10_in_6 0 rfl ?_
    refine r_lload o dX10_in_7 2 rfl ?_
    refine r_lcmp o dX10_in_9 ?_
    refine r_if_gt o (tgt := 17) dX10_in_10 (by decide) (fun hb10 => ?_) (fun hb10 => ?_)
    · skip
      rw [lg_cmp_gt] at hb10
      refine r_iconst o (v := nI 0) dX10_in_17 (by decide) ?_
      exact r_zreturn o q (by decide) dX10_in_18 (⟨b01_f' (by first | exact inL_t hb3 hb10 | exact inL_f1 hb3 | exact inL_f2 hb10), rfl⟩)
    · skip
      rw [lg_cmp_gt] at hb10
      refine r_iconst o (v := nI 1) dX10_in_13 (by decide) ?_
      refine r_goto o (tgt := 18) dX10_in_14 (by decide) ?_
      exact r_zreturn o q (by decide) dX10_in_18 (⟨b01_t' (by first | exact inL_t hb3 hb10 | exact inL_f1 hb3 | exact inL_f2 hb10), rfl⟩)
set_option maxHeartbeats 4000000 in
set_option maxRecDepth 100000 in
theorem c_X10_ones (l : Launch) (G : Gl) (σ : Sto) (bq : Nat) (hbq : bq < 2147483648) : CtI l G yX10_ones cX10_ones 3 (some .int) 0 0 [.int (nI bq)] σ (fun r σ' => r = nI (popc bq) ∧ σ' = σ) := by
  refine CtI.of (by decide +kernel) (Nat.le_of_ble_eq_true rfl) (fun X o q => ?_)
  show WS X G 3 σ 0 [(0, .int (nI bq))] []
  refine r_iconst o (v := nI 0) dX10_ones_0 (by decide) ?_
  refine r_istore_n o (lv' := [(1, .int (nI 0)), (0, .int (nI bq))]) dX10_ones_1 (by decide) rfl ?_
  refine r_iconst o (v := nI 0) dX10_ones_2 (by decide) ?_
  refine r_istore_n o (lv' := [(2, .int (nI 0)), (1, .int (nI 0)), (0, .int (nI bq))]) dX10_ones_3 (by decide) rfl ?_
  have L4 : ∀ (n : Nat) (kq : Nat) (hkq : kq ≤ 20), 20 - kq < n → WS X G 3 σ 4 [(0, .int (nI bq)), (1, .int (nI (popN kq bq))), (2, .int (nI kq))] [] := by
    intro n
    induction n with
    | zero => intro kq hkq hm; exact absurd hm (Nat.not_lt_zero _)
    | succ n ih4 =>
      intro kq hkq hm
      refine r_iload_n o dX10_ones_4 2 rfl ?_
      refine r_bipush o (v := nI 20) dX10_ones_5 (by decide) ?_
      refine r_icmp_ge o (tgt := 24) dX10_ones_7 (by decide) (fun hb7 => ?_) (fun hb7 => ?_)
      · skip
        rw [nI_leI (by omega) (by omega)] at hb7
        obtain rfl : kq = 20 := by omega
        refine r_iload_n o dX10_ones_24 1 rfl ?_
        exact r_ireturn o q dX10_ones_25 (⟨rfl, rfl⟩)
      · skip
        rw [nI_leI (by omega) (by omega)] at hb7
        refine r_iload_n o dX10_ones_10 1 rfl ?_
        refine r_iload_n o dX10_ones_11 0 rfl ?_
        refine r_iload_n o dX10_ones_12 2 rfl ?_
        refine r_ishr o dX10_ones_13 ?_
        refine r_topi (y := nI (bq / 2 ^ kq)) (nI_shr (by omega) (by omega)) ?_
        refine r_iconst o (v := nI 1) dX10_ones_14 (by decide) ?_
        refine r_iand o dX10_ones_15 ?_
        refine r_topi (y := nI ((bq / 2 ^ kq) &&& 1)) (nI_and _ _) ?_
        refine r_iadd o dX10_ones_16 ?_
        refine r_topi (y := nI (popN kq bq + ((bq / 2 ^ kq) &&& 1))) (nI_add' _ _) ?_
        refine r_istore_n o (lv' := [(1, .int (nI (popN kq bq + ((bq / 2 ^ kq) &&& 1)))), (0, .int (nI bq)), (2, .int (nI kq))]) dX10_ones_17 (by decide) rfl ?_
        refine r_lv (lv' := [(1, .int (nI (popN (kq + 1) bq))), (0, .int (nI bq)), (2, .int (nI kq))]) (congrArg (fun zz => ([(1, .int zz), (0, .int (nI bq)), (2, .int (nI kq))] : List (Nat × Value))) (congrArg nI (popN_up bq kq))) ?_
        refine r_iinc o (v := nI (kq + 1)) (lv' := [(2, .int (nI (kq + 1))), (1, .int (nI (popN (kq + 1) bq))), (0, .int (nI bq))]) dX10_ones_18 2 rfl (nI_inc _) (by decide) rfl ?_
        refine r_goto o (tgt := 4) dX10_ones_21 (by decide) ?_
        exact r_to rfl [2, 1, 0] rfl (ih4 (kq + 1) (by omega) (by omega))
  exact r_to rfl [2, 1, 0] rfl (L4 _ 0 (by omega) (Nat.lt_succ_self _))
set_option maxHeartbeats 4000000 in
set_option maxRecDepth 100000 in
theorem c_X10_isPart (l : Launch) (G : Gl) (σ : Sto) (vq_ : Int32) : CtI l G yX10_isPart cX10_isPart 1 (some .boolean) 1 25 [.int vq_] σ (fun r σ' => r = b01 (inB (nI 0) (nI 1) vq_) ∧ σ' = σ) := by
  refine CtI.of (by decide +kernel) (Nat.le_of_ble_eq_true rfl) (fun X o q => ?_)
  show WS X G 1 σ 0 [(0, .int vq_)] []
  refine r_iload_n o dX10_isPart_0 0 rfl ?_
  refine r_i2l o dX10_isPart_1 rfl ?_
  refine r_lconst o (v := 0) dX10_isPart_2 rfl ?_
  refine r_lconst o (v := 1) dX10_isPart_3 rfl ?_
  refine r_callSI o (As := [.long ((vq_).toInt64), .long 0, .long 1]) (st := []) (c_X10_in (xl X) G σ ((vq_).toInt64) 0 1) om_X10_in mw_783 mw_782 (by decide) rfl rfl (Nat.le_of_ble_eq_true rfl) dX10_isPart_4 (fun rr4 σσ4 hp4 => ?_)
  obtain ⟨hp4, hp4b⟩ := hp4; replace hp4 := Eq.symm hp4; replace hp4b := Eq.symm hp4b; subst hp4; subst hp4b
  refine r_topi (y := b01 (inB (nI 0) (nI 1) vq_)) (by rw [← inL_w]; rfl) ?_
  exact r_zreturn o q (b01_n _) dX10_isPart_7 (⟨rfl, rfl⟩)
set_option maxHeartbeats 4000000 in
set_option maxRecDepth 100000 in
theorem c_X10_isRow (l : Launch) (G : Gl) (σ : Sto) (vq_ : Int32) : CtI l G yX10_isRow cX10_isRow 1 (some .boolean) 1 25 [.int vq_] σ (fun r σ' => r = b01 (inB (nI 0) (nI 5) vq_) ∧ σ' = σ) := by
  refine CtI.of (by decide +kernel) (Nat.le_of_ble_eq_true rfl) (fun X o q => ?_)
  show WS X G 1 σ 0 [(0, .int vq_)] []
  refine r_iload_n o dX10_isRow_0 0 rfl ?_
  refine r_i2l o dX10_isRow_1 rfl ?_
  refine r_lconst o (v := 0) dX10_isRow_2 rfl ?_
  refine r_ldc2_w o mw_781 dX10_isRow_3 ?_
  refine r_callSI o (As := [.long ((vq_).toInt64), .long 0, .long 5]) (st := []) (c_X10_in (xl X) G σ ((vq_).toInt64) 0 5) om_X10_in mw_783 mw_782 (by decide) rfl rfl (Nat.le_of_ble_eq_true rfl) dX10_isRow_6 (fun rr6 σσ6 hp6 => ?_)
  obtain ⟨hp6, hp6b⟩ := hp6; replace hp6 := Eq.symm hp6; replace hp6b := Eq.symm hp6b; subst hp6; subst hp6b
  refine r_topi (y := b01 (inB (nI 0) (nI 5) vq_)) (by rw [← inL_w]; rfl) ?_
  exact r_zreturn o q (b01_n _) dX10_isRow_9 (⟨rfl, rfl⟩)
set_option maxHeartbeats 4000000 in
set_option maxRecDepth 100000 in
theorem c_X10_isYear (l : Launch) (G : Gl) (σ : Sto) (vq_ : Int32) : CtI l G yX10_isYear cX10_isYear 1 (some .boolean) 1 25 [.int vq_] σ (fun r σ' => r = b01 (inB (nI 0) (nI 23) vq_) ∧ σ' = σ) := by
  refine CtI.of (by decide +kernel) (Nat.le_of_ble_eq_true rfl) (fun X o q => ?_)
  show WS X G 1 σ 0 [(0, .int vq_)] []
  refine r_iload_n o dX10_isYear_0 0 rfl ?_
  refine r_i2l o dX10_isYear_1 rfl ?_
  refine r_lconst o (v := 0) dX10_isYear_2 rfl ?_
  refine r_ldc2_w o mw_789 dX10_isYear_3 ?_
  refine r_callSI o (As := [.long ((vq_).toInt64), .long 0, .long 23]) (st := []) (c_X10_in (xl X) G σ ((vq_).toInt64) 0 23) om_X10_in mw_783 mw_782 (by decide) rfl rfl (Nat.le_of_ble_eq_true rfl) dX10_isYear_6 (fun rr6 σσ6 hp6 => ?_)
  obtain ⟨hp6, hp6b⟩ := hp6; replace hp6 := Eq.symm hp6; replace hp6b := Eq.symm hp6b; subst hp6; subst hp6b
  refine r_topi (y := b01 (inB (nI 0) (nI 23) vq_)) (by rw [← inL_w]; rfl) ?_
  exact r_zreturn o q (b01_n _) dX10_isYear_9 (⟨rfl, rfl⟩)
set_option maxHeartbeats 4000000 in
set_option maxRecDepth 100000 in
theorem c_X10_isLength (l : Launch) (G : Gl) (σ : Sto) (vq_ : Int32) : CtI l G yX10_isLength cX10_isLength 1 (some .boolean) 1 25 [.int vq_] σ (fun r σ' => r = b01 (inB (nI 2) (nI 12) vq_) ∧ σ' = σ) := by
  refine CtI.of (by decide +kernel) (Nat.le_of_ble_eq_true rfl) (fun X o q => ?_)
  show WS X G 1 σ 0 [(0, .int vq_)] []
  refine r_iload_n o dX10_isLength_0 0 rfl ?_
  refine r_i2l o dX10_isLength_1 rfl ?_
  refine r_ldc2_w o mw_854 dX10_isLength_2 ?_
  refine r_ldc2_w o mw_855 dX10_isLength_5 ?_
  refine r_callSI o (As := [.long ((vq_).toInt64), .long 2, .long 12]) (st := []) (c_X10_in (xl X) G σ ((vq_).toInt64) 2 12) om_X10_in mw_783 mw_782 (by decide) rfl rfl (Nat.le_of_ble_eq_true rfl) dX10_isLength_8 (fun rr8 σσ8 hp8 => ?_)
  obtain ⟨hp8, hp8b⟩ := hp8; replace hp8 := Eq.symm hp8; replace hp8b := Eq.symm hp8b; subst hp8; subst hp8b
  refine r_topi (y := b01 (inB (nI 2) (nI 12) vq_)) (by rw [← inL_w]; rfl) ?_
  exact r_zreturn o q (b01_n _) dX10_isLength_11 (⟨rfl, rfl⟩)
set_option maxHeartbeats 4000000 in
set_option maxRecDepth 100000 in
theorem c_X10_isAhead (l : Launch) (G : Gl) (σ : Sto) (vq_ : Int32) : CtI l G yX10_isAhead cX10_isAhead 1 (some .boolean) 1 25 [.int vq_] σ (fun r σ' => r = b01 (inB (nI 4) (nI 22) vq_) ∧ σ' = σ) := by
  refine CtI.of (by decide +kernel) (Nat.le_of_ble_eq_true rfl) (fun X o q => ?_)
  show WS X G 1 σ 0 [(0, .int vq_)] []
  refine r_iload_n o dX10_isAhead_0 0 rfl ?_
  refine r_i2l o dX10_isAhead_1 rfl ?_
  refine r_ldc2_w o mw_950 dX10_isAhead_2 ?_
  refine r_ldc2_w o mw_951 dX10_isAhead_5 ?_
  refine r_callSI o (As := [.long ((vq_).toInt64), .long 4, .long 22]) (st := []) (c_X10_in (xl X) G σ ((vq_).toInt64) 4 22) om_X10_in mw_783 mw_782 (by decide) rfl rfl (Nat.le_of_ble_eq_true rfl) dX10_isAhead_8 (fun rr8 σσ8 hp8 => ?_)
  obtain ⟨hp8, hp8b⟩ := hp8; replace hp8 := Eq.symm hp8; replace hp8b := Eq.symm hp8b; subst hp8; subst hp8b
  refine r_topi (y := b01 (inB (nI 4) (nI 22) vq_)) (by rw [← inL_w]; rfl) ?_
  exact r_zreturn o q (b01_n _) dX10_isAhead_11 (⟨rfl, rfl⟩)
set_option maxHeartbeats 4000000 in
set_option maxRecDepth 100000 in
theorem c_X10_isMan (l : Launch) (G : Gl) (σ : Sto) (vq_ : Int32) : CtI l G yX10_isMan cX10_isMan 1 (some .boolean) 1 25 [.int vq_] σ (fun r σ' => r = b01 (inB (nI 0) (nI 7) vq_) ∧ σ' = σ) := by
  refine CtI.of (by decide +kernel) (Nat.le_of_ble_eq_true rfl) (fun X o q => ?_)
  show WS X G 1 σ 0 [(0, .int vq_)] []
  refine r_iload_n o dX10_isMan_0 0 rfl ?_
  refine r_i2l o dX10_isMan_1 rfl ?_
  refine r_lconst o (v := 0) dX10_isMan_2 rfl ?_
  refine r_ldc2_w o mw_893 dX10_isMan_3 ?_
  refine r_callSI o (As := [.long ((vq_).toInt64), .long 0, .long 7]) (st := []) (c_X10_in (xl X) G σ ((vq_).toInt64) 0 7) om_X10_in mw_783 mw_782 (by decide) rfl rfl (Nat.le_of_ble_eq_true rfl) dX10_isMan_6 (fun rr6 σσ6 hp6 => ?_)
  obtain ⟨hp6, hp6b⟩ := hp6; replace hp6 := Eq.symm hp6; replace hp6b := Eq.symm hp6b; subst hp6; subst hp6b
  refine r_topi (y := b01 (inB (nI 0) (nI 7) vq_)) (by rw [← inL_w]; rfl) ?_
  exact r_zreturn o q (b01_n _) dX10_isMan_9 (⟨rfl, rfl⟩)
set_option maxHeartbeats 4000000 in
set_option maxRecDepth 100000 in
theorem c_X10_digitsOf (l : Launch) (G : Gl) (σ : Sto) (cq : Nat) (hcq : cq < 127) : CtI l G yX10_digitsOf cX10_digitsOf 1 (some .int) 0 0 [.int (nI cq)] σ (fun r σ' => r = dgM cq ∧ σ' = σ) := by
  refine CtI.of (by decide +kernel) (Nat.le_of_ble_eq_true rfl) (fun X o q => ?_)
  show WS X G 1 σ 0 [(0, .int (nI cq))] []
  refine r_iload_n o dX10_digitsOf_0 0 rfl ?_
  refine r_bipush o (v := nI 116) dX10_digitsOf_1 (by decide) ?_
  refine r_icmp_ne o (tgt := 10) dX10_digitsOf_3 (by decide) (fun hb3 => ?_) (fun hb3 => ?_)
  · skip
    rw [nI_eq (by omega) (by omega)] at hb3
    refine r_iload_n o dX10_digitsOf_10 0 rfl ?_
    refine r_bipush o (v := nI 99) dX10_digitsOf_11 (by decide) ?_
    refine r_icmp_ne o (tgt := 20) dX10_digitsOf_13 (by decide) (fun hb13 => ?_) (fun hb13 => ?_)
    · skip
      rw [nI_eq (by omega) (by omega)] at hb13
      refine r_iload_n o dX10_digitsOf_20 0 rfl ?_
      refine r_bipush o (v := nI 115) dX10_digitsOf_21 (by decide) ?_
      refine r_icmp_eq o (tgt := 32) dX10_digitsOf_23 (by decide) (fun hb23 => ?_) (fun hb23 => ?_)
      · skip
        rw [nI_eq (by omega) (by omega)] at hb23
        refine r_iconst o (v := nI 1) dX10_digitsOf_32 (by decide) ?_
        refine r_goto o (tgt := 47) dX10_digitsOf_33 (by decide) ?_
        exact r_ireturn o q dX10_digitsOf_47 (⟨by unfold dgM digs; first | (rw [hb3]; rfl) | (rw [hb13]; rfl) | (rw [hb23]; rfl) | (rw [hb29]; rfl) | (rw [hb39]; rfl) | (rw [if_neg hb13, if_neg hb39, if_neg hb29, if_neg hb23, if_neg hb3]), rfl⟩)
      · skip
        rw [nI_eq (by omega) (by omega)] at hb23
        refine r_iload_n o dX10_digitsOf_26 0 rfl ?_
        refine r_bipush o (v := nI 108) dX10_digitsOf_27 (by decide) ?_
        refine r_icmp_ne o (tgt := 36) dX10_digitsOf_29 (by decide) (fun hb29 => ?_) (fun hb29 => ?_)
        · skip
          rw [nI_eq (by omega) (by omega)] at hb29
          refine r_iload_n o dX10_digitsOf_36 0 rfl ?_
          refine r_bipush o (v := nI 100) dX10_digitsOf_37 (by decide) ?_
          refine r_icmp_ne o (tgt := 46) dX10_digitsOf_39 (by decide) (fun hb39 => ?_) (fun hb39 => ?_)
          · skip
            rw [nI_eq (by omega) (by omega)] at hb39
            refine r_iconst o (v := (-1)) dX10_digitsOf_46 (by decide) ?_
            exact r_ireturn o q dX10_digitsOf_47 (⟨by unfold dgM digs; first | (rw [hb3]; rfl) | (rw [hb13]; rfl) | (rw [hb23]; rfl) | (rw [hb29]; rfl) | (rw [hb39]; rfl) | (rw [if_neg hb13, if_neg hb39, if_neg hb29, if_neg hb23, if_neg hb3]), rfl⟩)
          · skip
            rw [nI_eq (by omega) (by omega)] at hb39
            refine r_iconst o (v := nI 0) dX10_digitsOf_42 (by decide) ?_
            refine r_goto o (tgt := 47) dX10_digitsOf_43 (by decide) ?_
            exact r_ireturn o q dX10_digitsOf_47 (⟨by unfold dgM digs; first | (rw [hb3]; rfl) | (rw [hb13]; rfl) | (rw [hb23]; rfl) | (rw [hb29]; rfl) | (rw [hb39]; rfl) | (rw [if_neg hb13, if_neg hb39, if_neg hb29, if_neg hb23, if_neg hb3]), rfl⟩)
        · skip
          rw [nI_eq (by omega) (by omega)] at hb29
          refine r_iconst o (v := nI 1) dX10_digitsOf_32 (by decide) ?_
          refine r_goto o (tgt := 47) dX10_digitsOf_33 (by decide) ?_
          exact r_ireturn o q dX10_digitsOf_47 (⟨by unfold dgM digs; first | (rw [hb3]; rfl) | (rw [hb13]; rfl) | (rw [hb23]; rfl) | (rw [hb29]; rfl) | (rw [hb39]; rfl) | (rw [if_neg hb13, if_neg hb39, if_neg hb29, if_neg hb23, if_neg hb3]), rfl⟩)
    · skip
      rw [nI_eq (by omega) (by omega)] at hb13
      refine r_iconst o (v := nI 4) dX10_digitsOf_16 (by decide) ?_
      refine r_goto o (tgt := 47) dX10_digitsOf_17 (by decide) ?_
      exact r_ireturn o q dX10_digitsOf_47 (⟨by unfold dgM digs; first | (rw [hb3]; rfl) | (rw [hb13]; rfl) | (rw [hb23]; rfl) | (rw [hb29]; rfl) | (rw [hb39]; rfl) | (rw [if_neg hb13, if_neg hb39, if_neg hb29, if_neg hb23, if_neg hb3]), rfl⟩)
  · skip
    rw [nI_eq (by omega) (by omega)] at hb3
    refine r_iconst o (v := nI 2) dX10_digitsOf_6 (by decide) ?_
    refine r_goto o (tgt := 47) dX10_digitsOf_7 (by decide) ?_
    exact r_ireturn o q dX10_digitsOf_47 (⟨by unfold dgM digs; first | (rw [hb3]; rfl) | (rw [hb13]; rfl) | (rw [hb23]; rfl) | (rw [hb29]; rfl) | (rw [hb39]; rfl) | (rw [if_neg hb13, if_neg hb39, if_neg hb29, if_neg hb23, if_neg hb3]), rfl⟩)
set_option maxHeartbeats 4000000 in
set_option maxRecDepth 100000 in
theorem c_X10_two (l : Launch) (G : Gl) (σ : Sto) (sn : Nat → Nat) (cntq : Nat) (hp : PadM σ sn cntq) (jq : Nat) (hj : jq + 1 < cntq) (hj0 : 48 ≤ sn jq) (hj1 : 48 ≤ sn (jq + 1)) : CtI l G yX10_two cX10_two 2 (some .int) 0 0 [.ref (gad G 11), .int (nI jq)] σ (fun r σ' => r = nI (twoN sn jq) ∧ σ' = σ) := by
  refine CtI.of (by decide +kernel) (Nat.le_of_ble_eq_true rfl) (fun X o q => ?_)
  show WS X G 2 σ 0 [(0, .ref (gad G 11)), (1, .int (nI jq))] []
  obtain ⟨hcq, hcnt, hsg, hsn⟩ := id hp
  refine r_bipush o (v := nI 10) dX10_two_0 (by decide) ?_
  refine r_aload_n o dX10_two_2 0 rfl ?_
  refine gf_11_1 o mw_699 dX10_two_3 ?_
  refine r_iload_n o dX10_two_6 1 rfl ?_
  refine r_ia o (by decide) ia_72 (f := (σ 72).1) rfl jq rfl (by omega) (by decide) dX10_two_7 ?_
  refine r_topi (y := nI (sn jq)) (hsg _ (by omega)) ?_
  refine r_bipush o (v := nI 48) dX10_two_8 (by decide) ?_
  refine r_isub o dX10_two_10 ?_
  refine r_topi (y := nI (sn jq - 48)) (nI_sub' (by omega)) ?_
  refine r_imul o dX10_two_11 ?_
  refine r_topi (y := nI (10 * (sn jq - 48))) (nI_mul' _ _) ?_
  refine r_aload_n o dX10_two_12 0 rfl ?_
  refine gf_11_1 o mw_699 dX10_two_13 ?_
  refine r_iload_n o dX10_two_16 1 rfl ?_
  refine r_iconst o (v := nI 1) dX10_two_17 (by decide) ?_
  refine r_iadd o dX10_two_18 ?_
  refine r_topi (y := nI (jq + 1)) (nI_add' _ _) ?_
  refine r_ia o (by decide) ia_72 (f := (σ 72).1) rfl (jq + 1) rfl (by omega) (by decide) dX10_two_19 ?_
  refine r_topi (y := nI (sn (jq + 1))) (hsg _ (by omega)) ?_
  refine r_iadd o dX10_two_20 ?_
  refine r_topi (y := nI (10 * (sn jq - 48) + (sn (jq + 1)))) (nI_add' _ _) ?_
  refine r_bipush o (v := nI 48) dX10_two_21 (by decide) ?_
  refine r_isub o dX10_two_23 ?_
  refine r_topi (y := nI (10 * (sn jq - 48) + (sn (jq + 1)) - 48)) (nI_sub' (by omega)) ?_
  refine r_topi (y := nI (twoN sn jq)) (congrArg nI (twoN_e hj0 hj1)) ?_
  exact r_ireturn o q dX10_two_24 (⟨rfl, rfl⟩)
set_option maxHeartbeats 4000000 in
set_option maxRecDepth 100000 in
theorem c_X10_mayStand (l : Launch) (G : Gl) (σ : Sto) (sn : Nat → Nat) (cntq : Nat) (hp : PadM σ sn cntq) (aq : Nat) (kq : Nat) (hatq : aq + (kq + 1) < cntq) (hkq : kq ≤ 3) (hdgq : ∀ jq, aq < jq → jq < aq + (kq + 1) → 48 ≤ sn jq ∧ sn jq ≤ 57) (h23 : 2 ≤ kq → twoN sn (aq + 1) ≤ 23) (hna : ¬ sn aq = 108 ∧ ¬ sn aq = 115) : CtI l G yX10_mayStand cX10_mayStand 6 (some .boolean) 1 25 [.ref (gad G 11), .int (nI (aq + (kq + 1))), .int (nI kq)] σ (fun r σ' => r = b01 (canS sn aq (kq + 1)) ∧ σ' = σ) := by
  refine CtI.of (by decide +kernel) (Nat.le_of_ble_eq_true rfl) (fun X o q => ?_)
  show WS X G 6 σ 0 [(0, .ref (gad G 11)), (1, .int (nI (aq + (kq + 1)))), (2, .int (nI kq))] []
  obtain ⟨hcq, hcnt, hsg, hsn⟩ := id hp
  have hsi := hsn (aq + (kq + 1))
  have hf2 := mst_23 h23
  refine r_aload_n o dX10_mayStand_0 0 rfl ?_
  refine gf_11_1 o mw_699 dX10_mayStand_1 ?_
  refine r_iload_n o dX10_mayStand_4 1 rfl ?_
  refine r_ia o (by decide) ia_72 (f := (σ 72).1) rfl (aq + (kq + 1)) rfl (by omega) (by decide) dX10_mayStand_5 ?_
  refine r_topi (y := nI (sn (aq + (kq + 1)))) (hsg _ (by omega)) ?_
  refine r_bipush o (v := nI 48) dX10_mayStand_6 (by decide) ?_
  refine r_isub o dX10_mayStand_8 ?_
  refine r_istore_n o (lv' := [(3, .int ((nI (sn (aq + (kq + 1)))) - (nI 48))), (0, .ref (gad G 11)), (1, .int (nI (aq + (kq + 1)))), (2, .int (nI kq))]) dX10_mayStand_9 (by decide) rfl ?_
  refine r_iload_n o dX10_mayStand_10 0 rfl ?_
  refine r_i2l o dX10_mayStand_11 rfl ?_
  refine r_lconst o (v := 0) dX10_mayStand_12 rfl ?_
  refine r_ldc2_w o mw_818 dX10_mayStand_13 ?_
  refine r_callSI o (As := [.long (((nI (sn (aq + (kq + 1)))) - (nI 48)).toInt64), .long 0, .long 9]) (st := []) (c_X10_in (xl X) G σ (((nI (sn (aq + (kq + 1)))) - (nI 48)).toInt64) 0 9) om_X10_in mw_783 mw_782 (by decide) rfl rfl (Nat.le_of_ble_eq_true rfl) dX10_mayStand_16 (fun rr16 σσ16 hp16 => ?_)
  obtain ⟨hp16, hp16b⟩ := hp16; replace hp16 := Eq.symm hp16; replace hp16b := Eq.symm hp16b; subst hp16; subst hp16b
  refine r_topi (y := b01 (decide (48 ≤ sn (aq + (kq + 1)) ∧ sn (aq + (kq + 1)) ≤ 57))) (congrArg b01 (in_dig hsi)) ?_
  refine r_if_ne o (tgt := 24) dX10_mayStand_19 (by decide) (fun hb19 => ?_) (fun hb19 => ?_)
  · skip
    rw [b01_ne0] at hb19
    have hdd := of_decide_eq_true hb19
    refine r_lv (lv' := [(3, .int (nI (sn (aq + (kq + 1)) - 48))), (0, .ref (gad G 11)), (1, .int (nI (aq + (kq + 1)))), (2, .int (nI kq))]) (congrArg (fun zz => ([(3, .int zz), (0, .ref (gad G 11)), (1, .int (nI (aq + (kq + 1)))), (2, .int (nI kq))] : List (Nat × Value))) (nI_sub' hdd.1)) ?_
    refine r_iload_n o dX10_mayStand_24 3 rfl ?_
    refine r_iconst o (v := nI 2) dX10_mayStand_25 (by decide) ?_
    refine r_icmp_ge o (tgt := 33) dX10_mayStand_26 (by decide) (fun hb26 => ?_) (fun hb26 => ?_)
    · skip
      rw [nI_leI (by omega) (by omega)] at hb26
      refine r_aload_n o dX10_mayStand_33 1 rfl ?_
      refine r_iload_n o dX10_mayStand_34 2 rfl ?_
      refine r_iload_n o dX10_mayStand_35 3 rfl ?_
      refine r_isub o dX10_mayStand_36 ?_
      refine r_topi (y := nI (aq + 1)) (by rw [nI_sub' (by omega)]; exact congrArg nI (by omega)) ?_
      refine r_callVI o (As := [.int (nI (aq + 1))]) (st := []) (c_X10_two (xl X) G σ sn cntq hp (aq + 1) (by omega) ((hdgq (aq + 1) (by omega) (by omega)).1) ((hdgq (aq + 1 + 1) (by omega) (by omega)).1)) om_X10_two mw_821 mw_17 mw_819 (by decide) rfl rfl rfl (by decide) rfl rfl (Nat.le_of_ble_eq_true rfl) dX10_mayStand_37 (fun rr37 σσ37 hp37 => ?_)
      obtain ⟨hp37, hp37b⟩ := hp37; replace hp37 := Eq.symm hp37; replace hp37b := Eq.symm hp37b; subst hp37; subst hp37b
      refine r_topi (y := nI (fst2 sn aq (kq + 1))) (by rw [fst2, if_pos (by omega)]) ?_
      refine r_istore o (lv' := [(4, .int (nI (fst2 sn aq (kq + 1)))), (3, .int (nI (sn (aq + (kq + 1)) - 48))), (0, .ref (gad G 11)), (1, .int (nI (aq + (kq + 1)))), (2, .int (nI kq))]) dX10_mayStand_40 (by decide) rfl ?_
      refine r_iload_n o dX10_mayStand_42 4 rfl ?_
      refine r_iconst o (v := nI 2) dX10_mayStand_43 (by decide) ?_
      refine r_irem o dX10_mayStand_44 (nI_z (by omega) (by omega)) ?_
      refine r_topi (y := nI (kq % 2)) (nI_rem' (by omega) (by omega) (by omega)) ?_
      refine r_if_ne o (tgt := 81) dX10_mayStand_45 (by decide) (fun hb45 => ?_) (fun hb45 => ?_)
      · skip
        rw [nI_eq0 (by omega)] at hb45
        refine r_aload_n o dX10_mayStand_81 2 rfl ?_
        refine r_iload_n o dX10_mayStand_82 3 rfl ?_
        refine r_iconst o (v := nI 1) dX10_mayStand_83 (by decide) ?_
        have hdp := hdgq (aq + (kq + 1) - 1) (by omega) (by omega)
        refine r_isub o dX10_mayStand_84 ?_
        refine r_topi (y := nI (aq + (kq + 1) - 1)) (nI_sub' (by omega)) ?_
        refine r_callVI o (As := [.int (nI (aq + (kq + 1) - 1))]) (st := []) (c_X10_two (xl X) G σ sn cntq hp (aq + (kq + 1) - 1) (by omega) hdp.1 (by rw [show aq + (kq + 1) - 1 + 1 = aq + (kq + 1) by omega]; exact hdd.1)) om_X10_two mw_821 mw_17 mw_819 (by decide) rfl rfl rfl (by decide) rfl rfl (Nat.le_of_ble_eq_true rfl) dX10_mayStand_85 (fun rr85 σσ85 hp85 => ?_)
        obtain ⟨hp85, hp85b⟩ := hp85; replace hp85 := Eq.symm hp85; replace hp85b := Eq.symm hp85b; subst hp85; subst hp85b
        refine r_topi (y := nI (10 * (sn (aq + (kq + 1) - 1) - 48) + (sn (aq + (kq + 1)) - 48))) (by unfold twoN; rw [show aq + (kq + 1) - 1 + 1 = aq + (kq + 1) by omega]) ?_
        refine r_istore o (lv' := [(5, .int (nI (10 * (sn (aq + (kq + 1) - 1) - 48) + (sn (aq + (kq + 1)) - 48)))), (4, .int (nI (fst2 sn aq (kq + 1)))), (3, .int (nI (sn (aq + (kq + 1)) - 48))), (0, .ref (gad G 11)), (1, .int (nI (aq + (kq + 1)))), (2, .int (nI kq))]) dX10_mayStand_88 (by decide) rfl ?_
        refine r_iload o dX10_mayStand_90 0 rfl ?_
        refine r_bipush o (v := nI 23) dX10_mayStand_92 (by decide) ?_
        refine r_icmp_gt o (tgt := 108) dX10_mayStand_94 (by decide) (fun hb94 => ?_) (fun hb94 => ?_)
        · skip
          rw [nI_ltI (by omega) (by omega)] at hb94
          refine r_iconst o (v := nI 0) dX10_mayStand_108 (by decide) ?_
          exact r_zreturn o q (by decide) dX10_mayStand_109 (⟨b01_f' (by unfold canS; rw [hb19, if_neg hna.1, if_neg hna.2]; unfold canY; rw [if_neg (by omega)]; simp only [Bool.true_and, Bool.and_eq_true, decide_eq_true_eq, Bool.and_eq_false_iff, decide_eq_false_iff_not]; omega), rfl⟩)
        · skip
          rw [nI_ltI (by omega) (by omega)] at hb94
          refine r_iload o dX10_mayStand_97 0 rfl ?_
          refine r_iload o dX10_mayStand_99 1 rfl ?_
          refine r_icmp_lt o (tgt := 108) dX10_mayStand_101 (by decide) (fun hb101 => ?_) (fun hb101 => ?_)
          · skip
            rw [nI_ltI (by omega) (by omega)] at hb101
            refine r_iconst o (v := nI 0) dX10_mayStand_108 (by decide) ?_
            exact r_zreturn o q (by decide) dX10_mayStand_109 (⟨b01_f' (by unfold canS; rw [hb19, if_neg hna.1, if_neg hna.2]; unfold canY; rw [if_neg (by omega)]; simp only [Bool.true_and, Bool.and_eq_true, decide_eq_true_eq, Bool.and_eq_false_iff, decide_eq_false_iff_not]; omega), rfl⟩)
          · skip
            rw [nI_ltI (by omega) (by omega)] at hb101
            refine r_iconst o (v := nI 1) dX10_mayStand_104 (by decide) ?_
            refine r_goto o (tgt := 109) dX10_mayStand_105 (by decide) ?_
            exact r_zreturn o q (by decide) dX10_mayStand_109 (⟨b01_t' (by unfold canS; rw [hb19, if_neg hna.1, if_neg hna.2]; unfold canY; rw [if_neg (by omega)]; simp only [Bool.true_and, Bool.and_eq_true, decide_eq_true_eq, Bool.and_eq_false_iff, decide_eq_false_iff_not]; omega), rfl⟩)
      · skip
        rw [nI_eq0 (by omega)] at hb45
        refine r_iload_n o dX10_mayStand_48 1 rfl ?_
        refine r_iconst o (v := nI 2) dX10_mayStand_49 (by decide) ?_
        refine r_icmp_gt o (tgt := 79) dX10_mayStand_50 (by decide) (fun hb50 => ?_) (fun hb50 => ?_)
        · skip
          rw [nI_ltI (by omega) (by omega)] at hb50
          refine r_iconst o (v := nI 0) dX10_mayStand_79 (by decide) ?_
          exact r_zreturn o q (by decide) dX10_mayStand_80 (⟨b01_f' (by unfold canS; rw [hb19, if_neg hna.1, if_neg hna.2]; unfold canY; rw [if_pos (by omega)]; simp; omega), rfl⟩)
        · skip
          rw [nI_ltI (by omega) (by omega)] at hb50
          refine r_iload_n o dX10_mayStand_53 1 rfl ?_
          refine r_iconst o (v := nI 2) dX10_mayStand_54 (by decide) ?_
          refine r_icmp_ne o (tgt := 63) dX10_mayStand_55 (by decide) (fun hb55 => ?_) (fun hb55 => ?_)
          · skip
            rw [nI_eq (by omega) (by omega)] at hb55
            refine r_bipush o (v := nI 10) dX10_mayStand_63 (by decide) ?_
            refine r_iload_n o dX10_mayStand_65 1 rfl ?_
            refine r_imul o dX10_mayStand_66 ?_
            refine r_topi (y := nI (10 * (sn (aq + (kq + 1)) - 48))) (nI_mul' _ _) ?_
            refine r_bipush o (v := nI 9) dX10_mayStand_67 (by decide) ?_
            refine r_iadd o dX10_mayStand_69 ?_
            refine r_topi (y := nI (10 * (sn (aq + (kq + 1)) - 48) + 9)) (nI_add' _ _) ?_
            refine r_iload o dX10_mayStand_70 0 rfl ?_
            refine r_icmp_lt o (tgt := 79) dX10_mayStand_72 (by decide) (fun hb72 => ?_) (fun hb72 => ?_)
            · skip
              rw [nI_ltI (by omega) (by omega)] at hb72
              refine r_iconst o (v := nI 0) dX10_mayStand_79 (by decide) ?_
              exact r_zreturn o q (by decide) dX10_mayStand_80 (⟨b01_f' (by unfold canS; rw [hb19, if_neg hna.1, if_neg hna.2]; unfold canY; rw [if_pos (by omega)]; simp; omega), rfl⟩)
            · skip
              rw [nI_ltI (by omega) (by omega)] at hb72
              refine r_iconst o (v := nI 1) dX10_mayStand_75 (by decide) ?_
              refine r_goto o (tgt := 80) dX10_mayStand_76 (by decide) ?_
              exact r_zreturn o q (by decide) dX10_mayStand_80 (⟨b01_t' (by unfold canS; rw [hb19, if_neg hna.1, if_neg hna.2]; unfold canY; rw [if_pos (by omega)]; simp; omega), rfl⟩)
          · skip
            rw [nI_eq (by omega) (by omega)] at hb55
            refine r_bipush o (v := nI 23) dX10_mayStand_58 (by decide) ?_
            refine r_goto o (tgt := 70) dX10_mayStand_60 (by decide) ?_
            refine r_iload o dX10_mayStand_70 0 rfl ?_
            refine r_icmp_lt o (tgt := 79) dX10_mayStand_72 (by decide) (fun hb72 => ?_) (fun hb72 => ?_)
            · skip
              rw [nI_ltI (by omega) (by omega)] at hb72
              refine r_iconst o (v := nI 0) dX10_mayStand_79 (by decide) ?_
              exact r_zreturn o q (by decide) dX10_mayStand_80 (⟨b01_f' (by unfold canS; rw [hb19, if_neg hna.1, if_neg hna.2]; unfold canY; rw [if_pos (by omega)]; simp; omega), rfl⟩)
            · skip
              rw [nI_ltI (by omega) (by omega)] at hb72
              refine r_iconst o (v := nI 1) dX10_mayStand_75 (by decide) ?_
              refine r_goto o (tgt := 80) dX10_mayStand_76 (by decide) ?_
              exact r_zreturn o q (by decide) dX10_mayStand_80 (⟨b01_t' (by unfold canS; rw [hb19, if_neg hna.1, if_neg hna.2]; unfold canY; rw [if_pos (by omega)]; simp; omega), rfl⟩)
    · skip
      rw [nI_leI (by omega) (by omega)] at hb26
      refine r_iconst o (v := nI 0) dX10_mayStand_29 (by decide) ?_
      refine r_goto o (tgt := 40) dX10_mayStand_30 (by decide) ?_
      refine r_topi (y := nI (fst2 sn aq (kq + 1))) (by rw [fst2, if_neg (by omega)]) ?_
      refine r_istore o (lv' := [(4, .int (nI (fst2 sn aq (kq + 1)))), (3, .int (nI (sn (aq + (kq + 1)) - 48))), (0, .ref (gad G 11)), (1, .int (nI (aq + (kq + 1)))), (2, .int (nI kq))]) dX10_mayStand_40 (by decide) rfl ?_
      refine r_iload_n o dX10_mayStand_42 4 rfl ?_
      refine r_iconst o (v := nI 2) dX10_mayStand_43 (by decide) ?_
      refine r_irem o dX10_mayStand_44 (nI_z (by omega) (by omega)) ?_
      refine r_topi (y := nI (kq % 2)) (nI_rem' (by omega) (by omega) (by omega)) ?_
      refine r_if_ne o (tgt := 81) dX10_mayStand_45 (by decide) (fun hb45 => ?_) (fun hb45 => ?_)
      · skip
        rw [nI_eq0 (by omega)] at hb45
        refine r_aload_n o dX10_mayStand_81 2 rfl ?_
        refine r_iload_n o dX10_mayStand_82 3 rfl ?_
        refine r_iconst o (v := nI 1) dX10_mayStand_83 (by decide) ?_
        have hdp := hdgq (aq + (kq + 1) - 1) (by omega) (by omega)
        refine r_isub o dX10_mayStand_84 ?_
        refine r_topi (y := nI (aq + (kq + 1) - 1)) (nI_sub' (by omega)) ?_
        refine r_callVI o (As := [.int (nI (aq + (kq + 1) - 1))]) (st := []) (c_X10_two (xl X) G σ sn cntq hp (aq + (kq + 1) - 1) (by omega) hdp.1 (by rw [show aq + (kq + 1) - 1 + 1 = aq + (kq + 1) by omega]; exact hdd.1)) om_X10_two mw_821 mw_17 mw_819 (by decide) rfl rfl rfl (by decide) rfl rfl (Nat.le_of_ble_eq_true rfl) dX10_mayStand_85 (fun rr85 σσ85 hp85 => ?_)
        obtain ⟨hp85, hp85b⟩ := hp85; replace hp85 := Eq.symm hp85; replace hp85b := Eq.symm hp85b; subst hp85; subst hp85b
        refine r_topi (y := nI (10 * (sn (aq + (kq + 1) - 1) - 48) + (sn (aq + (kq + 1)) - 48))) (by unfold twoN; rw [show aq + (kq + 1) - 1 + 1 = aq + (kq + 1) by omega]) ?_
        refine r_istore o (lv' := [(5, .int (nI (10 * (sn (aq + (kq + 1) - 1) - 48) + (sn (aq + (kq + 1)) - 48)))), (4, .int (nI (fst2 sn aq (kq + 1)))), (3, .int (nI (sn (aq + (kq + 1)) - 48))), (0, .ref (gad G 11)), (1, .int (nI (aq + (kq + 1)))), (2, .int (nI kq))]) dX10_mayStand_88 (by decide) rfl ?_
        refine r_iload o dX10_mayStand_90 0 rfl ?_
        refine r_bipush o (v := nI 23) dX10_mayStand_92 (by decide) ?_
        refine r_icmp_gt o (tgt := 108) dX10_mayStand_94 (by decide) (fun hb94 => ?_) (fun hb94 => ?_)
        · skip
          rw [nI_ltI (by omega) (by omega)] at hb94
          refine r_iconst o (v := nI 0) dX10_mayStand_108 (by decide) ?_
          exact r_zreturn o q (by decide) dX10_mayStand_109 (⟨b01_f' (by unfold canS; rw [hb19, if_neg hna.1, if_neg hna.2]; unfold canY; rw [if_neg (by omega)]; simp only [Bool.true_and, Bool.and_eq_true, decide_eq_true_eq, Bool.and_eq_false_iff, decide_eq_false_iff_not]; omega), rfl⟩)
        · skip
          rw [nI_ltI (by omega) (by omega)] at hb94
          refine r_iload o dX10_mayStand_97 0 rfl ?_
          refine r_iload o dX10_mayStand_99 1 rfl ?_
          refine r_icmp_lt o (tgt := 108) dX10_mayStand_101 (by decide) (fun hb101 => ?_) (fun hb101 => ?_)
          · skip
            rw [nI_ltI (by omega) (by omega)] at hb101
            refine r_iconst o (v := nI 0) dX10_mayStand_108 (by decide) ?_
            exact r_zreturn o q (by decide) dX10_mayStand_109 (⟨b01_f' (by unfold canS; rw [hb19, if_neg hna.1, if_neg hna.2]; unfold canY; rw [if_neg (by omega)]; simp only [Bool.true_and, Bool.and_eq_true, decide_eq_true_eq, Bool.and_eq_false_iff, decide_eq_false_iff_not]; omega), rfl⟩)
          · skip
            rw [nI_ltI (by omega) (by omega)] at hb101
            refine r_iconst o (v := nI 1) dX10_mayStand_104 (by decide) ?_
            refine r_goto o (tgt := 109) dX10_mayStand_105 (by decide) ?_
            exact r_zreturn o q (by decide) dX10_mayStand_109 (⟨b01_t' (by unfold canS; rw [hb19, if_neg hna.1, if_neg hna.2]; unfold canY; rw [if_neg (by omega)]; simp only [Bool.true_and, Bool.and_eq_true, decide_eq_true_eq, Bool.and_eq_false_iff, decide_eq_false_iff_not]; omega), rfl⟩)
      · skip
        rw [nI_eq0 (by omega)] at hb45
        refine r_iload_n o dX10_mayStand_48 1 rfl ?_
        refine r_iconst o (v := nI 2) dX10_mayStand_49 (by decide) ?_
        refine r_icmp_gt o (tgt := 79) dX10_mayStand_50 (by decide) (fun hb50 => ?_) (fun hb50 => ?_)
        · skip
          rw [nI_ltI (by omega) (by omega)] at hb50
          refine r_iconst o (v := nI 0) dX10_mayStand_79 (by decide) ?_
          exact r_zreturn o q (by decide) dX10_mayStand_80 (⟨b01_f' (by unfold canS; rw [hb19, if_neg hna.1, if_neg hna.2]; unfold canY; rw [if_pos (by omega)]; simp; omega), rfl⟩)
        · skip
          rw [nI_ltI (by omega) (by omega)] at hb50
          refine r_iload_n o dX10_mayStand_53 1 rfl ?_
          refine r_iconst o (v := nI 2) dX10_mayStand_54 (by decide) ?_
          refine r_icmp_ne o (tgt := 63) dX10_mayStand_55 (by decide) (fun hb55 => ?_) (fun hb55 => ?_)
          · skip
            rw [nI_eq (by omega) (by omega)] at hb55
            refine r_bipush o (v := nI 10) dX10_mayStand_63 (by decide) ?_
            refine r_iload_n o dX10_mayStand_65 1 rfl ?_
            refine r_imul o dX10_mayStand_66 ?_
            refine r_topi (y := nI (10 * (sn (aq + (kq + 1)) - 48))) (nI_mul' _ _) ?_
            refine r_bipush o (v := nI 9) dX10_mayStand_67 (by decide) ?_
            refine r_iadd o dX10_mayStand_69 ?_
            refine r_topi (y := nI (10 * (sn (aq + (kq + 1)) - 48) + 9)) (nI_add' _ _) ?_
            refine r_iload o dX10_mayStand_70 0 rfl ?_
            refine r_icmp_lt o (tgt := 79) dX10_mayStand_72 (by decide) (fun hb72 => ?_) (fun hb72 => ?_)
            · skip
              rw [nI_ltI (by omega) (by omega)] at hb72
              refine r_iconst o (v := nI 0) dX10_mayStand_79 (by decide) ?_
              exact r_zreturn o q (by decide) dX10_mayStand_80 (⟨b01_f' (by unfold canS; rw [hb19, if_neg hna.1, if_neg hna.2]; unfold canY; rw [if_pos (by omega)]; simp; omega), rfl⟩)
            · skip
              rw [nI_ltI (by omega) (by omega)] at hb72
              refine r_iconst o (v := nI 1) dX10_mayStand_75 (by decide) ?_
              refine r_goto o (tgt := 80) dX10_mayStand_76 (by decide) ?_
              exact r_zreturn o q (by decide) dX10_mayStand_80 (⟨b01_t' (by unfold canS; rw [hb19, if_neg hna.1, if_neg hna.2]; unfold canY; rw [if_pos (by omega)]; simp; omega), rfl⟩)
          · skip
            rw [nI_eq (by omega) (by omega)] at hb55
            refine r_bipush o (v := nI 23) dX10_mayStand_58 (by decide) ?_
            refine r_goto o (tgt := 70) dX10_mayStand_60 (by decide) ?_
            refine r_iload o dX10_mayStand_70 0 rfl ?_
            refine r_icmp_lt o (tgt := 79) dX10_mayStand_72 (by decide) (fun hb72 => ?_) (fun hb72 => ?_)
            · skip
              rw [nI_ltI (by omega) (by omega)] at hb72
              refine r_iconst o (v := nI 0) dX10_mayStand_79 (by decide) ?_
              exact r_zreturn o q (by decide) dX10_mayStand_80 (⟨b01_f' (by unfold canS; rw [hb19, if_neg hna.1, if_neg hna.2]; unfold canY; rw [if_pos (by omega)]; simp; omega), rfl⟩)
            · skip
              rw [nI_ltI (by omega) (by omega)] at hb72
              refine r_iconst o (v := nI 1) dX10_mayStand_75 (by decide) ?_
              refine r_goto o (tgt := 80) dX10_mayStand_76 (by decide) ?_
              exact r_zreturn o q (by decide) dX10_mayStand_80 (⟨b01_t' (by unfold canS; rw [hb19, if_neg hna.1, if_neg hna.2]; unfold canY; rw [if_pos (by omega)]; simp; omega), rfl⟩)
  · skip
    rw [b01_eq0] at hb19
    refine r_iconst o (v := nI 0) dX10_mayStand_22 (by decide) ?_
    exact r_zreturn o q (by decide) dX10_mayStand_23 (⟨b01_f' (by unfold canS; rw [hb19]; rfl), rfl⟩)
set_option maxHeartbeats 4000000 in
set_option maxRecDepth 100000 in
theorem c_X10_fault (l : Launch) (G : Gl) (σ : Sto) (sn : Nat → Nat) (cntq : Nat) (hp : PadM σ sn cntq) : CtI l G yX10_fault cX10_fault 6 (some .int) 2 50 [.ref (gad G 11)] σ (fun r σ' => r = fltI sn cntq ∧ σ' = σ) := by
  refine CtI.of (by decide +kernel) (Nat.le_of_ble_eq_true rfl) (fun X o q => ?_)
  show WS X G 6 σ 0 [(0, .ref (gad G 11))] []
  obtain ⟨hcq, hcnt, hsg, hsn⟩ := id hp
  refine r_iconst o (v := nI 0) dX10_fault_0 (by decide) ?_
  refine r_istore_n o (lv' := [(1, .int (nI 0)), (0, .ref (gad G 11))]) dX10_fault_1 (by decide) rfl ?_
  have L2 : ∀ (n : Nat) (fq : Nat) (aq : Nat) (hinq : fltF sn cntq 21 0 = fltF sn cntq fq aq) (hfq : cntq < aq + fq) (haq : aq ≤ cntq), fq < n → WS X G 6 σ 2 [(0, .ref (gad G 11)), (1, .int (nI aq))] [] := by
    intro n
    induction n with
    | zero => intro fq aq hinq hfq haq hm; exact absurd hm (Nat.not_lt_zero _)
    | succ n ih2 =>
      intro fq aq hinq hfq haq hm
      refine r_iload_n o dX10_fault_2 1 rfl ?_
      refine r_aload_n o dX10_fault_3 0 rfl ?_
      refine gf_11_2 o (v := nI cntq) hcq mw_700 dX10_fault_4 ?_
      refine r_icmp_ge o (tgt := 128) dX10_fault_7 (by decide) (fun hb7 => ?_) (fun hb7 => ?_)
      · skip
        rw [nI_leI (by omega) (by omega)] at hb7
        refine r_bipush o (v := (-6)) dX10_fault_128 (by decide) ?_
        exact r_ireturn o q dX10_fault_130 (⟨by unfold fltI; rw [hinq]; cases fq with | zero => rfl | succ gq => unfold fltF; rw [if_neg (by omega)], rfl⟩)
      · skip
        rw [nI_leI (by omega) (by omega)] at hb7
        obtain ⟨gq, rfl⟩ : ∃ zq, fq = zq + 1 := ⟨fq - 1, by omega⟩
        have hsaq := hsn aq
        refine r_aload_n o dX10_fault_10 0 rfl ?_
        refine gf_11_1 o mw_699 dX10_fault_11 ?_
        refine r_iload_n o dX10_fault_14 1 rfl ?_
        refine r_ia o (by decide) ia_72 (f := (σ 72).1) rfl aq rfl (by omega) (by decide) dX10_fault_15 ?_
        refine r_topi (y := nI (sn aq)) (hsg _ (by omega)) ?_
        refine r_istore_n o (lv' := [(2, .int (nI (sn aq))), (0, .ref (gad G 11)), (1, .int (nI aq))]) dX10_fault_16 (by decide) rfl ?_
        refine r_iload_n o dX10_fault_17 0 rfl ?_
        refine r_callSI o (As := [.int (nI (sn aq))]) (st := []) (c_X10_digitsOf (xl X) G σ (sn aq) (by omega)) om_X10_digitsOf mw_808 mw_807 (by decide) rfl rfl (Nat.le_of_ble_eq_true rfl) dX10_fault_18 (fun rr18 σσ18 hp18 => ?_)
        obtain ⟨hp18, hp18b⟩ := hp18; replace hp18 := Eq.symm hp18; replace hp18b := Eq.symm hp18b; subst hp18; subst hp18b
        rcases hdq : digs (sn aq) with _ | dgq
        · skip
          refine r_topi (y := (-1)) (by rw [dgM, hdq]) ?_
          refine r_istore_n o (lv' := [(3, .int (-1)), (2, .int (nI (sn aq))), (0, .ref (gad G 11)), (1, .int (nI aq))]) dX10_fault_21 (by decide) rfl ?_
          refine r_iload_n o dX10_fault_22 0 rfl ?_
          refine r_if_ge o (tgt := 28) dX10_fault_23 (by decide) (fun hb23 => ?_) (fun hb23 => ?_)
          · skip
            exact absurd hb23 (by decide)
          · skip
            refine r_iload_n o dX10_fault_26 3 rfl ?_
            exact r_ireturn o q dX10_fault_27 (⟨by unfold fltI; rw [hinq]; unfold fltF; rw [if_pos (by omega), hdq], rfl⟩)
        · skip
          have hdlq := digs_le hdq
          refine r_topi (y := nI dgq) (by rw [dgM, hdq]) ?_
          refine r_istore_n o (lv' := [(3, .int (nI dgq)), (2, .int (nI (sn aq))), (0, .ref (gad G 11)), (1, .int (nI aq))]) dX10_fault_21 (by decide) rfl ?_
          refine r_iload_n o dX10_fault_22 0 rfl ?_
          refine r_if_ge o (tgt := 28) dX10_fault_23 (by decide) (fun hb23 => ?_) (fun hb23 => ?_)
          · skip
            rw [nI_ge0 (by omega)] at hb23
            refine r_iinc o (v := nI (aq + 1)) (lv' := [(1, .int (nI (aq + 1))), (3, .int (nI dgq)), (2, .int (nI (sn aq))), (0, .ref (gad G 11))]) dX10_fault_28 3 rfl (nI_inc _) (by decide) rfl ?_
            refine r_iconst o (v := nI 0) dX10_fault_31 (by decide) ?_
            refine r_istore o (lv' := [(4, .int (nI 0)), (1, .int (nI (aq + 1))), (3, .int (nI dgq)), (2, .int (nI (sn aq))), (0, .ref (gad G 11))]) dX10_fault_32 (by decide) rfl ?_
            have L34 : ∀ (n : Nat) (kq : Nat) (hkq : kq ≤ dgq) (hbq : badD sn cntq aq dgq 1 = badD sn cntq aq (dgq - kq) (kq + 1)) (hle : aq + (kq + 1) ≤ cntq) (hdgq : ∀ jq, aq < jq → jq < aq + (kq + 1) → 48 ≤ sn jq ∧ sn jq ≤ 57) (h23 : 2 ≤ kq → twoN sn (aq + 1) ≤ 23), dgq - kq < n → WS X G 6 σ 34 [(0, .ref (gad G 11)), (1, .int (nI (aq + (kq + 1)))), (2, .int (nI (sn aq))), (3, .int (nI dgq)), (4, .int (nI kq))] [] := by
              intro n
              induction n with
              | zero => intro kq hkq hbq hle hdgq h23 hm; exact absurd hm (Nat.not_lt_zero _)
              | succ n ih34 =>
                intro kq hkq hbq hle hdgq h23 hm
                refine r_iload o dX10_fault_34 4 rfl ?_
                refine r_iload_n o dX10_fault_36 3 rfl ?_
                refine r_icmp_ge o (tgt := 125) dX10_fault_37 (by decide) (fun hb37 => ?_) (fun hb37 => ?_)
                · skip
                  rw [nI_leI (by omega) (by omega)] at hb37
                  have hinq2 : fltF sn cntq 21 0 = fltF sn cntq gq (aq + (kq + 1)) := by rw [hinq]; show (if aq < cntq then _ else _) = _; rw [if_pos (show aq < cntq by omega), hdq]; simp only []; rw [hbq, show dgq - kq = 0 by omega]; show fltF sn cntq gq (aq + 1 + dgq) = _; rw [show aq + 1 + dgq = aq + (kq + 1) by omega]
                  refine r_goto o (tgt := 2) dX10_fault_125 (by decide) ?_
                  exact r_to rfl [0, 1] rfl (ih2 gq (aq + (kq + 1)) hinq2 (by omega) (by omega) (by omega))
                · skip
                  rw [nI_leI (by omega) (by omega)] at hb37
                  refine r_iload_n o dX10_fault_40 1 rfl ?_
                  refine r_aload_n o dX10_fault_41 0 rfl ?_
                  refine gf_11_2 o (v := nI cntq) hcq mw_700 dX10_fault_42 ?_
                  refine r_icmp_ne o (tgt := 50) dX10_fault_45 (by decide) (fun hb45 => ?_) (fun hb45 => ?_)
                  · skip
                    rw [nI_eq (by omega) (by omega)] at hb45
                    have hsi := hsn (aq + (kq + 1))
                    refine r_iload_n o dX10_fault_50 2 rfl ?_
                    refine r_bipush o (v := nI 115) dX10_fault_51 (by decide) ?_
                    refine r_icmp_ne o (tgt := 75) dX10_fault_53 (by decide) (fun hb53 => ?_) (fun hb53 => ?_)
                    · skip
                      rw [nI_eq (by omega) (by omega)] at hb53
                      refine r_iload_n o dX10_fault_75 2 rfl ?_
                      refine r_bipush o (v := nI 108) dX10_fault_76 (by decide) ?_
                      refine r_icmp_ne o (tgt := 100) dX10_fault_78 (by decide) (fun hb78 => ?_) (fun hb78 => ?_)
                      · skip
                        rw [nI_eq (by omega) (by omega)] at hb78
                        refine r_aload_n o dX10_fault_100 0 rfl ?_
                        refine r_iload_n o dX10_fault_101 1 rfl ?_
                        refine r_iload o dX10_fault_102 4 rfl ?_
                        refine r_callVI o (As := [.int (nI (aq + (kq + 1))), .int (nI kq)]) (st := []) (c_X10_mayStand (xl X) G σ sn cntq hp aq kq (by omega) (by omega) hdgq h23 (⟨hb78, hb53⟩)) om_X10_mayStand mw_816 mw_16 mw_814 (by decide) rfl rfl rfl (by decide) rfl rfl (Nat.le_of_ble_eq_true rfl) dX10_fault_104 (fun rr104 σσ104 hp104 => ?_)
                        obtain ⟨hp104, hp104b⟩ := hp104; replace hp104 := Eq.symm hp104; replace hp104b := Eq.symm hp104b; subst hp104; subst hp104b
                        refine r_istore o (lv' := [(5, .int (b01 (canS sn aq (kq + 1)))), (0, .ref (gad G 11)), (1, .int (nI (aq + (kq + 1)))), (2, .int (nI (sn aq))), (3, .int (nI dgq)), (4, .int (nI kq))]) dX10_fault_107 (by decide) rfl ?_
                        refine r_iload o dX10_fault_109 0 rfl ?_
                        refine r_if_ne o (tgt := 116) dX10_fault_111 (by decide) (fun hb111 => ?_) (fun hb111 => ?_)
                        · skip
                          rw [b01_ne0] at hb111
                          refine r_iinc o (v := nI (aq + (kq + 1) + 1)) (lv' := [(1, .int (nI (aq + (kq + 1) + 1))), (5, .int (b01 (canS sn aq (kq + 1)))), (0, .ref (gad G 11)), (2, .int (nI (sn aq))), (3, .int (nI dgq)), (4, .int (nI kq))]) dX10_fault_116 2 rfl (nI_inc _) (by decide) rfl ?_
                          refine r_iinc o (v := nI (kq + 1)) (lv' := [(4, .int (nI (kq + 1))), (1, .int (nI (aq + (kq + 1) + 1))), (5, .int (b01 (canS sn aq (kq + 1)))), (0, .ref (gad G 11)), (2, .int (nI (sn aq))), (3, .int (nI dgq))]) dX10_fault_119 5 rfl (nI_inc _) (by decide) rfl ?_
                          refine r_goto o (tgt := 34) dX10_fault_122 (by decide) ?_
                          exact r_to rfl [3, 1, 4, 5, 0] rfl (ih34 (kq + 1) (by omega) (by rw [hbq, show dgq - kq = (dgq - (kq + 1)) + 1 by omega, badD_t (by omega) hb111]) (by omega) (fun jq hq1 hq2 => by rcases Nat.lt_or_ge jq (aq + (kq + 1)) with zq | zq; exact hdgq jq hq1 zq; rw [show jq = aq + (kq + 1) by omega]; exact canS_dig hb111) (fun hz => by rcases Nat.lt_or_ge kq 2 with zq | zq; (obtain rfl : kq = 1 := by omega); exact (canE (iq := 2) (fun hw => absurd (dgs_l hw hdq) (by omega)) (fun hw => absurd (dgs_s hw hdq) (by omega)) rfl hb111).2; exact h23 zq) (by omega))
                        · skip
                          rw [b01_eq0] at hb111
                          refine r_iload_n o dX10_fault_114 2 rfl ?_
                          exact r_ireturn o q dX10_fault_115 (⟨by unfold fltI; rw [hinq]; unfold fltF; rw [if_pos (by omega), hdq]; simp only []; rw [hbq, show dgq - kq = (dgq - (kq + 1)) + 1 by omega]; unfold badD; rw [if_neg (by omega), if_neg (by rw [hb111]; exact Bool.false_ne_true)], rfl⟩)
                      · skip
                        rw [nI_eq (by omega) (by omega)] at hb78
                        refine r_aload_n o dX10_fault_81 0 rfl ?_
                        refine gf_11_1 o mw_699 dX10_fault_82 ?_
                        refine r_iload_n o dX10_fault_85 1 rfl ?_
                        refine r_ia o (by decide) ia_72 (f := (σ 72).1) rfl (aq + (kq + 1)) rfl (by omega) (by decide) dX10_fault_86 ?_
                        refine r_topi (y := nI (sn (aq + (kq + 1)))) (hsg _ (by omega)) ?_
                        refine r_i2l o dX10_fault_87 rfl ?_
                        refine r_ldc2_w o mw_812 dX10_fault_88 ?_
                        refine r_ldc2_w o mw_813 dX10_fault_91 ?_
                        refine r_callSI o (As := [.long ((nI (sn (aq + (kq + 1)))).toInt64), .long 49, .long 57]) (st := []) (c_X10_in (xl X) G σ ((nI (sn (aq + (kq + 1)))).toInt64) 49 57) om_X10_in mw_783 mw_782 (by decide) rfl rfl (Nat.le_of_ble_eq_true rfl) dX10_fault_94 (fun rr94 σσ94 hp94 => ?_)
                        obtain ⟨hp94, hp94b⟩ := hp94; replace hp94 := Eq.symm hp94; replace hp94b := Eq.symm hp94b; subst hp94; subst hp94b
                        refine r_topi (y := b01 (canS sn aq (kq + 1))) (congrArg b01 (fl_l hb78 hsi)) ?_
                        refine r_goto o (tgt := 107) dX10_fault_97 (by decide) ?_
                        refine r_istore o (lv' := [(5, .int (b01 (canS sn aq (kq + 1)))), (0, .ref (gad G 11)), (1, .int (nI (aq + (kq + 1)))), (2, .int (nI (sn aq))), (3, .int (nI dgq)), (4, .int (nI kq))]) dX10_fault_107 (by decide) rfl ?_
                        refine r_iload o dX10_fault_109 0 rfl ?_
                        refine r_if_ne o (tgt := 116) dX10_fault_111 (by decide) (fun hb111 => ?_) (fun hb111 => ?_)
                        · skip
                          rw [b01_ne0] at hb111
                          refine r_iinc o (v := nI (aq + (kq + 1) + 1)) (lv' := [(1, .int (nI (aq + (kq + 1) + 1))), (5, .int (b01 (canS sn aq (kq + 1)))), (0, .ref (gad G 11)), (2, .int (nI (sn aq))), (3, .int (nI dgq)), (4, .int (nI kq))]) dX10_fault_116 2 rfl (nI_inc _) (by decide) rfl ?_
                          refine r_iinc o (v := nI (kq + 1)) (lv' := [(4, .int (nI (kq + 1))), (1, .int (nI (aq + (kq + 1) + 1))), (5, .int (b01 (canS sn aq (kq + 1)))), (0, .ref (gad G 11)), (2, .int (nI (sn aq))), (3, .int (nI dgq))]) dX10_fault_119 5 rfl (nI_inc _) (by decide) rfl ?_
                          refine r_goto o (tgt := 34) dX10_fault_122 (by decide) ?_
                          exact r_to rfl [3, 1, 4, 5, 0] rfl (ih34 (kq + 1) (by omega) (by rw [hbq, show dgq - kq = (dgq - (kq + 1)) + 1 by omega, badD_t (by omega) hb111]) (by omega) (fun jq hq1 hq2 => by rcases Nat.lt_or_ge jq (aq + (kq + 1)) with zq | zq; exact hdgq jq hq1 zq; rw [show jq = aq + (kq + 1) by omega]; exact canS_dig hb111) (fun hz => by rcases Nat.lt_or_ge kq 2 with zq | zq; (obtain rfl : kq = 1 := by omega); exact (canE (iq := 2) (fun hw => absurd (dgs_l hw hdq) (by omega)) (fun hw => absurd (dgs_s hw hdq) (by omega)) rfl hb111).2; exact h23 zq) (by omega))
                        · skip
                          rw [b01_eq0] at hb111
                          refine r_iload_n o dX10_fault_114 2 rfl ?_
                          exact r_ireturn o q dX10_fault_115 (⟨by unfold fltI; rw [hinq]; unfold fltF; rw [if_pos (by omega), hdq]; simp only []; rw [hbq, show dgq - kq = (dgq - (kq + 1)) + 1 by omega]; unfold badD; rw [if_neg (by omega), if_neg (by rw [hb111]; exact Bool.false_ne_true)], rfl⟩)
                    · skip
                      rw [nI_eq (by omega) (by omega)] at hb53
                      refine r_aload_n o dX10_fault_56 0 rfl ?_
                      refine gf_11_1 o mw_699 dX10_fault_57 ?_
                      refine r_iload_n o dX10_fault_60 1 rfl ?_
                      refine r_ia o (by decide) ia_72 (f := (σ 72).1) rfl (aq + (kq + 1)) rfl (by omega) (by decide) dX10_fault_61 ?_
                      refine r_topi (y := nI (sn (aq + (kq + 1)))) (hsg _ (by omega)) ?_
                      refine r_i2l o dX10_fault_62 rfl ?_
                      refine r_ldc2_w o mw_810 dX10_fault_63 ?_
                      refine r_ldc2_w o mw_811 dX10_fault_66 ?_
                      refine r_callSI o (As := [.long ((nI (sn (aq + (kq + 1)))).toInt64), .long 50, .long 53]) (st := []) (c_X10_in (xl X) G σ ((nI (sn (aq + (kq + 1)))).toInt64) 50 53) om_X10_in mw_783 mw_782 (by decide) rfl rfl (Nat.le_of_ble_eq_true rfl) dX10_fault_69 (fun rr69 σσ69 hp69 => ?_)
                      obtain ⟨hp69, hp69b⟩ := hp69; replace hp69 := Eq.symm hp69; replace hp69b := Eq.symm hp69b; subst hp69; subst hp69b
                      refine r_topi (y := b01 (canS sn aq (kq + 1))) (congrArg b01 (fl_s hb53 hsi)) ?_
                      refine r_goto o (tgt := 107) dX10_fault_72 (by decide) ?_
                      refine r_istore o (lv' := [(5, .int (b01 (canS sn aq (kq + 1)))), (0, .ref (gad G 11)), (1, .int (nI (aq + (kq + 1)))), (2, .int (nI (sn aq))), (3, .int (nI dgq)), (4, .int (nI kq))]) dX10_fault_107 (by decide) rfl ?_
                      refine r_iload o dX10_fault_109 0 rfl ?_
                      refine r_if_ne o (tgt := 116) dX10_fault_111 (by decide) (fun hb111 => ?_) (fun hb111 => ?_)
                      · skip
                        rw [b01_ne0] at hb111
                        refine r_iinc o (v := nI (aq + (kq + 1) + 1)) (lv' := [(1, .int (nI (aq + (kq + 1) + 1))), (5, .int (b01 (canS sn aq (kq + 1)))), (0, .ref (gad G 11)), (2, .int (nI (sn aq))), (3, .int (nI dgq)), (4, .int (nI kq))]) dX10_fault_116 2 rfl (nI_inc _) (by decide) rfl ?_
                        refine r_iinc o (v := nI (kq + 1)) (lv' := [(4, .int (nI (kq + 1))), (1, .int (nI (aq + (kq + 1) + 1))), (5, .int (b01 (canS sn aq (kq + 1)))), (0, .ref (gad G 11)), (2, .int (nI (sn aq))), (3, .int (nI dgq))]) dX10_fault_119 5 rfl (nI_inc _) (by decide) rfl ?_
                        refine r_goto o (tgt := 34) dX10_fault_122 (by decide) ?_
                        exact r_to rfl [3, 1, 4, 5, 0] rfl (ih34 (kq + 1) (by omega) (by rw [hbq, show dgq - kq = (dgq - (kq + 1)) + 1 by omega, badD_t (by omega) hb111]) (by omega) (fun jq hq1 hq2 => by rcases Nat.lt_or_ge jq (aq + (kq + 1)) with zq | zq; exact hdgq jq hq1 zq; rw [show jq = aq + (kq + 1) by omega]; exact canS_dig hb111) (fun hz => by rcases Nat.lt_or_ge kq 2 with zq | zq; (obtain rfl : kq = 1 := by omega); exact (canE (iq := 2) (fun hw => absurd (dgs_l hw hdq) (by omega)) (fun hw => absurd (dgs_s hw hdq) (by omega)) rfl hb111).2; exact h23 zq) (by omega))
                      · skip
                        rw [b01_eq0] at hb111
                        refine r_iload_n o dX10_fault_114 2 rfl ?_
                        exact r_ireturn o q dX10_fault_115 (⟨by unfold fltI; rw [hinq]; unfold fltF; rw [if_pos (by omega), hdq]; simp only []; rw [hbq, show dgq - kq = (dgq - (kq + 1)) + 1 by omega]; unfold badD; rw [if_neg (by omega), if_neg (by rw [hb111]; exact Bool.false_ne_true)], rfl⟩)
                  · skip
                    rw [nI_eq (by omega) (by omega)] at hb45
                    refine r_iload_n o dX10_fault_48 1 rfl ?_
                    exact r_ireturn o q dX10_fault_49 (⟨by unfold fltI; rw [hinq]; unfold fltF; rw [if_pos (by omega), hdq]; simp only []; rw [hbq, show dgq - kq = (dgq - (kq + 1)) + 1 by omega]; unfold badD; rw [if_pos (by omega)]; exact congrArg nI hb45, rfl⟩)
            exact r_to rfl [4, 1, 3, 2, 0] rfl (L34 _ 0 (by omega) rfl (by omega) (fun jq hq1 hq2 => absurd hq2 (by omega)) (fun hz => absurd hz (by omega)) (Nat.lt_succ_self _))
          · skip
            rw [nI_ge0 (by omega)] at hb23
            exact absurd (Nat.zero_le _) hb23
  exact r_to rfl [1, 0] rfl (L2 _ 21 0 rfl (by omega) (by omega) (Nat.lt_succ_self _))
set_option maxHeartbeats 4000000 in
set_option maxRecDepth 100000 in
theorem c_X10_held (l : Launch) (G : Gl) (σ : Sto) (vz : Int32) : CtI l G yX10_held cX10_held 2 (some .int) 0 0 [.long vz.toInt64] σ (fun r σ' => r = hlM vz ∧ σ' = σ) := by
  refine CtI.of (by decide +kernel) (Nat.le_of_ble_eq_true rfl) (fun X o q => ?_)
  show WS X G 2 σ 0 [(0, .long vz.toInt64)] []
  refine r_lload_n o dX10_held_0 0 rfl ?_
  refine r_ldc2_w o mw_844 dX10_held_1 ?_
  refine r_lcmp o dX10_held_4 ?_
  refine r_if_le o (tgt := 14) dX10_held_5 (by decide) (fun hb5 => ?_) (fun hb5 => ?_)
  · skip
    rw [lg_cmp_le] at hb5
    refine r_lload_n o dX10_held_14 0 rfl ?_
    refine r_ldc2_w o mw_845 dX10_held_15 ?_
    refine r_lcmp o dX10_held_18 ?_
    refine r_if_ge o (tgt := 28) dX10_held_19 (by decide) (fun hb19 => ?_) (fun hb19 => ?_)
    · skip
      rw [lg_cmp_ge] at hb19
      refine r_lload_n o dX10_held_28 0 rfl ?_
      refine r_l2i o dX10_held_29 rfl ?_
      exact r_ireturn o q dX10_held_30 (⟨by first | exact hld_a (l_nle.mp hb5) | exact hld_b (fun hz => absurd hb5 (l_nle.mpr hz)) (l_nle.mp hb19) | exact hld_c (fun hz => absurd hb5 (l_nle.mpr hz)) (fun hz => absurd hb19 (l_nle.mpr hz)), rfl⟩)
    · skip
      rw [lg_cmp_ge] at hb19
      refine r_sipush o (v := (-999)) dX10_held_22 (by decide) ?_
      refine r_goto o (tgt := 30) dX10_held_25 (by decide) ?_
      exact r_ireturn o q dX10_held_30 (⟨by first | exact hld_a (l_nle.mp hb5) | exact hld_b (fun hz => absurd hb5 (l_nle.mpr hz)) (l_nle.mp hb19) | exact hld_c (fun hz => absurd hb5 (l_nle.mpr hz)) (fun hz => absurd hb19 (l_nle.mpr hz)), rfl⟩)
  · skip
    rw [lg_cmp_le] at hb5
    refine r_sipush o (v := nI 999) dX10_held_8 (by decide) ?_
    refine r_goto o (tgt := 30) dX10_held_11 (by decide) ?_
    exact r_ireturn o q dX10_held_30 (⟨by first | exact hld_a (l_nle.mp hb5) | exact hld_b (fun hz => absurd hb5 (l_nle.mpr hz)) (l_nle.mp hb19) | exact hld_c (fun hz => absurd hb5 (l_nle.mpr hz)) (fun hz => absurd hb19 (l_nle.mpr hz)), rfl⟩)
set_option maxHeartbeats 4000000 in
set_option maxRecDepth 100000 in
theorem c_X10_wasAt (l : Launch) (G : Gl) (σ : Sto) (fq : Nat → Int32) (hfq : (σ 74).1 = fq) (vz : Int32) : CtI l G yX10_wasAt cX10_wasAt 2 (some .int) 2 45 [.ref (gad G 11), .int vz] σ (fun r σ' => r = atI fq vz ∧ σ' = σ) := by
  refine CtI.of (by decide +kernel) (Nat.le_of_ble_eq_true rfl) (fun X o q => ?_)
  show WS X G 2 σ 0 [(0, .ref (gad G 11)), (1, .int vz)] []
  refine r_iload_n o dX10_wasAt_0 1 rfl ?_
  refine r_callSI o (As := [.int vz]) (st := []) (c_X10_isYear (xl X) G σ vz) om_X10_isYear mw_787 mw_786 (by decide) rfl rfl (Nat.le_of_ble_eq_true rfl) dX10_wasAt_1 (fun rr1 σσ1 hp1 => ?_)
  obtain ⟨hp1, hp1b⟩ := hp1; replace hp1 := Eq.symm hp1; replace hp1b := Eq.symm hp1b; subst hp1; subst hp1b
  refine r_if_eq o (tgt := 16) dX10_wasAt_4 (by decide) (fun hb4 => ?_) (fun hb4 => ?_)
  · skip
    rw [b01_eq0] at hb4
    refine r_ldc o mw_697 dX10_wasAt_16 ?_
    exact r_ireturn o q dX10_wasAt_18 (⟨by unfold atI; first | (rw [if_pos hb4]) | (rw [if_neg (by rw [hb4]; decide)]), rfl⟩)
  · skip
    rw [b01_ne0] at hb4
    obtain ⟨hv1, hv2⟩ := inB_nI (n := 23) (by decide) hb4
    refine r_lv (lv' := [(0, .ref (gad G 11)), (1, .int (nI vz.toNatClampNeg))]) (congrArg (fun zz => ([(0, .ref (gad G 11)), (1, .int zz)] : List (Nat × Value))) (hv1)) ?_
    refine r_aload_n o dX10_wasAt_7 0 rfl ?_
    refine gf_11_4 o mw_702 dX10_wasAt_8 ?_
    refine r_iload_n o dX10_wasAt_11 1 rfl ?_
    refine r_ia o (by decide) ia_74 (f := fq) hfq vz.toNatClampNeg rfl (by omega) (by decide) dX10_wasAt_12 ?_
    refine r_goto o (tgt := 18) dX10_wasAt_13 (by decide) ?_
    exact r_ireturn o q dX10_wasAt_18 (⟨by unfold atI; first | (rw [if_pos hb4]) | (rw [if_neg (by rw [hb4]; decide)]), rfl⟩)
set_option maxHeartbeats 4000000 in
set_option maxRecDepth 100000 in
theorem c_X10_becomes (l : Launch) (G : Gl) (σ : Sto) (sn : Nat → Nat) (cntq : Nat) (hp : PadM σ sn cntq) (fq : Nat → Int32) (hfq : (σ 74).1 = fq) (hbd : BdF fq) (aq : Nat) (haq : aq < cntq) (dgq : Nat) (hdq : digs (sn aq) = some dgq) (hbn : badD sn cntq aq dgq 1 = none) (jq : Nat) (hj : jq < 24) : CtI l G yX10_becomes cX10_becomes 7 (some .int) 3 66 [.ref (gad G 11), .int (nI jq), .int (nI aq)] σ (fun r σ' => r = stepF sn aq fq jq ∧ σ' = σ) := by
  refine CtI.of (by decide +kernel) (Nat.le_of_ble_eq_true rfl) (fun X o q => ?_)
  show WS X G 7 σ 0 [(0, .ref (gad G 11)), (1, .int (nI jq)), (2, .int (nI aq))] []
  obtain ⟨hcq, hcnt, hsg, hsn⟩ := id hp
  have hsaq := hsn aq
  refine r_aload_n o dX10_becomes_0 0 rfl ?_
  refine gf_11_1 o mw_699 dX10_becomes_1 ?_
  refine r_iload_n o dX10_becomes_4 2 rfl ?_
  refine r_ia o (by decide) ia_72 (f := (σ 72).1) rfl aq rfl (by omega) (by decide) dX10_becomes_5 ?_
  refine r_topi (y := nI (sn aq)) (hsg _ (by omega)) ?_
  refine r_istore_n o (lv' := [(3, .int (nI (sn aq))), (0, .ref (gad G 11)), (1, .int (nI jq)), (2, .int (nI aq))]) dX10_becomes_6 (by decide) rfl ?_
  refine r_iload_n o dX10_becomes_7 0 rfl ?_
  by_cases hs8_99 : sn aq = 99
  · skip
    refine r_topi (y := nI 99) (by rw [hs8_99]) ?_
    refine r_lookup o (off := 196) (tgt := 204) dX10_becomes_8 (by decide) (by decide) (by decide) ?_
    obtain rfl := dgs_c hs8_99 hdq
    have hc1 := bad_none hbn 1 (by omega) (by omega)
    have hc2 := bad_none hbn 2 (by omega) (by omega)
    have hc3 := bad_none hbn 3 (by omega) (by omega)
    have hc4 := bad_none hbn 4 (by omega) (by omega)
    have hd1 := canS_dig hc1.2
    have hd2 := canS_dig hc2.2
    have hd3 := canS_dig hc3.2
    have hd4 := canS_dig hc4.2
    have he1 := canC2 sn aq hs8_99 hc2.2
    have he2 := canC4 sn aq hs8_99 hc4.2
    refine r_iload_n o dX10_becomes_204 2 rfl ?_
    refine r_i2l o dX10_becomes_205 rfl ?_
    refine r_aload_n o dX10_becomes_206 1 rfl ?_
    refine r_iload_n o dX10_becomes_207 3 rfl ?_
    refine r_iconst o (v := nI 1) dX10_becomes_208 (by decide) ?_
    refine r_iadd o dX10_becomes_209 ?_
    refine r_topi (y := nI (aq + 1)) (nI_add' _ _) ?_
    refine r_callVI o (As := [.int (nI (aq + 1))]) (st := [.long ((nI jq).toInt64)]) (c_X10_two (xl X) G σ sn cntq hp (aq + 1) (by omega) hd1.1 hd2.1) om_X10_two mw_821 mw_17 mw_819 (by decide) rfl rfl rfl (by decide) rfl rfl (Nat.le_of_ble_eq_true rfl) dX10_becomes_210 (fun rr210 σσ210 hp210 => ?_)
    obtain ⟨hp210, hp210b⟩ := hp210; replace hp210 := Eq.symm hp210; replace hp210b := Eq.symm hp210b; subst hp210; subst hp210b
    refine r_i2l o dX10_becomes_213 rfl ?_
    refine r_aload_n o dX10_becomes_214 1 rfl ?_
    refine r_iload_n o dX10_becomes_215 3 rfl ?_
    refine r_iconst o (v := nI 3) dX10_becomes_216 (by decide) ?_
    refine r_iadd o dX10_becomes_217 ?_
    refine r_topi (y := nI (aq + 3)) (nI_add' _ _) ?_
    refine r_callVI o (As := [.int (nI (aq + 3))]) (st := [.long ((nI (twoN sn (aq + 1))).toInt64), .long ((nI jq).toInt64)]) (c_X10_two (xl X) G σ sn cntq hp (aq + 3) (by omega) hd3.1 hd4.1) om_X10_two mw_821 mw_17 mw_819 (by decide) rfl rfl rfl (by decide) rfl rfl (Nat.le_of_ble_eq_true rfl) dX10_becomes_218 (fun rr218 σσ218 hp218 => ?_)
    obtain ⟨hp218, hp218b⟩ := hp218; replace hp218 := Eq.symm hp218; replace hp218b := Eq.symm hp218b; subst hp218; subst hp218b
    refine r_i2l o dX10_becomes_221 rfl ?_
    refine r_callSI o (As := [.long ((nI jq).toInt64), .long ((nI (twoN sn (aq + 1))).toInt64), .long ((nI (twoN sn (aq + 3))).toInt64)]) (st := []) (c_X10_in (xl X) G σ ((nI jq).toInt64) ((nI (twoN sn (aq + 1))).toInt64) ((nI (twoN sn (aq + 3))).toInt64)) om_X10_in mw_783 mw_782 (by decide) rfl rfl (Nat.le_of_ble_eq_true rfl) dX10_becomes_222 (fun rr222 σσ222 hp222 => ?_)
    obtain ⟨hp222, hp222b⟩ := hp222; replace hp222 := Eq.symm hp222; replace hp222b := Eq.symm hp222b; subst hp222; subst hp222b
    refine r_topi (y := b01 (decide (twoN sn (aq + 1) ≤ jq) && decide (jq ≤ twoN sn (aq + 3)))) (by rw [inL_w, inB_N (by omega) (by omega) (by omega)]) ?_
    refine r_if_eq o (tgt := 237) dX10_becomes_225 (by decide) (fun hb225 => ?_) (fun hb225 => ?_)
    · skip
      rw [b01_eq0] at hb225
      have hb226 : ¬ (twoN sn (aq + 1) ≤ jq ∧ jq ≤ twoN sn (aq + 3)) := fun hz => by rw [decide_eq_true hz.1, decide_eq_true hz.2] at hb225; cases hb225
      refine r_ldc o mw_697 dX10_becomes_237 ?_
      exact r_ireturn o q dX10_becomes_239 (⟨by rw [stp_c hs8_99 hj]; first | (rw [if_pos hb225]; done) | (rw [if_neg hb226]; done), rfl⟩)
    · skip
      rw [b01_ne0] at hb225
      rw [Bool.and_eq_true, decide_eq_true_eq, decide_eq_true_eq] at hb225
      refine r_aload_n o dX10_becomes_228 1 rfl ?_
      refine gf_11_4 o mw_702 dX10_becomes_229 ?_
      refine r_iload_n o dX10_becomes_232 2 rfl ?_
      refine r_ia o (by decide) ia_74 (f := fq) hfq jq rfl (by omega) (by decide) dX10_becomes_233 ?_
      refine r_goto o (tgt := 239) dX10_becomes_234 (by decide) ?_
      exact r_ireturn o q dX10_becomes_239 (⟨by rw [stp_c hs8_99 hj]; first | (rw [if_pos hb225]; done) | (rw [if_neg hb226]; done), rfl⟩)
  by_cases hs8_108 : sn aq = 108
  · skip
    refine r_topi (y := nI 108) (by rw [hs8_108]) ?_
    refine r_lookup o (off := 139) (tgt := 147) dX10_becomes_8 (by decide) (by decide) (by decide) ?_
    obtain rfl := dgs_l hs8_108 hdq
    have hc1 := bad_none hbn 1 (by omega) (by omega)
    have hd1 := canS_dig hc1.2
    refine r_aload_n o dX10_becomes_147 1 rfl ?_
    refine r_iload_n o dX10_becomes_148 2 rfl ?_
    refine r_aload_n o dX10_becomes_149 1 rfl ?_
    refine gf_11_1 o mw_699 dX10_becomes_150 ?_
    refine r_iload_n o dX10_becomes_153 3 rfl ?_
    refine r_iconst o (v := nI 1) dX10_becomes_154 (by decide) ?_
    refine r_iadd o dX10_becomes_155 ?_
    refine r_topi (y := nI (aq + 1)) (nI_add' _ _) ?_
    refine r_ia o (by decide) ia_72 (f := (σ 72).1) rfl (aq + 1) rfl (by omega) (by decide) dX10_becomes_156 ?_
    refine r_topi (y := nI (sn (aq + 1))) (hsg _ (by omega)) ?_
    refine r_isub o dX10_becomes_157 ?_
    refine r_bipush o (v := nI 48) dX10_becomes_158 (by decide) ?_
    refine r_iadd o dX10_becomes_160 ?_
    refine r_topi (y := nI jq - nI (sn (aq + 1) - 48)) (by rw [i_sba, nI_sub' hd1.1]) ?_
    refine r_callVI o (As := [.int (nI jq - nI (sn (aq + 1) - 48))]) (st := []) (c_X10_wasAt (xl X) G σ fq hfq (nI jq - nI (sn (aq + 1) - 48))) om_X10_wasAt mw_839 mw_20 mw_837 (by decide) rfl rfl rfl (by decide) rfl rfl (Nat.le_of_ble_eq_true rfl) dX10_becomes_161 (fun rr161 σσ161 hp161 => ?_)
    obtain ⟨hp161, hp161b⟩ := hp161; replace hp161 := Eq.symm hp161; replace hp161b := Eq.symm hp161b; subst hp161; subst hp161b
    exact r_ireturn o q dX10_becomes_164 (⟨(stp_l hs8_108 hj).symm, rfl⟩)
  by_cases hs8_115 : sn aq = 115
  · skip
    refine r_topi (y := nI 115) (by rw [hs8_115]) ?_
    refine r_lookup o (off := 44) (tgt := 52) dX10_becomes_8 (by decide) (by decide) (by decide) ?_
    obtain rfl := dgs_s hs8_115 hdq
    have hc1 := bad_none hbn 1 (by omega) (by omega)
    have hd1 := canS_dig hc1.2
    refine r_iconst o (v := nI 0) dX10_becomes_52 (by decide) ?_
    refine r_istore o (lv' := [(4, .int (nI 0)), (3, .int (nI (sn aq))), (0, .ref (gad G 11)), (1, .int (nI jq)), (2, .int (nI aq))]) dX10_becomes_53 (by decide) rfl ?_
    refine r_iconst o (v := nI 1) dX10_becomes_55 (by decide) ?_
    refine r_istore o (lv' := [(5, .int (nI 1)), (4, .int (nI 0)), (3, .int (nI (sn aq))), (0, .ref (gad G 11)), (1, .int (nI jq)), (2, .int (nI aq))]) dX10_becomes_56 (by decide) rfl ?_
    refine r_iconst o (v := nI 0) dX10_becomes_58 (by decide) ?_
    refine r_istore o (lv' := [(6, .int (nI 0)), (5, .int (nI 1)), (4, .int (nI 0)), (3, .int (nI (sn aq))), (0, .ref (gad G 11)), (1, .int (nI jq)), (2, .int (nI aq))]) dX10_becomes_59 (by decide) rfl ?_
    have L61 : ∀ (n : Nat) (kq : Nat) (sz9 : Int32) (alq : Bool) (hkq : kq ≤ sn (aq + 1) - 48) (halq : alq = !decide (smA fq jq kq = -1000000)) (hsz : alq = true → sz9 = smA fq jq kq), sn (aq + 1) - 48 - kq < n → WS X G 7 σ 61 [(0, .ref (gad G 11)), (1, .int (nI jq)), (2, .int (nI aq)), (3, .int (nI (sn aq))), (4, .int sz9), (5, .int (b01 alq)), (6, .int (nI kq))] [] := by
      intro n
      induction n with
      | zero => intro kq sz9 alq hkq halq hsz hm; exact absurd hm (Nat.not_lt_zero _)
      | succ n ih61 =>
        intro kq sz9 alq hkq halq hsz hm
        refine r_iload o dX10_becomes_61 6 rfl ?_
        refine r_aload_n o dX10_becomes_63 0 rfl ?_
        refine gf_11_1 o mw_699 dX10_becomes_64 ?_
        refine r_iload_n o dX10_becomes_67 2 rfl ?_
        refine r_iconst o (v := nI 1) dX10_becomes_68 (by decide) ?_
        refine r_iadd o dX10_becomes_69 ?_
        refine r_topi (y := nI (aq + 1)) (nI_add' _ _) ?_
        refine r_ia o (by decide) ia_72 (f := (σ 72).1) rfl (aq + 1) rfl (by omega) (by decide) dX10_becomes_70 ?_
        refine r_topi (y := nI (sn (aq + 1))) (hsg _ (by omega)) ?_
        refine r_bipush o (v := nI 48) dX10_becomes_71 (by decide) ?_
        refine r_isub o dX10_becomes_73 ?_
        refine r_topi (y := nI (sn (aq + 1) - 48)) (nI_sub' (by omega)) ?_
        refine r_icmp_ge o (tgt := 130) dX10_becomes_74 (by decide) (fun hb74 => ?_) (fun hb74 => ?_)
        · skip
          rw [nI_leI (by omega) (by omega)] at hb74
          obtain rfl : kq = sn (aq + 1) - 48 := by omega
          refine r_iload o dX10_becomes_130 5 rfl ?_
          refine r_if_eq o (tgt := 144) dX10_becomes_132 (by decide) (fun hb132 => ?_) (fun hb132 => ?_)
          · skip
            rw [b01_eq0] at hb132
            refine r_ldc o mw_697 dX10_becomes_144 ?_
            exact r_ireturn o q dX10_becomes_146 (⟨by rw [stp_s hs8_115 hj]; first | (rw [bc_t halq hb132]; rfl) | (rw [hlM_y (bc_f halq hb132), hsz hb132]), rfl⟩)
          · skip
            rw [b01_ne0] at hb132
            refine r_iload o dX10_becomes_135 4 rfl ?_
            refine r_i2l o dX10_becomes_137 rfl ?_
            refine r_callSI o (As := [.long ((sz9).toInt64)]) (st := []) (c_X10_held (xl X) G σ sz9) om_X10_held mw_842 mw_841 (by decide) rfl rfl (Nat.le_of_ble_eq_true rfl) dX10_becomes_138 (fun rr138 σσ138 hp138 => ?_)
            obtain ⟨hp138, hp138b⟩ := hp138; replace hp138 := Eq.symm hp138; replace hp138b := Eq.symm hp138b; subst hp138; subst hp138b
            refine r_goto o (tgt := 146) dX10_becomes_141 (by decide) ?_
            exact r_ireturn o q dX10_becomes_146 (⟨by rw [stp_s hs8_115 hj]; first | (rw [bc_t halq hb132]; rfl) | (rw [hlM_y (bc_f halq hb132), hsz hb132]), rfl⟩)
        · skip
          rw [nI_leI (by omega) (by omega)] at hb74
          refine r_iload o dX10_becomes_77 5 rfl ?_
          refine r_if_eq o (tgt := 99) dX10_becomes_79 (by decide) (fun hb79 => ?_) (fun hb79 => ?_)
          · skip
            rw [b01_eq0] at hb79
            have hflag := hb79
            refine r_iconst o (v := nI 0) dX10_becomes_99 (by decide) ?_
            refine r_istore o (lv' := [(5, .int (nI 0)), (0, .ref (gad G 11)), (1, .int (nI jq)), (2, .int (nI aq)), (3, .int (nI (sn aq))), (4, .int sz9), (6, .int (nI kq))]) dX10_becomes_100 (by decide) rfl ?_
            refine r_iload o dX10_becomes_102 5 rfl ?_
            refine r_iload o dX10_becomes_104 0 rfl ?_
            refine r_if_eq o (tgt := 120) dX10_becomes_106 (by decide) (fun hb106 => ?_) (fun hb106 => ?_)
            · skip
              refine r_iconst o (v := nI 0) dX10_becomes_120 (by decide) ?_
              refine r_iadd o dX10_becomes_121 ?_
              refine r_istore o (lv' := [(4, .int (sz9 + (nI 0))), (5, .int (nI 0)), (0, .ref (gad G 11)), (1, .int (nI jq)), (2, .int (nI aq)), (3, .int (nI (sn aq))), (6, .int (nI kq))]) dX10_becomes_122 (by decide) rfl ?_
              refine r_lv (lv' := [(4, .int (sz9 + (nI 0))), (5, .int (b01 false)), (0, .ref (gad G 11)), (1, .int (nI jq)), (2, .int (nI aq)), (3, .int (nI (sn aq))), (6, .int (nI kq))]) (congrArg (fun zz => ([(4, .int (sz9 + (nI 0))), (5, .int zz), (0, .ref (gad G 11)), (1, .int (nI jq)), (2, .int (nI aq)), (3, .int (nI (sn aq))), (6, .int (nI kq))] : List (Nat × Value))) (show nI 0 = b01 false from rfl)) ?_
              refine r_iinc o (v := nI (kq + 1)) (lv' := [(6, .int (nI (kq + 1))), (4, .int (sz9 + (nI 0))), (5, .int (b01 false)), (0, .ref (gad G 11)), (1, .int (nI jq)), (2, .int (nI aq)), (3, .int (nI (sn aq)))]) dX10_becomes_124 6 rfl (nI_inc _) (by decide) rfl ?_
              refine r_goto o (tgt := 61) dX10_becomes_127 (by decide) ?_
              exact r_to rfl [3, 4, 5, 6, 1, 2, 0] rfl (ih61 (kq + 1) (sz9 + (nI 0)) false (by omega) (by rw [decide_eq_true (by first | exact smA_g2 hb92 | exact smA_g1 (bc_t halq hb79))]; rfl) (fun hz => by cases hz) (by omega))
            · exact absurd hb106 (by decide)
          · skip
            rw [b01_ne0] at hb79
            refine r_aload_n o dX10_becomes_82 0 rfl ?_
            refine r_iload_n o dX10_becomes_83 1 rfl ?_
            refine r_iload o dX10_becomes_84 6 rfl ?_
            refine r_isub o dX10_becomes_86 ?_
            refine r_callVI o (As := [.int ((nI jq) - (nI kq))]) (st := []) (c_X10_wasAt (xl X) G σ fq hfq ((nI jq) - (nI kq))) om_X10_wasAt mw_839 mw_20 mw_837 (by decide) rfl rfl rfl (by decide) rfl rfl (Nat.le_of_ble_eq_true rfl) dX10_becomes_87 (fun rr87 σσ87 hp87 => ?_)
            obtain ⟨hp87, hp87b⟩ := hp87; replace hp87 := Eq.symm hp87; replace hp87b := Eq.symm hp87b; subst hp87; subst hp87b
            refine r_ldc o mw_697 dX10_becomes_90 ?_
            refine r_icmp_eq o (tgt := 99) dX10_becomes_92 (by decide) (fun hb92 => ?_) (fun hb92 => ?_)
            · skip
              refine r_iconst o (v := nI 0) dX10_becomes_99 (by decide) ?_
              refine r_istore o (lv' := [(5, .int (nI 0)), (0, .ref (gad G 11)), (1, .int (nI jq)), (2, .int (nI aq)), (3, .int (nI (sn aq))), (4, .int sz9), (6, .int (nI kq))]) dX10_becomes_100 (by decide) rfl ?_
              refine r_iload o dX10_becomes_102 5 rfl ?_
              refine r_iload o dX10_becomes_104 0 rfl ?_
              refine r_if_eq o (tgt := 120) dX10_becomes_106 (by decide) (fun hb106 => ?_) (fun hb106 => ?_)
              · skip
                refine r_iconst o (v := nI 0) dX10_becomes_120 (by decide) ?_
                refine r_iadd o dX10_becomes_121 ?_
                refine r_istore o (lv' := [(4, .int (sz9 + (nI 0))), (5, .int (nI 0)), (0, .ref (gad G 11)), (1, .int (nI jq)), (2, .int (nI aq)), (3, .int (nI (sn aq))), (6, .int (nI kq))]) dX10_becomes_122 (by decide) rfl ?_
                refine r_lv (lv' := [(4, .int (sz9 + (nI 0))), (5, .int (b01 false)), (0, .ref (gad G 11)), (1, .int (nI jq)), (2, .int (nI aq)), (3, .int (nI (sn aq))), (6, .int (nI kq))]) (congrArg (fun zz => ([(4, .int (sz9 + (nI 0))), (5, .int zz), (0, .ref (gad G 11)), (1, .int (nI jq)), (2, .int (nI aq)), (3, .int (nI (sn aq))), (6, .int (nI kq))] : List (Nat × Value))) (show nI 0 = b01 false from rfl)) ?_
                refine r_iinc o (v := nI (kq + 1)) (lv' := [(6, .int (nI (kq + 1))), (4, .int (sz9 + (nI 0))), (5, .int (b01 false)), (0, .ref (gad G 11)), (1, .int (nI jq)), (2, .int (nI aq)), (3, .int (nI (sn aq)))]) dX10_becomes_124 6 rfl (nI_inc _) (by decide) rfl ?_
                refine r_goto o (tgt := 61) dX10_becomes_127 (by decide) ?_
                exact r_to rfl [3, 4, 5, 6, 1, 2, 0] rfl (ih61 (kq + 1) (sz9 + (nI 0)) false (by omega) (by rw [decide_eq_true (by first | exact smA_g2 hb92 | exact smA_g1 (bc_t halq hb79))]; rfl) (fun hz => by cases hz) (by omega))
              · exact absurd hb106 (by decide)
            · skip
              refine r_iconst o (v := nI 1) dX10_becomes_95 (by decide) ?_
              refine r_goto o (tgt := 100) dX10_becomes_96 (by decide) ?_
              refine r_istore o (lv' := [(5, .int (nI 1)), (0, .ref (gad G 11)), (1, .int (nI jq)), (2, .int (nI aq)), (3, .int (nI (sn aq))), (4, .int sz9), (6, .int (nI kq))]) dX10_becomes_100 (by decide) rfl ?_
              refine r_iload o dX10_becomes_102 5 rfl ?_
              refine r_iload o dX10_becomes_104 0 rfl ?_
              refine r_if_eq o (tgt := 120) dX10_becomes_106 (by decide) (fun hb106 => ?_) (fun hb106 => ?_)
              · exact absurd hb106 (by decide)
              · skip
                refine r_aload_n o dX10_becomes_109 1 rfl ?_
                refine r_iload_n o dX10_becomes_110 2 rfl ?_
                refine r_iload o dX10_becomes_111 6 rfl ?_
                refine r_isub o dX10_becomes_113 ?_
                refine r_callVI o (As := [.int ((nI jq) - (nI kq))]) (st := [.int sz9]) (c_X10_wasAt (xl X) G σ fq hfq ((nI jq) - (nI kq))) om_X10_wasAt mw_839 mw_20 mw_837 (by decide) rfl rfl rfl (by decide) rfl rfl (Nat.le_of_ble_eq_true rfl) dX10_becomes_114 (fun rr114 σσ114 hp114 => ?_)
                obtain ⟨hp114, hp114b⟩ := hp114; replace hp114 := Eq.symm hp114; replace hp114b := Eq.symm hp114b; subst hp114; subst hp114b
                refine r_goto o (tgt := 121) dX10_becomes_117 (by decide) ?_
                refine r_iadd o dX10_becomes_121 ?_
                refine r_istore o (lv' := [(4, .int (sz9 + (atI fq ((nI jq) - (nI kq))))), (5, .int (nI 1)), (0, .ref (gad G 11)), (1, .int (nI jq)), (2, .int (nI aq)), (3, .int (nI (sn aq))), (6, .int (nI kq))]) dX10_becomes_122 (by decide) rfl ?_
                refine r_lv (lv' := [(4, .int (sz9 + (atI fq ((nI jq) - (nI kq))))), (5, .int (b01 true)), (0, .ref (gad G 11)), (1, .int (nI jq)), (2, .int (nI aq)), (3, .int (nI (sn aq))), (6, .int (nI kq))]) (congrArg (fun zz => ([(4, .int (sz9 + (atI fq ((nI jq) - (nI kq))))), (5, .int zz), (0, .ref (gad G 11)), (1, .int (nI jq)), (2, .int (nI aq)), (3, .int (nI (sn aq))), (6, .int (nI kq))] : List (Nat × Value))) (show nI 1 = b01 true from rfl)) ?_
                refine r_iinc o (v := nI (kq + 1)) (lv' := [(6, .int (nI (kq + 1))), (4, .int (sz9 + (atI fq ((nI jq) - (nI kq))))), (5, .int (b01 true)), (0, .ref (gad G 11)), (1, .int (nI jq)), (2, .int (nI aq)), (3, .int (nI (sn aq)))]) dX10_becomes_124 6 rfl (nI_inc _) (by decide) rfl ?_
                refine r_goto o (tgt := 61) dX10_becomes_127 (by decide) ?_
                exact r_to rfl [3, 4, 5, 6, 1, 2, 0] rfl (ih61 (kq + 1) (sz9 + (atI fq ((nI jq) - (nI kq)))) true (by omega) (by rw [decide_eq_false (smA_nx hbd (by omega) (bc_f halq hb79) hb92)]; rfl) (fun _ => by rw [hsz hb79]; exact smA_add (bc_f halq hb79) hb92) (by omega))
    refine r_lv (lv' := [(6, .int (nI 0)), (5, .int (b01 true)), (4, .int (nI 0)), (3, .int (nI (sn aq))), (0, .ref (gad G 11)), (1, .int (nI jq)), (2, .int (nI aq))]) (congrArg (fun zz => ([(6, .int (nI 0)), (5, .int zz), (4, .int (nI 0)), (3, .int (nI (sn aq))), (0, .ref (gad G 11)), (1, .int (nI jq)), (2, .int (nI aq))] : List (Nat × Value))) (show nI 1 = b01 true from rfl)) ?_
    exact r_to rfl [4, 5, 6, 3, 2, 1, 0] rfl (L61 _ 0 (nI 0) true (by omega) (by rw [decide_eq_false (show ¬ smA fq jq 0 = -1000000 by show ¬ nI 0 = -1000000; decide)]; rfl) (fun _ => rfl) (Nat.lt_succ_self _))
  by_cases hs8_116 : sn aq = 116
  · skip
    refine r_topi (y := nI 116) (by rw [hs8_116]) ?_
    refine r_lookup o (off := 157) (tgt := 165) dX10_becomes_8 (by decide) (by decide) (by decide) ?_
    obtain rfl := dgs_t hs8_116 hdq
    have hc1 := bad_none hbn 1 (by omega) (by omega)
    have hc2 := bad_none hbn 2 (by omega) (by omega)
    have hd1 := canS_dig hc1.2
    have hd2 := canS_dig hc2.2
    have he1 := canT sn aq hs8_116 hc2.2
    refine r_aload_n o dX10_becomes_165 1 rfl ?_
    refine gf_11_4 o mw_702 dX10_becomes_166 ?_
    refine r_iload_n o dX10_becomes_169 2 rfl ?_
    refine r_ia o (by decide) ia_74 (f := fq) hfq jq rfl (by omega) (by decide) dX10_becomes_170 ?_
    refine r_ldc o mw_697 dX10_becomes_171 ?_
    refine r_icmp_eq o (tgt := 187) dX10_becomes_173 (by decide) (fun hb173 => ?_) (fun hb173 => ?_)
    · skip
      refine r_aload_n o dX10_becomes_187 1 rfl ?_
      refine gf_11_4 o mw_702 dX10_becomes_188 ?_
      refine r_iload_n o dX10_becomes_191 2 rfl ?_
      refine r_ia o (by decide) ia_74 (f := fq) hfq jq rfl (by omega) (by decide) dX10_becomes_192 ?_
      refine r_goto o (tgt := 203) dX10_becomes_193 (by decide) ?_
      exact r_ireturn o q dX10_becomes_203 (⟨by rw [stp_t hs8_116 hj]; first | (rw [if_pos hb173]; split <;> rfl) | (rw [if_pos hb184, if_neg hb173]) | (rw [if_neg hb184]), rfl⟩)
    · skip
      refine r_iload_n o dX10_becomes_176 2 rfl ?_
      refine r_aload_n o dX10_becomes_177 1 rfl ?_
      refine r_iload_n o dX10_becomes_178 3 rfl ?_
      refine r_iconst o (v := nI 1) dX10_becomes_179 (by decide) ?_
      refine r_iadd o dX10_becomes_180 ?_
      refine r_topi (y := nI (aq + 1)) (nI_add' _ _) ?_
      refine r_callVI o (As := [.int (nI (aq + 1))]) (st := [.int (nI jq)]) (c_X10_two (xl X) G σ sn cntq hp (aq + 1) (by omega) hd1.1 hd2.1) om_X10_two mw_821 mw_17 mw_819 (by decide) rfl rfl rfl (by decide) rfl rfl (Nat.le_of_ble_eq_true rfl) dX10_becomes_181 (fun rr181 σσ181 hp181 => ?_)
      obtain ⟨hp181, hp181b⟩ := hp181; replace hp181 := Eq.symm hp181; replace hp181b := Eq.symm hp181b; subst hp181; subst hp181b
      have htn := he1
      refine r_icmp_ge o (tgt := 196) dX10_becomes_184 (by decide) (fun hb184 => ?_) (fun hb184 => ?_)
      · skip
        rw [nI_leI (by omega) (by omega)] at hb184
        refine r_aload_n o dX10_becomes_196 1 rfl ?_
        refine gf_11_4 o mw_702 dX10_becomes_197 ?_
        refine r_iload_n o dX10_becomes_200 2 rfl ?_
        refine r_ia o (by decide) ia_74 (f := fq) hfq jq rfl (by omega) (by decide) dX10_becomes_201 ?_
        refine r_ineg o dX10_becomes_202 ?_
        exact r_ireturn o q dX10_becomes_203 (⟨by rw [stp_t hs8_116 hj]; first | (rw [if_pos hb173]; split <;> rfl) | (rw [if_pos hb184, if_neg hb173]) | (rw [if_neg hb184]), rfl⟩)
      · skip
        rw [nI_leI (by omega) (by omega)] at hb184
        refine r_aload_n o dX10_becomes_187 1 rfl ?_
        refine gf_11_4 o mw_702 dX10_becomes_188 ?_
        refine r_iload_n o dX10_becomes_191 2 rfl ?_
        refine r_ia o (by decide) ia_74 (f := fq) hfq jq rfl (by omega) (by decide) dX10_becomes_192 ?_
        refine r_goto o (tgt := 203) dX10_becomes_193 (by decide) ?_
        exact r_ireturn o q dX10_becomes_203 (⟨by rw [stp_t hs8_116 hj]; first | (rw [if_pos hb173]; split <;> rfl) | (rw [if_pos hb184, if_neg hb173]) | (rw [if_neg hb184]), rfl⟩)
  refine r_lookup o (off := 232) (tgt := 240) dX10_becomes_8 (by decide) (lk_def (by rw [nI_toInt (by omega)]; simp; omega)) (by decide) ?_
  have hs100 : sn aq = 100 := Classical.byContradiction (fun hz => dgs_no hs8_99 hz hs8_108 hs8_115 hs8_116 hdq)
  refine r_aload_n o dX10_becomes_240 1 rfl ?_
  refine gf_11_4 o mw_702 dX10_becomes_241 ?_
  refine r_iload_n o dX10_becomes_244 2 rfl ?_
  refine r_ia o (by decide) ia_74 (f := fq) hfq jq rfl (by omega) (by decide) dX10_becomes_245 ?_
  refine r_ldc o mw_697 dX10_becomes_246 ?_
  refine r_icmp_eq o (tgt := 263) dX10_becomes_248 (by decide) (fun hb248 => ?_) (fun hb248 => ?_)
  · skip
    refine r_ldc o mw_697 dX10_becomes_263 ?_
    refine r_goto o (tgt := 286) dX10_becomes_265 (by decide) ?_
    exact r_ireturn o q dX10_becomes_286 (⟨by rw [stp_d hs100 hj]; first | (rw [if_pos hb248]) | (rw [if_neg hb248, if_pos hb260]) | (rw [if_neg hb248, if_neg hb260, hlM_y (df_ne hbd hj hb248 hb260)]), rfl⟩)
  · skip
    refine r_aload_n o dX10_becomes_251 1 rfl ?_
    refine r_iload_n o dX10_becomes_252 2 rfl ?_
    refine r_iconst o (v := nI 1) dX10_becomes_253 (by decide) ?_
    refine r_isub o dX10_becomes_254 ?_
    refine r_callVI o (As := [.int ((nI jq) - (nI 1))]) (st := []) (c_X10_wasAt (xl X) G σ fq hfq ((nI jq) - (nI 1))) om_X10_wasAt mw_839 mw_20 mw_837 (by decide) rfl rfl rfl (by decide) rfl rfl (Nat.le_of_ble_eq_true rfl) dX10_becomes_255 (fun rr255 σσ255 hp255 => ?_)
    obtain ⟨hp255, hp255b⟩ := hp255; replace hp255 := Eq.symm hp255; replace hp255b := Eq.symm hp255b; subst hp255; subst hp255b
    refine r_ldc o mw_697 dX10_becomes_258 ?_
    refine r_icmp_ne o (tgt := 268) dX10_becomes_260 (by decide) (fun hb260 => ?_) (fun hb260 => ?_)
    · skip
      refine r_aload_n o dX10_becomes_268 1 rfl ?_
      refine gf_11_4 o mw_702 dX10_becomes_269 ?_
      refine r_iload_n o dX10_becomes_272 2 rfl ?_
      refine r_ia o (by decide) ia_74 (f := fq) hfq jq rfl (by omega) (by decide) dX10_becomes_273 ?_
      refine r_aload_n o dX10_becomes_274 1 rfl ?_
      refine r_iload_n o dX10_becomes_275 2 rfl ?_
      refine r_iconst o (v := nI 1) dX10_becomes_276 (by decide) ?_
      refine r_isub o dX10_becomes_277 ?_
      refine r_callVI o (As := [.int ((nI jq) - (nI 1))]) (st := [.int (fq jq)]) (c_X10_wasAt (xl X) G σ fq hfq ((nI jq) - (nI 1))) om_X10_wasAt mw_839 mw_20 mw_837 (by decide) rfl rfl rfl (by decide) rfl rfl (Nat.le_of_ble_eq_true rfl) dX10_becomes_278 (fun rr278 σσ278 hp278 => ?_)
      obtain ⟨hp278, hp278b⟩ := hp278; replace hp278 := Eq.symm hp278; replace hp278b := Eq.symm hp278b; subst hp278; subst hp278b
      refine r_isub o dX10_becomes_281 ?_
      refine r_i2l o dX10_becomes_282 rfl ?_
      refine r_callSI o (As := [.long (((fq jq) - (atI fq ((nI jq) - (nI 1)))).toInt64)]) (st := []) (c_X10_held (xl X) G σ (fq jq - atI fq (nI jq - nI 1))) om_X10_held mw_842 mw_841 (by decide) rfl rfl (Nat.le_of_ble_eq_true rfl) dX10_becomes_283 (fun rr283 σσ283 hp283 => ?_)
      obtain ⟨hp283, hp283b⟩ := hp283; replace hp283 := Eq.symm hp283; replace hp283b := Eq.symm hp283b; subst hp283; subst hp283b
      exact r_ireturn o q dX10_becomes_286 (⟨by rw [stp_d hs100 hj]; first | (rw [if_pos hb248]) | (rw [if_neg hb248, if_pos hb260]) | (rw [if_neg hb248, if_neg hb260, hlM_y (df_ne hbd hj hb248 hb260)]), rfl⟩)
    · skip
      refine r_ldc o mw_697 dX10_becomes_263 ?_
      refine r_goto o (tgt := 286) dX10_becomes_265 (by decide) ?_
      exact r_ireturn o q dX10_becomes_286 (⟨by rw [stp_d hs100 hj]; first | (rw [if_pos hb248]) | (rw [if_neg hb248, if_pos hb260]) | (rw [if_neg hb248, if_neg hb260, hlM_y (df_ne hbd hj hb248 hb260)]), rfl⟩)
set_option maxHeartbeats 4000000 in
set_option maxRecDepth 100000 in
theorem c_X10_deal (l : Launch) (G : Gl) (σ : Sto) (sn : Nat → Nat) (cntq : Nat) (hp : PadM σ sn cntq) (rq : Nat) (hrq : rq < 6) (hno : fltF sn cntq 21 0 = none) (hyb : BdF (yrF σ rq)) : CtV l G yX10_deal cX10_deal 4 none 4 92 [.ref (gad G 11), .int (nI rq)] σ (fun σ' => (∀ yq, yq < 24 → (σ' 73).1 yq = dlM σ sn cntq rq yq) ∧ ∀ cz, cz ≠ 73 → cz ≠ 74 → σ' cz = σ cz) := by
  refine CtV.of (by decide +kernel) (Nat.le_of_ble_eq_true rfl) (fun X o q => ?_)
  show WS X G 4 σ 0 [(0, .ref (gad G 11)), (1, .int (nI rq))] []
  obtain ⟨hcq, hcnt, hsg, hsn⟩ := id hp
  refine r_iconst o (v := nI 0) dX10_deal_0 (by decide) ?_
  refine r_istore_n o (lv' := [(2, .int (nI 0)), (0, .ref (gad G 11)), (1, .int (nI rq))]) dX10_deal_1 (by decide) rfl ?_
  have L2 : ∀ (n : Nat) (kq : Nat) (hkq : kq ≤ 24), 24 - kq < n → WS X G 4 (sta σ 73 (mix (yrF σ rq) (σ 73).1 0 kq)) 2 [(0, .ref (gad G 11)), (1, .int (nI rq)), (2, .int (nI kq))] [] := by
    intro n
    induction n with
    | zero => intro kq hkq hm; exact absurd hm (Nat.not_lt_zero _)
    | succ n ih2 =>
      intro kq hkq hm
      refine r_iload_n o dX10_deal_2 2 rfl ?_
      refine r_bipush o (v := nI 24) dX10_deal_3 (by decide) ?_
      refine r_icmp_ge o (tgt := 31) dX10_deal_5 (by decide) (fun hb5 => ?_) (fun hb5 => ?_)
      · skip
        rw [nI_leI (by omega) (by omega)] at hb5
        obtain rfl : kq = 24 := by omega
        refine r_iconst o (v := nI 0) dX10_deal_31 (by decide) ?_
        refine r_istore_n o (lv' := [(2, .int (nI 0)), (0, .ref (gad G 11)), (1, .int (nI rq))]) dX10_deal_32 (by decide) rfl ?_
        have L33 : ∀ (n : Nat) (nq : Nat) (aq : Nat) (fq : Nat → Int32) (wq : Nat → Int32) (hdw : ∀ yq, yq < 24 → dealW sn cntq nq aq fq yq = dlM σ sn cntq rq yq) (hfl : fltF sn cntq nq aq = none) (hnq : cntq < aq + nq) (haq : aq ≤ cntq + 5) (hbd : BdF fq), nq < n → WS X G 4 (sta (sta σ 73 fq) 74 wq) 33 [(0, .ref (gad G 11)), (1, .int (nI rq)), (2, .int (nI aq))] [] := by
          intro n
          induction n with
          | zero => intro nq aq fq wq hdw hfl hnq haq hbd hm; exact absurd hm (Nat.not_lt_zero _)
          | succ n ih33 =>
            intro nq aq fq wq hdw hfl hnq haq hbd hm
            refine r_iload_n o dX10_deal_33 2 rfl ?_
            refine r_aload_n o dX10_deal_34 0 rfl ?_
            refine gf_11_2 (σ := sta (sta σ 73 fq) 74 wq) o (v := nI cntq) hcq mw_700 dX10_deal_35 ?_
            refine r_icmp_ge o (tgt := 110) dX10_deal_38 (by decide) (fun hb38 => ?_) (fun hb38 => ?_)
            · skip
              rw [nI_leI (by omega) (by omega)] at hb38
              exact r_return o q dX10_deal_110 (⟨fun yq hy => by rw [← hdw yq hy, dealW_e (by omega)]; rfl, fun cz h1 h2 => by simp (disch := omega) only [sta_ne]⟩)
            · skip
              rw [nI_leI (by omega) (by omega)] at hb38
              obtain ⟨gq, rfl⟩ : ∃ zq, nq = zq + 1 := ⟨nq - 1, by omega⟩
              have hlt : aq < cntq := by omega
              obtain ⟨dgq, hdq, hbn, hf3⟩ := flt_none hfl hlt
              have hdlq := digs_le hdq
              have hsaq := hsn aq
              have hbd2 : BdF (mix fq wq 0 24) := fun yq hy => by rw [mix_in (Nat.zero_le _) hy]; exact hbd yq hy
              refine r_iconst o (v := nI 0) dX10_deal_41 (by decide) ?_
              refine r_istore_n o (lv' := [(3, .int (nI 0)), (0, .ref (gad G 11)), (1, .int (nI rq)), (2, .int (nI aq))]) dX10_deal_42 (by decide) rfl ?_
              have L43 : ∀ (n : Nat) (kq : Nat) (hkq : kq ≤ 24), 24 - kq < n → WS X G 4 (sta (sta σ 73 fq) 74 (mix fq wq 0 kq)) 43 [(0, .ref (gad G 11)), (1, .int (nI rq)), (2, .int (nI aq)), (3, .int (nI kq))] [] := by
                intro n
                induction n with
                | zero => intro kq hkq hm; exact absurd hm (Nat.not_lt_zero _)
                | succ n ih43 =>
                  intro kq hkq hm
                  refine r_iload_n o dX10_deal_43 3 rfl ?_
                  refine r_bipush o (v := nI 24) dX10_deal_44 (by decide) ?_
                  refine r_icmp_ge o (tgt := 67) dX10_deal_46 (by decide) (fun hb46 => ?_) (fun hb46 => ?_)
                  · skip
                    rw [nI_leI (by omega) (by omega)] at hb46
                    obtain rfl : kq = 24 := by omega
                    refine r_iconst o (v := nI 0) dX10_deal_67 (by decide) ?_
                    refine r_istore_n o (lv' := [(3, .int (nI 0)), (0, .ref (gad G 11)), (1, .int (nI rq)), (2, .int (nI aq))]) dX10_deal_68 (by decide) rfl ?_
                    have L69 : ∀ (n : Nat) (kq : Nat) (hkq : kq ≤ 24), 24 - kq < n → WS X G 4 (sta (sta σ 74 (mix fq wq 0 24)) 73 (mix (stepF sn aq (mix fq wq 0 24)) fq 0 kq)) 69 [(0, .ref (gad G 11)), (1, .int (nI rq)), (2, .int (nI aq)), (3, .int (nI kq))] [] := by
                      intro n
                      induction n with
                      | zero => intro kq hkq hm; exact absurd hm (Nat.not_lt_zero _)
                      | succ n ih69 =>
                        intro kq hkq hm
                        refine r_iload_n o dX10_deal_69 3 rfl ?_
                        refine r_bipush o (v := nI 24) dX10_deal_70 (by decide) ?_
                        refine r_icmp_ge o (tgt := 93) dX10_deal_72 (by decide) (fun hb72 => ?_) (fun hb72 => ?_)
                        · skip
                          rw [nI_leI (by omega) (by omega)] at hb72
                          obtain rfl : kq = 24 := by omega
                          refine r_iload_n o dX10_deal_93 2 rfl ?_
                          refine r_iconst o (v := nI 1) dX10_deal_94 (by decide) ?_
                          refine r_aload_n o dX10_deal_95 0 rfl ?_
                          refine gf_11_1 o mw_699 dX10_deal_96 ?_
                          refine r_iload_n o dX10_deal_99 2 rfl ?_
                          refine r_ia (σ := sta (sta σ 74 (mix fq wq 0 24)) 73 (mix (stepF sn aq (mix fq wq 0 24)) fq 0 24)) o (by decide) ia_72 (f := (σ 72).1) rfl aq rfl (by omega) (by decide) dX10_deal_100 ?_
                          refine r_topi (y := nI (sn aq)) (hsg _ (by omega)) ?_
                          refine r_callSI o (As := [.int (nI (sn aq))]) (st := [.int (nI 1), .int (nI aq)]) (c_X10_digitsOf (xl X) G (sta (sta σ 74 (mix fq wq 0 24)) 73 (mix (stepF sn aq (mix fq wq 0 24)) fq 0 24)) (sn aq) (by omega)) om_X10_digitsOf mw_808 mw_807 (by decide) rfl rfl (Nat.le_of_ble_eq_true rfl) dX10_deal_101 (fun rr101 σσ101 hp101 => ?_)
                          obtain ⟨hp101, hp101b⟩ := hp101; replace hp101 := Eq.symm hp101; replace hp101b := Eq.symm hp101b; subst hp101; subst hp101b
                          refine r_topi (y := nI dgq) (by rw [dgM, hdq]) ?_
                          refine r_iadd o dX10_deal_104 ?_
                          refine r_topi (y := nI (1 + dgq)) (nI_add' _ _) ?_
                          refine r_iadd o dX10_deal_105 ?_
                          refine r_topi (y := nI (aq + (1 + dgq))) (nI_add' _ _) ?_
                          refine r_istore_n o (lv' := [(2, .int (nI (aq + (1 + dgq)))), (0, .ref (gad G 11)), (1, .int (nI rq)), (3, .int (nI 24))]) dX10_deal_106 (by decide) rfl ?_
                          refine r_goto o (tgt := 33) dX10_deal_107 (by decide) ?_
                          exact r_to (sta_com (by decide)) [1, 2, 0] rfl (ih33 gq (aq + (1 + dgq)) (mix (stepF sn aq (mix fq wq 0 24)) fq 0 24) (mix fq wq 0 24) (fun yq hy => by rw [← hdw yq hy, dealW_s hlt hdq, ← Nat.add_assoc]; exact ag_deal gq _ (fun zq hz => by rw [mix_in (Nat.zero_le _) hz]; exact ag_step (fun z2 h2 => mix_in (Nat.zero_le _) h2) zq hz) yq hy) (by rw [← Nat.add_assoc]; exact hf3) (by omega) (by omega) (fun yq hy => by rw [mix_in (Nat.zero_le _) hy]; exact bd_step hbd2 yq hy) (by omega))
                        · skip
                          rw [nI_leI (by omega) (by omega)] at hb72
                          refine r_aload_n o dX10_deal_75 0 rfl ?_
                          refine gf_11_3 o mw_701 dX10_deal_76 ?_
                          refine r_iload_n o dX10_deal_79 3 rfl ?_
                          refine r_aload_n o dX10_deal_80 0 rfl ?_
                          refine r_iload_n o dX10_deal_81 3 rfl ?_
                          refine r_iload_n o dX10_deal_82 2 rfl ?_
                          refine r_callVI o (As := [.int (nI kq), .int (nI aq)]) (st := [.int (nI kq), .ref (gad G 73)]) (c_X10_becomes (xl X) G (sta (sta σ 74 (mix fq wq 0 24)) 73 (mix (stepF sn aq (mix fq wq 0 24)) fq 0 kq)) sn cntq hp (mix fq wq 0 24) rfl hbd2 aq hlt dgq hdq hbn kq (by omega)) om_X10_becomes mw_835 mw_19 mw_833 (by decide) rfl rfl rfl (by decide) rfl rfl (Nat.le_of_ble_eq_true rfl) dX10_deal_83 (fun rr83 σσ83 hp83 => ?_)
                          obtain ⟨hp83, hp83b⟩ := hp83; replace hp83 := Eq.symm hp83; replace hp83b := Eq.symm hp83b; subst hp83; subst hp83b
                          refine r_iast o (by decide) ia_73 kq rfl (by omega) (by decide) dX10_deal_86 ?_
                          refine r_iinc o (v := nI (kq + 1)) (lv' := [(3, .int (nI (kq + 1))), (0, .ref (gad G 11)), (1, .int (nI rq)), (2, .int (nI aq))]) dX10_deal_87 3 rfl (nI_inc _) (by decide) rfl ?_
                          refine r_goto o (tgt := 69) dX10_deal_90 (by decide) ?_
                          exact r_to (mix_fw (Nat.zero_le _) rfl) [1, 2, 3, 0] rfl (ih69 (kq + 1) (by omega) (by omega))
                    exact r_to (by rw [mix_nil]; exact sta_com (by decide)) [1, 2, 3, 0] rfl (L69 _ 0 (by omega) (Nat.lt_succ_self _))
                  · skip
                    rw [nI_leI (by omega) (by omega)] at hb46
                    refine r_aload_n o dX10_deal_49 0 rfl ?_
                    refine gf_11_4 o mw_702 dX10_deal_50 ?_
                    refine r_iload_n o dX10_deal_53 3 rfl ?_
                    refine r_aload_n o dX10_deal_54 0 rfl ?_
                    refine gf_11_3 o mw_701 dX10_deal_55 ?_
                    refine r_iload_n o dX10_deal_58 3 rfl ?_
                    refine r_ia (σ := sta (sta σ 73 fq) 74 (mix fq wq 0 kq)) o (by decide) ia_73 (f := fq) rfl kq rfl (by omega) (by decide) dX10_deal_59 ?_
                    refine r_iast o (by decide) ia_74 kq rfl (by omega) (by decide) dX10_deal_60 ?_
                    refine r_iinc o (v := nI (kq + 1)) (lv' := [(3, .int (nI (kq + 1))), (0, .ref (gad G 11)), (1, .int (nI rq)), (2, .int (nI aq))]) dX10_deal_61 3 rfl (nI_inc _) (by decide) rfl ?_
                    refine r_goto o (tgt := 43) dX10_deal_64 (by decide) ?_
                    exact r_to (mix_fw (Nat.zero_le _) rfl) [1, 2, 3, 0] rfl (ih43 (kq + 1) (by omega) (by omega))
              exact r_to (by rw [mix_nil]) [1, 2, 3, 0] rfl (L43 _ 0 (by omega) (Nat.lt_succ_self _))
        exact r_to (sta_id rfl) [1, 2, 0] rfl (L33 _ 21 0 (mix (yrF σ rq) (σ 73).1 0 24) ((σ 74).1) (ag_deal 21 0 (fun yq hy => mix_in (Nat.zero_le _) hy)) hno (by omega) (by omega) (fun yq hy => by rw [mix_in (Nat.zero_le _) hy]; exact hyb yq hy) (Nat.lt_succ_self _))
      · skip
        rw [nI_leI (by omega) (by omega)] at hb5
        refine r_aload_n o dX10_deal_8 0 rfl ?_
        refine gf_11_3 o mw_701 dX10_deal_9 ?_
        refine r_iload_n o dX10_deal_12 2 rfl ?_
        refine r_aload_n o dX10_deal_13 0 rfl ?_
        refine gf_11_0 o mw_698 dX10_deal_14 ?_
        refine r_bipush o (v := nI 24) dX10_deal_17 (by decide) ?_
        refine r_iload_n o dX10_deal_19 1 rfl ?_
        refine r_imul o dX10_deal_20 ?_
        refine r_topi (y := nI (24 * rq)) (nI_mul' _ _) ?_
        refine r_iload_n o dX10_deal_21 2 rfl ?_
        refine r_iadd o dX10_deal_22 ?_
        refine r_topi (y := nI (24 * rq + kq)) (nI_add' _ _) ?_
        refine r_ia (σ := sta σ 73 (mix (yrF σ rq) (σ 73).1 0 kq)) o (by decide) ia_71 (f := (σ 71).1) rfl (24 * rq + kq) rfl (by omega) (by decide) dX10_deal_23 ?_
        refine r_iast o (by decide) ia_73 kq rfl (by omega) (by decide) dX10_deal_24 ?_
        refine r_iinc o (v := nI (kq + 1)) (lv' := [(2, .int (nI (kq + 1))), (0, .ref (gad G 11)), (1, .int (nI rq))]) dX10_deal_25 2 rfl (nI_inc _) (by decide) rfl ?_
        refine r_goto o (tgt := 2) dX10_deal_28 (by decide) ?_
        exact r_to (mix_fw (Nat.zero_le _) rfl) [1, 2, 0] rfl (ih2 (kq + 1) (by omega) (by omega))
  exact r_to (by rw [mix_nil]; exact sta_id rfl) [1, 2, 0] rfl (L2 _ 0 (by omega) (Nat.lt_succ_self _))
