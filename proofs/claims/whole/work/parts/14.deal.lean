set_option maxHeartbeats 4000000 in
set_option maxRecDepth 100000 in
theorem c_X5_hold (l : Launch) (G : Gl) (σ : Sto) (vz : Int32) : CtI l G yX5_hold cX5_hold 1 (some .int) 1 21 [.int vz] σ (fun r σ' => r = holdI vz ∧ σ' = σ) := by
  refine CtI.of (by decide +kernel) (Nat.le_of_ble_eq_true rfl) (fun X o q => ?_)
  show WS X G 1 σ 0 [(0, .int vz)] []
  refine r_iload_n o dX5_hold_0 0 rfl ?_
  refine r_ldc o mw_356 dX5_hold_1 ?_
  refine r_icmp_ne o (tgt := 11) dX5_hold_3 (by decide) (fun hb3 => ?_) (fun hb3 => ?_)
  · skip
    refine r_sipush o (v := (-999)) dX5_hold_11 (by decide) ?_
    refine r_sipush o (v := nI 999) dX5_hold_14 (by decide) ?_
    refine r_iload_n o dX5_hold_17 0 rfl ?_
    refine r_min o (mw 363 (by decide +kernel) (by decide +kernel)) (mw 364 (by decide +kernel) (by decide +kernel)) (mw 47 (by decide +kernel) (by decide +kernel)) (mw 365 (by decide +kernel) (by decide +kernel)) (by decide) (Nat.le_of_ble_eq_true rfl) dX5_hold_18 ?_
    refine r_max o (mw 366 (by decide +kernel) (by decide +kernel)) (mw 367 (by decide +kernel) (by decide +kernel)) (mw 47 (by decide +kernel) (by decide +kernel)) (mw 368 (by decide +kernel) (by decide +kernel)) (by decide) (Nat.le_of_ble_eq_true rfl) dX5_hold_21 ?_
    exact r_ireturn o q dX5_hold_24 (⟨by first | exact (if_pos hb3).symm | (exact (if_neg hb3).symm), rfl⟩)
  · skip
    refine r_ldc o mw_356 dX5_hold_6 ?_
    refine r_goto o (tgt := 24) dX5_hold_8 (by decide) ?_
    exact r_ireturn o q dX5_hold_24 (⟨by first | exact (if_pos hb3).symm | (exact (if_neg hb3).symm), rfl⟩)
set_option maxHeartbeats 4000000 in
set_option maxRecDepth 100000 in
theorem c_X5_numberAt_20 (l : Launch) (G : Gl) (σ : Sto) (fq : Nat → Int32) (hfq : (σ 20).1 = fq) (pz : Int32) : CtI l G yX5_numberAt cX5_numberAt 2 (some .int) 0 0 [.ref (gad G 20), .int pz] σ (fun r σ' => r = atI fq pz ∧ σ' = σ) := by
  refine CtI.of (by decide +kernel) (Nat.le_of_ble_eq_true rfl) (fun X o q => ?_)
  show WS X G 2 σ 0 [(0, .ref (gad G 20)), (1, .int pz)] []
  refine r_iload_n o dX5_numberAt_0 1 rfl ?_
  refine r_if_lt o (tgt := 16) dX5_numberAt_1 (by decide) (fun hb1 => ?_) (fun hb1 => ?_)
  · skip
    refine r_ldc o mw_356 dX5_numberAt_16 ?_
    exact r_ireturn o q dX5_numberAt_18 (⟨by first | exact (if_neg (inY_f1 hb1)).symm | exact (if_neg (inY_f2 hb7)).symm, rfl⟩)
  · skip
    refine r_iload_n o dX5_numberAt_4 1 rfl ?_
    refine r_bipush o (v := nI 24) dX5_numberAt_5 (by decide) ?_
    refine r_icmp_ge o (tgt := 16) dX5_numberAt_7 (by decide) (fun hb7 => ?_) (fun hb7 => ?_)
    · skip
      refine r_ldc o mw_356 dX5_numberAt_16 ?_
      exact r_ireturn o q dX5_numberAt_18 (⟨by first | exact (if_neg (inY_f1 hb1)).symm | exact (if_neg (inY_f2 hb7)).symm, rfl⟩)
    · skip
      have hiq := inY_t hb1 hb7
      refine r_aload_n o dX5_numberAt_10 0 rfl ?_
      refine r_iload_n o dX5_numberAt_11 1 rfl ?_
      refine r_ia o (by decide) ia_20 (f := fq) hfq pz.toNatClampNeg ((inB_nI (by decide) hiq).1) (by have := (inB_nI (n := 23) (by decide) hiq).2; omega) (by decide) dX5_numberAt_12 ?_
      refine r_goto o (tgt := 18) dX5_numberAt_13 (by decide) ?_
      exact r_ireturn o q dX5_numberAt_18 (⟨(if_pos hiq).symm, rfl⟩)
set_option maxHeartbeats 4000000 in
set_option maxRecDepth 100000 in
theorem c_X5_lag_20 (l : Launch) (G : Gl) (σ : Sto) (fq : Nat → Int32) (hfq : (σ 20).1 = fq) (mq : Nat) (hmq : mq ≤ 9) : CtV l G yX5_lag cX5_lag 3 none 1 21 [.ref (gad G 20), .int (nI mq)] σ (fun σ' => σ' = sta σ 20 (mix (lagF fq mq) fq 0 24)) := by
  refine CtV.of (by decide +kernel) (Nat.le_of_ble_eq_true rfl) (fun X o q => ?_)
  show WS X G 3 σ 0 [(0, .ref (gad G 20)), (1, .int (nI mq))] []
  refine r_bipush o (v := nI 23) dX5_lag_0 (by decide) ?_
  refine r_istore_n o (lv' := [(2, .int (nI 23)), (0, .ref (gad G 20)), (1, .int (nI mq))]) dX5_lag_2 (by decide) rfl ?_
  have L3 : ∀ (n : Nat) (kq : Nat) (hkq : kq ≤ 24), kq < n → WS X G 3 (sta σ 20 (mix (lagF fq mq) fq kq 24)) 3 [(0, .ref (gad G 20)), (1, .int (nI mq)), (2, .int (nI kq - 1))] [] := by
    intro n
    induction n with
    | zero => intro kq hkq hm; exact absurd hm (Nat.not_lt_zero _)
    | succ n ih3 =>
      intro kq hkq hm
      refine r_iload_n o dX5_lag_3 2 rfl ?_
      refine r_if_lt o (tgt := 23) dX5_lag_4 (by decide) (fun hb4 => ?_) (fun hb4 => ?_)
      · skip
        rw [nI_lt1 (by omega)] at hb4
        subst hb4
        exact r_return o q dX5_lag_23 rfl
      · skip
        rw [nI_lt1 (by omega)] at hb4
        obtain ⟨jq, rfl⟩ : ∃ zq, kq = zq + 1 := ⟨kq - 1, by omega⟩
        refine r_lv (lv' := [(0, .ref (gad G 20)), (1, .int (nI mq)), (2, .int (nI jq))]) (congrArg (fun zz => ([(0, .ref (gad G 20)), (1, .int (nI mq)), (2, .int zz)] : List (Nat × Value))) (nI_pred _)) ?_
        refine r_aload_n o dX5_lag_7 0 rfl ?_
        refine r_iload_n o dX5_lag_8 2 rfl ?_
        refine r_aload_n o dX5_lag_9 0 rfl ?_
        refine r_iload_n o dX5_lag_10 2 rfl ?_
        refine r_iload_n o dX5_lag_11 1 rfl ?_
        refine r_isub o dX5_lag_12 ?_
        refine r_callSI o (As := [.ref (gad G 20), .int ((nI jq) - (nI mq))]) (st := [.int (nI jq), .ref (gad G 20)]) (c_X5_numberAt_20 (xl X) G (sta σ 20 (mix (lagF fq mq) fq (jq + 1) 24)) (mix (lagF fq mq) fq (jq + 1) 24) rfl ((nI jq) - (nI mq))) om_X5_numberAt mw_358 mw_357 (by decide) rfl rfl (Nat.le_of_ble_eq_true rfl) dX5_lag_13 (fun rr13 σσ13 hp13 => ?_)
        obtain ⟨hp13, hp13b⟩ := hp13; replace hp13 := Eq.symm hp13; replace hp13b := Eq.symm hp13b; subst hp13; subst hp13b
        refine r_topi (y := lagF fq mq jq) (atI_dn (by omega) (by omega)) ?_
        refine r_iast o (by decide) ia_20 jq rfl (by omega) (by decide) dX5_lag_16 ?_
        refine r_iinc o (v := nI jq - 1) (lv' := [(2, .int (nI jq - 1)), (0, .ref (gad G 20)), (1, .int (nI mq))]) dX5_lag_17 2 rfl (nI_decm _) (by decide) rfl ?_
        refine r_goto o (tgt := 3) dX5_lag_20 (by decide) ?_
        exact r_to (mix_bk (by omega) rfl) [1, 2, 0] rfl (ih3 jq (by omega) (by omega))
  refine r_lv (lv' := [(2, .int (nI 24 - 1)), (0, .ref (gad G 20)), (1, .int (nI mq))]) (congrArg (fun zz => ([(2, .int zz), (0, .ref (gad G 20)), (1, .int (nI mq))] : List (Nat × Value))) (show nI 23 = nI 24 - 1 by decide)) ?_
  exact r_to (by rw [mix_nil]; exact sta_id hfq) [1, 2, 0] rfl (L3 _ 24 (by omega) (Nat.lt_succ_self _))
set_option maxHeartbeats 4000000 in
set_option maxRecDepth 100000 in
theorem c_X5_smooth_20 (l : Launch) (G : Gl) (σ : Sto) (fq : Nat → Int32) (hfq : (σ 20).1 = fq) (mq : Nat) (hmq : mq ≤ 9) : CtV l G yX5_smooth cX5_smooth 6 none 2 41 [.ref (gad G 20), .int (nI mq)] σ (fun σ' => σ' = sta σ 20 (mix (smF fq mq) fq 0 24)) := by
  refine CtV.of (by decide +kernel) (Nat.le_of_ble_eq_true rfl) (fun X o q => ?_)
  show WS X G 6 σ 0 [(0, .ref (gad G 20)), (1, .int (nI mq))] []
  refine r_bipush o (v := nI 23) dX5_smooth_0 (by decide) ?_
  refine r_istore_n o (lv' := [(2, .int (nI 23)), (0, .ref (gad G 20)), (1, .int (nI mq))]) dX5_smooth_2 (by decide) rfl ?_
  have L3 : ∀ (n : Nat) (kq : Nat) (hkq : kq ≤ 24), kq < n → WS X G 6 (sta σ 20 (mix (smF fq mq) fq kq 24)) 3 [(0, .ref (gad G 20)), (1, .int (nI mq)), (2, .int (nI kq - 1))] [] := by
    intro n
    induction n with
    | zero => intro kq hkq hm; exact absurd hm (Nat.not_lt_zero _)
    | succ n ih3 =>
      intro kq hkq hm
      refine r_iload_n o dX5_smooth_3 2 rfl ?_
      refine r_if_lt o (tgt := 70) dX5_smooth_4 (by decide) (fun hb4 => ?_) (fun hb4 => ?_)
      · skip
        rw [nI_lt1 (by omega)] at hb4
        subst hb4
        exact r_return o q dX5_smooth_70 rfl
      · skip
        rw [nI_lt1 (by omega)] at hb4
        obtain ⟨jq, rfl⟩ : ∃ zq, kq = zq + 1 := ⟨kq - 1, by omega⟩
        refine r_lv (lv' := [(0, .ref (gad G 20)), (1, .int (nI mq)), (2, .int (nI jq))]) (congrArg (fun zz => ([(0, .ref (gad G 20)), (1, .int (nI mq)), (2, .int zz)] : List (Nat × Value))) (nI_pred _)) ?_
        refine r_iconst o (v := nI 0) dX5_smooth_7 (by decide) ?_
        refine r_istore_n o (lv' := [(3, .int (nI 0)), (0, .ref (gad G 20)), (1, .int (nI mq)), (2, .int (nI jq))]) dX5_smooth_8 (by decide) rfl ?_
        refine r_iconst o (v := nI 0) dX5_smooth_9 (by decide) ?_
        refine r_istore o (lv' := [(4, .int (nI 0)), (3, .int (nI 0)), (0, .ref (gad G 20)), (1, .int (nI mq)), (2, .int (nI jq))]) dX5_smooth_10 (by decide) rfl ?_
        have L12 : ∀ (n : Nat) (iq : Nat) (hiq1 : iq ≤ mq), mq - iq < n → WS X G 6 (sta σ 20 (mix (smF fq mq) fq (jq + 1) 24)) 12 [(0, .ref (gad G 20)), (1, .int (nI mq)), (2, .int (nI jq)), (3, .int (smA fq jq iq)), (4, .int (nI iq))] [] := by
          intro n
          induction n with
          | zero => intro iq hiq1 hm; exact absurd hm (Nat.not_lt_zero _)
          | succ n ih12 =>
            intro iq hiq1 hm
            refine r_iload o dX5_smooth_12 4 rfl ?_
            refine r_iload_n o dX5_smooth_14 1 rfl ?_
            refine r_icmp_ge o (tgt := 57) dX5_smooth_15 (by decide) (fun hb15 => ?_) (fun hb15 => ?_)
            · skip
              rw [nI_leI (by omega) (by omega)] at hb15
              refine r_lv (lv' := [(0, .ref (gad G 20)), (1, .int (nI mq)), (2, .int (nI jq)), (3, .int (smA fq jq mq)), (4, .int (nI iq))]) (congrArg (fun zz => ([(0, .ref (gad G 20)), (1, .int (nI mq)), (2, .int (nI jq)), (3, .int zz), (4, .int (nI iq))] : List (Nat × Value))) (show smA fq jq iq = smA fq jq mq by rw [show iq = mq by omega])) ?_
              refine r_aload_n o dX5_smooth_57 0 rfl ?_
              refine r_iload_n o dX5_smooth_58 2 rfl ?_
              refine r_iload_n o dX5_smooth_59 3 rfl ?_
              refine r_callSI o (As := [.int (smA fq jq mq)]) (st := [.int (nI jq), .ref (gad G 20)]) (c_X5_hold (xl X) G (sta σ 20 (mix (smF fq mq) fq (jq + 1) 24)) (smA fq jq mq)) om_X5_hold mw_361 mw_360 (by decide) rfl rfl (Nat.le_of_ble_eq_true rfl) dX5_smooth_60 (fun rr60 σσ60 hp60 => ?_)
              obtain ⟨hp60, hp60b⟩ := hp60; replace hp60 := Eq.symm hp60; replace hp60b := Eq.symm hp60b; subst hp60; subst hp60b
              refine r_iast o (by decide) ia_20 jq rfl (by omega) (by decide) dX5_smooth_63 ?_
              refine r_iinc o (v := nI jq - 1) (lv' := [(2, .int (nI jq - 1)), (0, .ref (gad G 20)), (1, .int (nI mq)), (3, .int (smA fq jq mq)), (4, .int (nI iq))]) dX5_smooth_64 2 rfl (nI_decm _) (by decide) rfl ?_
              refine r_goto o (tgt := 3) dX5_smooth_67 (by decide) ?_
              exact r_to (mix_bk (by omega) rfl) [1, 2, 0] rfl (ih3 jq (by omega) (by omega))
            · skip
              rw [nI_leI (by omega) (by omega)] at hb15
              refine r_iload_n o dX5_smooth_18 3 rfl ?_
              refine r_ldc o mw_356 dX5_smooth_19 ?_
              refine r_icmp_eq o (tgt := 57) dX5_smooth_21 (by decide) (fun hb21 => ?_) (fun hb21 => ?_)
              · skip
                refine r_lv (lv' := [(0, .ref (gad G 20)), (1, .int (nI mq)), (2, .int (nI jq)), (3, .int (smA fq jq mq)), (4, .int (nI iq))]) (congrArg (fun zz => ([(0, .ref (gad G 20)), (1, .int (nI mq)), (2, .int (nI jq)), (3, .int zz), (4, .int (nI iq))] : List (Nat × Value))) (smA_stop hb21 (show iq ≤ mq by omega))) ?_
                refine r_aload_n o dX5_smooth_57 0 rfl ?_
                refine r_iload_n o dX5_smooth_58 2 rfl ?_
                refine r_iload_n o dX5_smooth_59 3 rfl ?_
                refine r_callSI o (As := [.int (smA fq jq mq)]) (st := [.int (nI jq), .ref (gad G 20)]) (c_X5_hold (xl X) G (sta σ 20 (mix (smF fq mq) fq (jq + 1) 24)) (smA fq jq mq)) om_X5_hold mw_361 mw_360 (by decide) rfl rfl (Nat.le_of_ble_eq_true rfl) dX5_smooth_60 (fun rr60 σσ60 hp60 => ?_)
                obtain ⟨hp60, hp60b⟩ := hp60; replace hp60 := Eq.symm hp60; replace hp60b := Eq.symm hp60b; subst hp60; subst hp60b
                refine r_iast o (by decide) ia_20 jq rfl (by omega) (by decide) dX5_smooth_63 ?_
                refine r_iinc o (v := nI jq - 1) (lv' := [(2, .int (nI jq - 1)), (0, .ref (gad G 20)), (1, .int (nI mq)), (3, .int (smA fq jq mq)), (4, .int (nI iq))]) dX5_smooth_64 2 rfl (nI_decm _) (by decide) rfl ?_
                refine r_goto o (tgt := 3) dX5_smooth_67 (by decide) ?_
                exact r_to (mix_bk (by omega) rfl) [1, 2, 0] rfl (ih3 jq (by omega) (by omega))
              · skip
                refine r_aload_n o dX5_smooth_24 0 rfl ?_
                refine r_iload_n o dX5_smooth_25 2 rfl ?_
                refine r_iload o dX5_smooth_26 4 rfl ?_
                refine r_isub o dX5_smooth_28 ?_
                refine r_callSI o (As := [.ref (gad G 20), .int ((nI jq) - (nI iq))]) (st := []) (c_X5_numberAt_20 (xl X) G (sta σ 20 (mix (smF fq mq) fq (jq + 1) 24)) (mix (smF fq mq) fq (jq + 1) 24) rfl ((nI jq) - (nI iq))) om_X5_numberAt mw_358 mw_357 (by decide) rfl rfl (Nat.le_of_ble_eq_true rfl) dX5_smooth_29 (fun rr29 σσ29 hp29 => ?_)
                obtain ⟨hp29, hp29b⟩ := hp29; replace hp29 := Eq.symm hp29; replace hp29b := Eq.symm hp29b; subst hp29; subst hp29b
                refine r_topi (y := atI fq (nI jq - nI iq)) (atI_dn (by omega) (by omega)) ?_
                refine r_istore o (lv' := [(5, .int (atI fq (nI jq - nI iq))), (0, .ref (gad G 20)), (1, .int (nI mq)), (2, .int (nI jq)), (3, .int (smA fq jq iq)), (4, .int (nI iq))]) dX5_smooth_32 (by decide) rfl ?_
                refine r_iload o dX5_smooth_34 0 rfl ?_
                refine r_ldc o mw_356 dX5_smooth_36 ?_
                refine r_icmp_ne o (tgt := 46) dX5_smooth_38 (by decide) (fun hb38 => ?_) (fun hb38 => ?_)
                · skip
                  refine r_iload_n o dX5_smooth_46 4 rfl ?_
                  refine r_iload o dX5_smooth_47 0 rfl ?_
                  refine r_iadd o dX5_smooth_49 ?_
                  refine r_topi (y := smA fq jq (iq + 1)) (smA_add hb21 hb38) ?_
                  refine r_istore_n o (lv' := [(3, .int (smA fq jq (iq + 1))), (5, .int (atI fq (nI jq - nI iq))), (0, .ref (gad G 20)), (1, .int (nI mq)), (2, .int (nI jq)), (4, .int (nI iq))]) dX5_smooth_50 (by decide) rfl ?_
                  refine r_iinc o (v := nI (iq + 1)) (lv' := [(4, .int (nI (iq + 1))), (3, .int (smA fq jq (iq + 1))), (5, .int (atI fq (nI jq - nI iq))), (0, .ref (gad G 20)), (1, .int (nI mq)), (2, .int (nI jq))]) dX5_smooth_51 5 rfl (nI_inc _) (by decide) rfl ?_
                  refine r_goto o (tgt := 12) dX5_smooth_54 (by decide) ?_
                  exact r_to rfl [3, 4, 5, 1, 0] rfl (ih12 (iq + 1) (by omega) (by omega))
                · skip
                  refine r_ldc o mw_356 dX5_smooth_41 ?_
                  refine r_goto o (tgt := 50) dX5_smooth_43 (by decide) ?_
                  refine r_topi (y := smA fq jq (iq + 1)) (smA_gp hb21 hb38) ?_
                  refine r_istore_n o (lv' := [(3, .int (smA fq jq (iq + 1))), (5, .int (atI fq (nI jq - nI iq))), (0, .ref (gad G 20)), (1, .int (nI mq)), (2, .int (nI jq)), (4, .int (nI iq))]) dX5_smooth_50 (by decide) rfl ?_
                  refine r_iinc o (v := nI (iq + 1)) (lv' := [(4, .int (nI (iq + 1))), (3, .int (smA fq jq (iq + 1))), (5, .int (atI fq (nI jq - nI iq))), (0, .ref (gad G 20)), (1, .int (nI mq)), (2, .int (nI jq))]) dX5_smooth_51 5 rfl (nI_inc _) (by decide) rfl ?_
                  refine r_goto o (tgt := 12) dX5_smooth_54 (by decide) ?_
                  exact r_to rfl [3, 4, 5, 1, 0] rfl (ih12 (iq + 1) (by omega) (by omega))
        exact r_to rfl [2, 3, 4, 1, 0] rfl (L12 _ 0 (Nat.zero_le _) (Nat.lt_succ_self _))
  refine r_lv (lv' := [(2, .int (nI 24 - 1)), (0, .ref (gad G 20)), (1, .int (nI mq))]) (congrArg (fun zz => ([(2, .int zz), (0, .ref (gad G 20)), (1, .int (nI mq))] : List (Nat × Value))) (show nI 23 = nI 24 - 1 by decide)) ?_
  exact r_to (by rw [mix_nil]; exact sta_id hfq) [1, 2, 0] rfl (L3 _ 24 (by omega) (Nat.lt_succ_self _))
set_option maxHeartbeats 4000000 in
set_option maxRecDepth 100000 in
theorem c_X5_turn_20 (l : Launch) (G : Gl) (σ : Sto) (fq : Nat → Int32) (hfq : (σ 20).1 = fq) (mq : Nat) (hmq : mq ≤ 23) : CtV l G yX5_turn cX5_turn 3 none 1 21 [.ref (gad G 20), .int (nI mq)] σ (fun σ' => σ' = sta σ 20 (mix (trnF fq) fq mq 24)) := by
  refine CtV.of (by decide +kernel) (Nat.le_of_ble_eq_true rfl) (fun X o q => ?_)
  show WS X G 3 σ 0 [(0, .ref (gad G 20)), (1, .int (nI mq))] []
  refine r_iconst o (v := nI 0) dX5_turn_0 (by decide) ?_
  refine r_iload_n o dX5_turn_1 1 rfl ?_
  refine r_max o (mw 366 (by decide +kernel) (by decide +kernel)) (mw 367 (by decide +kernel) (by decide +kernel)) (mw 47 (by decide +kernel) (by decide +kernel)) (mw 368 (by decide +kernel) (by decide +kernel)) (by decide) (Nat.le_of_ble_eq_true rfl) dX5_turn_2 ?_
  refine r_topi (y := nI mq) (max0 (by omega)) ?_
  refine r_istore_n o (lv' := [(2, .int (nI mq)), (0, .ref (gad G 20)), (1, .int (nI mq))]) dX5_turn_5 (by decide) rfl ?_
  have L6 : ∀ (n : Nat) (kq : Nat) (hkq : mq ≤ kq ∧ kq ≤ 24), 24 - kq < n → WS X G 3 (sta σ 20 (mix (trnF fq) fq mq kq)) 6 [(0, .ref (gad G 20)), (1, .int (nI mq)), (2, .int (nI kq))] [] := by
    intro n
    induction n with
    | zero => intro kq hkq hm; exact absurd hm (Nat.not_lt_zero _)
    | succ n ih6 =>
      intro kq hkq hm
      refine r_iload_n o dX5_turn_6 2 rfl ?_
      refine r_bipush o (v := nI 24) dX5_turn_7 (by decide) ?_
      refine r_icmp_ge o (tgt := 33) dX5_turn_9 (by decide) (fun hb9 => ?_) (fun hb9 => ?_)
      · skip
        rw [nI_leI (by omega) (by omega)] at hb9
        obtain rfl : kq = 24 := by omega
        exact r_return o q dX5_turn_33 rfl
      · skip
        rw [nI_leI (by omega) (by omega)] at hb9
        refine r_aload_n o dX5_turn_12 0 rfl ?_
        refine r_iload_n o dX5_turn_13 2 rfl ?_
        refine r_ia (σ := sta σ 20 (mix (trnF fq) fq mq kq)) o (by decide) ia_20 (f := mix (trnF fq) fq mq kq) rfl kq rfl (by omega) (by decide) dX5_turn_14 ?_
        refine r_topi (y := fq kq) (mix_hi (Nat.le_refl _)) ?_
        refine r_ldc o mw_356 dX5_turn_15 ?_
        refine r_icmp_eq o (tgt := 27) dX5_turn_17 (by decide) (fun hb17 => ?_) (fun hb17 => ?_)
        · skip
          refine r_iinc o (v := nI (kq + 1)) (lv' := [(2, .int (nI (kq + 1))), (0, .ref (gad G 20)), (1, .int (nI mq))]) dX5_turn_27 2 rfl (nI_inc _) (by decide) rfl ?_
          refine r_goto o (tgt := 6) dX5_turn_30 (by decide) ?_
          exact r_to (congrArg (sta σ 20) (mix_skip (by unfold trnF; rw [if_pos hb17]))) [1, 2, 0] rfl (ih6 (kq + 1) (by omega) (by omega))
        · skip
          refine r_aload_n o dX5_turn_20 0 rfl ?_
          refine r_iload_n o dX5_turn_21 2 rfl ?_
          refine r_aload_n o dX5_turn_22 0 rfl ?_
          refine r_iload_n o dX5_turn_23 2 rfl ?_
          refine r_ia (σ := sta σ 20 (mix (trnF fq) fq mq kq)) o (by decide) ia_20 (f := mix (trnF fq) fq mq kq) rfl kq rfl (by omega) (by decide) dX5_turn_24 ?_
          refine r_topi (y := fq kq) (mix_hi (Nat.le_refl _)) ?_
          refine r_ineg o dX5_turn_25 ?_
          refine r_iast o (by decide) ia_20 kq rfl (by omega) (by decide) dX5_turn_26 ?_
          refine r_iinc o (v := nI (kq + 1)) (lv' := [(2, .int (nI (kq + 1))), (0, .ref (gad G 20)), (1, .int (nI mq))]) dX5_turn_27 2 rfl (nI_inc _) (by decide) rfl ?_
          refine r_goto o (tgt := 6) dX5_turn_30 (by decide) ?_
          exact r_to (mix_fw (by omega) (by unfold trnF; rw [if_neg hb17])) [1, 2, 0] rfl (ih6 (kq + 1) (by omega) (by omega))
  exact r_to (by rw [mix_nil]; exact sta_id hfq) [1, 2, 0] rfl (L6 _ mq (by omega) (Nat.lt_succ_self _))
set_option maxHeartbeats 4000000 in
set_option maxRecDepth 100000 in
theorem c_X5_cut_20 (l : Launch) (G : Gl) (σ : Sto) (fq : Nat → Int32) (hfq : (σ 20).1 = fq) (mq : Nat) (nq : Nat) (hmq : mq ≤ 23 ∧ nq ≤ 23) : CtV l G yX5_cut cX5_cut 4 none 1 22 [.ref (gad G 20), .int (nI mq), .int (nI nq)] σ (fun σ' => σ' = sta σ 20 (mix (cutF fq mq nq) fq 0 24)) := by
  refine CtV.of (by decide +kernel) (Nat.le_of_ble_eq_true rfl) (fun X o q => ?_)
  show WS X G 4 σ 0 [(0, .ref (gad G 20)), (1, .int (nI mq)), (2, .int (nI nq))] []
  refine r_iconst o (v := nI 0) dX5_cut_0 (by decide) ?_
  refine r_istore_n o (lv' := [(3, .int (nI 0)), (0, .ref (gad G 20)), (1, .int (nI mq)), (2, .int (nI nq))]) dX5_cut_1 (by decide) rfl ?_
  have L2 : ∀ (n : Nat) (kq : Nat) (hkq : kq ≤ 24), 24 - kq < n → WS X G 4 (sta σ 20 (mix (cutF fq mq nq) fq 0 kq)) 2 [(0, .ref (gad G 20)), (1, .int (nI mq)), (2, .int (nI nq)), (3, .int (nI kq))] [] := by
    intro n
    induction n with
    | zero => intro kq hkq hm; exact absurd hm (Nat.not_lt_zero _)
    | succ n ih2 =>
      intro kq hkq hm
      refine r_iload_n o dX5_cut_2 3 rfl ?_
      refine r_bipush o (v := nI 24) dX5_cut_3 (by decide) ?_
      refine r_icmp_ge o (tgt := 28) dX5_cut_5 (by decide) (fun hb5 => ?_) (fun hb5 => ?_)
      · skip
        rw [nI_leI (by omega) (by omega)] at hb5
        obtain rfl : kq = 24 := by omega
        exact r_return o q dX5_cut_28 rfl
      · skip
        rw [nI_leI (by omega) (by omega)] at hb5
        refine r_iload_n o dX5_cut_8 3 rfl ?_
        refine r_iload_n o dX5_cut_9 1 rfl ?_
        refine r_iload_n o dX5_cut_10 2 rfl ?_
        refine r_callNI o (As := [.int (nI kq), .int (nI mq), .int (nI nq)]) (st := []) (c_X9_isWithin (xl X) G (sta σ 20 (mix (cutF fq mq nq) fq 0 kq)) (nI kq) (nI mq) (nI nq)) om_X9_isWithin mw_278 mw_328 (by decide) rfl rfl (Nat.le_of_ble_eq_true rfl) dX5_cut_11 (fun rr11 σσ11 hp11 => ?_)
        obtain ⟨hp11, hp11b⟩ := hp11; replace hp11 := Eq.symm hp11; replace hp11b := Eq.symm hp11b; subst hp11; subst hp11b
        refine r_if_ne o (tgt := 22) dX5_cut_14 (by decide) (fun hb14 => ?_) (fun hb14 => ?_)
        · skip
          rw [b01_ne0] at hb14
          rw [inB_N (by omega) (by omega) (by omega), Bool.and_eq_true, decide_eq_true_eq, decide_eq_true_eq] at hb14
          refine r_iinc o (v := nI (kq + 1)) (lv' := [(3, .int (nI (kq + 1))), (0, .ref (gad G 20)), (1, .int (nI mq)), (2, .int (nI nq))]) dX5_cut_22 3 rfl (nI_inc _) (by decide) rfl ?_
          refine r_goto o (tgt := 2) dX5_cut_25 (by decide) ?_
          exact r_to (congrArg (sta σ 20) (mix_skip (by unfold cutF; rw [if_pos (by omega)]))) [1, 2, 3, 0] rfl (ih2 (kq + 1) (by omega) (by omega))
        · skip
          rw [b01_eq0] at hb14
          rw [inB_N (by omega) (by omega) (by omega)] at hb14
          simp at hb14
          refine r_aload_n o dX5_cut_17 0 rfl ?_
          refine r_iload_n o dX5_cut_18 3 rfl ?_
          refine r_ldc o mw_356 dX5_cut_19 ?_
          refine r_iast o (by decide) ia_20 kq rfl (by omega) (by decide) dX5_cut_21 ?_
          refine r_iinc o (v := nI (kq + 1)) (lv' := [(3, .int (nI (kq + 1))), (0, .ref (gad G 20)), (1, .int (nI mq)), (2, .int (nI nq))]) dX5_cut_22 3 rfl (nI_inc _) (by decide) rfl ?_
          refine r_goto o (tgt := 2) dX5_cut_25 (by decide) ?_
          exact r_to (mix_fw (by omega) (by unfold cutF; rw [if_neg (by omega)])) [1, 2, 3, 0] rfl (ih2 (kq + 1) (by omega) (by omega))
  exact r_to (by rw [mix_nil]; exact sta_id hfq) [1, 2, 3, 0] rfl (L2 _ 0 (by omega) (Nat.lt_succ_self _))
set_option maxHeartbeats 4000000 in
set_option maxRecDepth 100000 in
theorem c_X5_differ_20 (l : Launch) (G : Gl) (σ : Sto) (fq : Nat → Int32) (hfq : (σ 20).1 = fq) : CtV l G yX5_differ cX5_differ 4 none 2 41 [.ref (gad G 20)] σ (fun σ' => σ' = sta σ 20 (mix (difF fq) fq 0 24)) := by
  refine CtV.of (by decide +kernel) (Nat.le_of_ble_eq_true rfl) (fun X o q => ?_)
  show WS X G 4 σ 0 [(0, .ref (gad G 20))] []
  refine r_bipush o (v := nI 23) dX5_differ_0 (by decide) ?_
  refine r_istore_n o (lv' := [(1, .int (nI 23)), (0, .ref (gad G 20))]) dX5_differ_2 (by decide) rfl ?_
  have L3 : ∀ (n : Nat) (kq : Nat) (hkq : kq ≤ 24), kq < n → WS X G 4 (sta σ 20 (mix (difF fq) fq kq 24)) 3 [(0, .ref (gad G 20)), (1, .int (nI kq - 1))] [] := by
    intro n
    induction n with
    | zero => intro kq hkq hm; exact absurd hm (Nat.not_lt_zero _)
    | succ n ih3 =>
      intro kq hkq hm
      refine r_iload_n o dX5_differ_3 1 rfl ?_
      refine r_if_lt o (tgt := 61) dX5_differ_4 (by decide) (fun hb4 => ?_) (fun hb4 => ?_)
      · skip
        rw [nI_lt1 (by omega)] at hb4
        subst hb4
        exact r_return o q dX5_differ_61 rfl
      · skip
        rw [nI_lt1 (by omega)] at hb4
        obtain ⟨jq, rfl⟩ : ∃ zq, kq = zq + 1 := ⟨kq - 1, by omega⟩
        refine r_lv (lv' := [(0, .ref (gad G 20)), (1, .int (nI jq))]) (congrArg (fun zz => ([(0, .ref (gad G 20)), (1, .int zz)] : List (Nat × Value))) (nI_pred _)) ?_
        refine r_aload_n o dX5_differ_7 0 rfl ?_
        refine r_iload_n o dX5_differ_8 1 rfl ?_
        refine r_iconst o (v := nI 1) dX5_differ_9 (by decide) ?_
        refine r_isub o dX5_differ_10 ?_
        refine r_callSI o (As := [.ref (gad G 20), .int ((nI jq) - (nI 1))]) (st := []) (c_X5_numberAt_20 (xl X) G (sta σ 20 (mix (difF fq) fq (jq + 1) 24)) (mix (difF fq) fq (jq + 1) 24) rfl ((nI jq) - (nI 1))) om_X5_numberAt mw_358 mw_357 (by decide) rfl rfl (Nat.le_of_ble_eq_true rfl) dX5_differ_11 (fun rr11 σσ11 hp11 => ?_)
        obtain ⟨hp11, hp11b⟩ := hp11; replace hp11 := Eq.symm hp11; replace hp11b := Eq.symm hp11b; subst hp11; subst hp11b
        refine r_topi (y := atI fq (nI jq - nI 1)) (atI_dn (by omega) (by omega)) ?_
        refine r_istore_n o (lv' := [(2, .int (atI fq (nI jq - nI 1))), (0, .ref (gad G 20)), (1, .int (nI jq))]) dX5_differ_14 (by decide) rfl ?_
        refine r_aload_n o dX5_differ_15 1 rfl ?_
        refine r_iload_n o dX5_differ_16 2 rfl ?_
        refine r_ia (σ := sta σ 20 (mix (difF fq) fq (jq + 1) 24)) o (by decide) ia_20 (f := mix (difF fq) fq (jq + 1) 24) rfl jq rfl (by omega) (by decide) dX5_differ_17 ?_
        refine r_topi (y := fq jq) (mix_lo (by omega)) ?_
        refine r_ldc o mw_356 dX5_differ_18 ?_
        refine r_icmp_eq o (tgt := 33) dX5_differ_20 (by decide) (fun hb20 => ?_) (fun hb20 => ?_)
        · skip
          refine r_iconst o (v := nI 0) dX5_differ_33 (by decide) ?_
          refine r_istore_n o (lv' := [(3, .int (nI 0)), (2, .int (atI fq (nI jq - nI 1))), (0, .ref (gad G 20)), (1, .int (nI jq))]) dX5_differ_34 (by decide) rfl ?_
          refine r_aload_n o dX5_differ_35 2 rfl ?_
          refine r_iload_n o dX5_differ_36 3 rfl ?_
          refine r_iload_n o dX5_differ_37 0 rfl ?_
          refine r_if_eq o (tgt := 52) dX5_differ_38 (by decide) (fun hb38 => ?_) (fun hb38 => ?_)
          · skip
            refine r_ldc o mw_356 dX5_differ_52 ?_
            refine r_iast o (by decide) ia_20 jq rfl (by omega) (by decide) dX5_differ_54 ?_
            refine r_iinc o (v := nI jq - 1) (lv' := [(1, .int (nI jq - 1)), (3, .int (nI 0)), (2, .int (atI fq (nI jq - nI 1))), (0, .ref (gad G 20))]) dX5_differ_55 3 rfl (nI_decm _) (by decide) rfl ?_
            refine r_goto o (tgt := 3) dX5_differ_58 (by decide) ?_
            exact r_to (mix_bk (by omega) (by unfold difF; first | (rw [if_pos hb20]) | (rw [if_neg hb20, if_pos hb26]) | (rw [if_neg hb20, if_neg hb26]))) [3, 0] rfl (ih3 jq (by omega) (by omega))
          · exact absurd hb38 (by decide)
        · skip
          refine r_iload_n o dX5_differ_23 0 rfl ?_
          refine r_ldc o mw_356 dX5_differ_24 ?_
          refine r_icmp_eq o (tgt := 33) dX5_differ_26 (by decide) (fun hb26 => ?_) (fun hb26 => ?_)
          · skip
            refine r_iconst o (v := nI 0) dX5_differ_33 (by decide) ?_
            refine r_istore_n o (lv' := [(3, .int (nI 0)), (2, .int (atI fq (nI jq - nI 1))), (0, .ref (gad G 20)), (1, .int (nI jq))]) dX5_differ_34 (by decide) rfl ?_
            refine r_aload_n o dX5_differ_35 2 rfl ?_
            refine r_iload_n o dX5_differ_36 3 rfl ?_
            refine r_iload_n o dX5_differ_37 0 rfl ?_
            refine r_if_eq o (tgt := 52) dX5_differ_38 (by decide) (fun hb38 => ?_) (fun hb38 => ?_)
            · skip
              refine r_ldc o mw_356 dX5_differ_52 ?_
              refine r_iast o (by decide) ia_20 jq rfl (by omega) (by decide) dX5_differ_54 ?_
              refine r_iinc o (v := nI jq - 1) (lv' := [(1, .int (nI jq - 1)), (3, .int (nI 0)), (2, .int (atI fq (nI jq - nI 1))), (0, .ref (gad G 20))]) dX5_differ_55 3 rfl (nI_decm _) (by decide) rfl ?_
              refine r_goto o (tgt := 3) dX5_differ_58 (by decide) ?_
              exact r_to (mix_bk (by omega) (by unfold difF; first | (rw [if_pos hb20]) | (rw [if_neg hb20, if_pos hb26]) | (rw [if_neg hb20, if_neg hb26]))) [3, 0] rfl (ih3 jq (by omega) (by omega))
            · exact absurd hb38 (by decide)
          · skip
            refine r_iconst o (v := nI 1) dX5_differ_29 (by decide) ?_
            refine r_goto o (tgt := 34) dX5_differ_30 (by decide) ?_
            refine r_istore_n o (lv' := [(3, .int (nI 1)), (2, .int (atI fq (nI jq - nI 1))), (0, .ref (gad G 20)), (1, .int (nI jq))]) dX5_differ_34 (by decide) rfl ?_
            refine r_aload_n o dX5_differ_35 2 rfl ?_
            refine r_iload_n o dX5_differ_36 3 rfl ?_
            refine r_iload_n o dX5_differ_37 0 rfl ?_
            refine r_if_eq o (tgt := 52) dX5_differ_38 (by decide) (fun hb38 => ?_) (fun hb38 => ?_)
            · exact absurd hb38 (by decide)
            · skip
              refine r_aload_n o dX5_differ_41 2 rfl ?_
              refine r_iload_n o dX5_differ_42 3 rfl ?_
              refine r_ia (σ := sta σ 20 (mix (difF fq) fq (jq + 1) 24)) o (by decide) ia_20 (f := mix (difF fq) fq (jq + 1) 24) rfl jq rfl (by omega) (by decide) dX5_differ_43 ?_
              refine r_topi (y := fq jq) (mix_lo (by omega)) ?_
              refine r_iload_n o dX5_differ_44 1 rfl ?_
              refine r_isub o dX5_differ_45 ?_
              refine r_callSI o (As := [.int ((fq jq) - (atI fq (nI jq - nI 1)))]) (st := [.int (nI jq), .ref (gad G 20)]) (c_X5_hold (xl X) G (sta σ 20 (mix (difF fq) fq (jq + 1) 24)) ((fq jq) - (atI fq (nI jq - nI 1)))) om_X5_hold mw_361 mw_360 (by decide) rfl rfl (Nat.le_of_ble_eq_true rfl) dX5_differ_46 (fun rr46 σσ46 hp46 => ?_)
              obtain ⟨hp46, hp46b⟩ := hp46; replace hp46 := Eq.symm hp46; replace hp46b := Eq.symm hp46b; subst hp46; subst hp46b
              refine r_goto o (tgt := 54) dX5_differ_49 (by decide) ?_
              refine r_iast o (by decide) ia_20 jq rfl (by omega) (by decide) dX5_differ_54 ?_
              refine r_iinc o (v := nI jq - 1) (lv' := [(1, .int (nI jq - 1)), (3, .int (nI 1)), (2, .int (atI fq (nI jq - nI 1))), (0, .ref (gad G 20))]) dX5_differ_55 3 rfl (nI_decm _) (by decide) rfl ?_
              refine r_goto o (tgt := 3) dX5_differ_58 (by decide) ?_
              exact r_to (mix_bk (by omega) (by unfold difF; first | (rw [if_pos hb20]) | (rw [if_neg hb20, if_pos hb26]) | (rw [if_neg hb20, if_neg hb26]))) [3, 0] rfl (ih3 jq (by omega) (by omega))
  refine r_lv (lv' := [(1, .int (nI 24 - 1)), (0, .ref (gad G 20))]) (congrArg (fun zz => ([(1, .int zz), (0, .ref (gad G 20))] : List (Nat × Value))) (show nI 23 = nI 24 - 1 by decide)) ?_
  exact r_to (by rw [mix_nil]; exact sta_id hfq) [1, 0] rfl (L3 _ 24 (by omega) (Nat.lt_succ_self _))
set_option maxHeartbeats 4000000 in
set_option maxRecDepth 100000 in
theorem c_X5_work_20 (l : Launch) (G : Gl) (σ : Sto) (sn : Nat → Nat) (cntq : Nat) (hp : PadO σ sn cntq) (fq : Nat → Int32) (hfq : (σ 20).1 = fq) (aq : Nat) (dgq : Nat) (haq : aq < cntq) (hdq : digs (sn aq) = some dgq) (hokq : ∀ jq, 1 ≤ jq → jq ≤ dgq → aq + jq < cntq ∧ canS sn aq jq = true) : CtV l G yX5_work cX5_work 3 none 3 66 [.ref (gad G 1), .int (nI aq), .ref (gad G 20)] σ (fun σ' => σ' = sta σ 20 (stepF sn aq fq)) := by
  refine CtV.of (by decide +kernel) (Nat.le_of_ble_eq_true rfl) (fun X o q => ?_)
  show WS X G 3 σ 0 [(0, .ref (gad G 1)), (1, .int (nI aq)), (2, .ref (gad G 20))] []
  obtain ⟨hcq, hcnt, hsg, hsn⟩ := id hp
  have hsaq := hsn aq
  refine r_aload_n o dX5_work_0 0 rfl ?_
  refine gf_1_0 o mw_66 dX5_work_1 ?_
  refine r_iload_n o dX5_work_4 1 rfl ?_
  refine r_ia o (by decide) ia_19 (f := (σ 19).1) rfl aq rfl (by omega) (by decide) dX5_work_5 ?_
  refine r_topi (y := nI (sn aq)) (hsg _ (by omega)) ?_
  by_cases hs6_99 : sn aq = 99
  · skip
    refine r_topi (y := nI 99) (by rw [hs6_99]) ?_
    refine r_lookup o (off := 92) (tgt := 98) dX5_work_6 (by decide) (by decide) (by decide) ?_
    obtain rfl := dgs_c hs6_99 hdq
    obtain ⟨hc1, hs1⟩ := hokq 1 (by omega) (by omega); have hg1 := canS_dig hs1; have hn1 := hsn (aq + 1)
    obtain ⟨hc2, hs2⟩ := hokq 2 (by omega) (by omega); have hg2 := canS_dig hs2; have hn2 := hsn (aq + 2)
    obtain ⟨hc3, hs3⟩ := hokq 3 (by omega) (by omega); have hg3 := canS_dig hs3; have hn3 := hsn (aq + 3)
    obtain ⟨hc4, hs4⟩ := hokq 4 (by omega) (by omega); have hg4 := canS_dig hs4; have hn4 := hsn (aq + 4)
    have he1 : sn (aq + 1 + 1) = sn (aq + 2) := rfl
    have he3 : sn (aq + 3 + 1) = sn (aq + 4) := rfl
    have hy1 := canC2 sn aq hs6_99 hs2
    have hy2 := canC4 sn aq hs6_99 hs4
    refine r_aload_n o dX5_work_98 2 rfl ?_
    refine r_aload_n o dX5_work_99 0 rfl ?_
    refine r_iload_n o dX5_work_100 1 rfl ?_
    refine r_iconst o (v := nI 1) dX5_work_101 (by decide) ?_
    refine r_iadd o dX5_work_102 ?_
    refine r_topi (y := nI (aq + 1)) (nI_add' _ _) ?_
    refine r_callVI o (As := [.int (nI (aq + 1))]) (st := [.ref (gad G 20)]) (c_X5_twoDigitsAt (xl X) G σ sn cntq hp (aq + 1) (by omega)) om_X5_twoDigitsAt mw_335 mw_3 mw_333 (by decide) rfl rfl rfl (by decide) rfl rfl (Nat.le_of_ble_eq_true rfl) dX5_work_103 (fun rr103 σσ103 hp103 => ?_)
    obtain ⟨hp103, hp103b⟩ := hp103; replace hp103 := Eq.symm hp103; replace hp103b := Eq.symm hp103b; subst hp103; subst hp103b
    refine r_topi (y := nI (twoN sn (aq + 1))) (by rw [digI_ok (by omega) (by omega) (by omega), digI_ok (by omega) (by omega) (by omega), nI_mul', nI_add']; rfl) ?_
    refine r_aload_n o dX5_work_106 0 rfl ?_
    refine r_iload_n o dX5_work_107 1 rfl ?_
    refine r_iconst o (v := nI 3) dX5_work_108 (by decide) ?_
    refine r_iadd o dX5_work_109 ?_
    refine r_topi (y := nI (aq + 3)) (nI_add' _ _) ?_
    refine r_callVI o (As := [.int (nI (aq + 3))]) (st := [.int (nI (twoN sn (aq + 1))), .ref (gad G 20)]) (c_X5_twoDigitsAt (xl X) G σ sn cntq hp (aq + 3) (by omega)) om_X5_twoDigitsAt mw_335 mw_3 mw_333 (by decide) rfl rfl rfl (by decide) rfl rfl (Nat.le_of_ble_eq_true rfl) dX5_work_110 (fun rr110 σσ110 hp110 => ?_)
    obtain ⟨hp110, hp110b⟩ := hp110; replace hp110 := Eq.symm hp110; replace hp110b := Eq.symm hp110b; subst hp110; subst hp110b
    refine r_topi (y := nI (twoN sn (aq + 3))) (by rw [digI_ok (by omega) (by omega) (by omega), digI_ok (by omega) (by omega) (by omega), nI_mul', nI_add']; rfl) ?_
    refine r_callSV o (As := [.ref (gad G 20), .int (nI (twoN sn (aq + 1))), .int (nI (twoN sn (aq + 3)))]) (st := []) (c_X5_cut_20 (xl X) G σ fq hfq (twoN sn (aq + 1)) (twoN sn (aq + 3)) (⟨hy1, hy2.2⟩)) om_X5_cut mw_376 mw_375 (by decide) rfl rfl (Nat.le_of_ble_eq_true rfl) dX5_work_113 (fun σσ113 hp113 => ?_)
    replace hp113 := Eq.symm hp113; subst hp113
    refine r_goto o (tgt := 126) dX5_work_116 (by decide) ?_
    exact r_return o q dX5_work_126 (by unfold stepF; first | (rw [if_pos hs6_115]) | (rw [if_neg hs6_115, if_pos hs6_108]) | (rw [if_neg (by omega), if_pos hs6_108]) | (rw [if_neg (by omega), if_neg (by omega), if_pos hs6_116]) | (rw [if_neg (by omega), if_neg (by omega), if_neg (by omega), if_pos hs6_99]) | (rw [if_neg (by omega), if_neg (by omega), if_neg (by omega), if_neg (by omega), if_pos hs6_100]))
  by_cases hs6_100 : sn aq = 100
  · skip
    refine r_topi (y := nI 100) (by rw [hs6_100]) ?_
    refine r_lookup o (off := 113) (tgt := 119) dX5_work_6 (by decide) (by decide) (by decide) ?_
    refine r_aload_n o dX5_work_119 2 rfl ?_
    refine r_callSV o (As := [.ref (gad G 20)]) (st := []) (c_X5_differ_20 (xl X) G σ fq hfq) om_X5_differ mw_379 mw_378 (by decide) rfl rfl (Nat.le_of_ble_eq_true rfl) dX5_work_120 (fun σσ120 hp120 => ?_)
    replace hp120 := Eq.symm hp120; subst hp120
    refine r_goto o (tgt := 126) dX5_work_123 (by decide) ?_
    exact r_return o q dX5_work_126 (by unfold stepF; first | (rw [if_pos hs6_115]) | (rw [if_neg hs6_115, if_pos hs6_108]) | (rw [if_neg (by omega), if_pos hs6_108]) | (rw [if_neg (by omega), if_neg (by omega), if_pos hs6_116]) | (rw [if_neg (by omega), if_neg (by omega), if_neg (by omega), if_pos hs6_99]) | (rw [if_neg (by omega), if_neg (by omega), if_neg (by omega), if_neg (by omega), if_pos hs6_100]))
  by_cases hs6_108 : sn aq = 108
  · skip
    refine r_topi (y := nI 108) (by rw [hs6_108]) ?_
    refine r_lookup o (off := 64) (tgt := 70) dX5_work_6 (by decide) (by decide) (by decide) ?_
    obtain rfl := dgs_l hs6_108 hdq
    obtain ⟨hc1, hs1⟩ := hokq 1 (by omega) (by omega); have hg1 := canS_dig hs1; have hn1 := hsn (aq + 1)
    refine r_aload_n o dX5_work_70 2 rfl ?_
    refine r_aload_n o dX5_work_71 0 rfl ?_
    refine r_iload_n o dX5_work_72 1 rfl ?_
    refine r_iconst o (v := nI 1) dX5_work_73 (by decide) ?_
    refine r_iadd o dX5_work_74 ?_
    refine r_topi (y := nI (aq + 1)) (nI_add' _ _) ?_
    refine r_callVI o (As := [.int (nI (aq + 1))]) (st := [.ref (gad G 20)]) (c_X5_digitAt (xl X) G σ sn cntq hp (aq + 1) (by omega)) om_X5_digitAt mw_326 mw_1 mw_324 (by decide) rfl rfl rfl (by decide) rfl rfl (Nat.le_of_ble_eq_true rfl) dX5_work_75 (fun rr75 σσ75 hp75 => ?_)
    obtain ⟨hp75, hp75b⟩ := hp75; replace hp75 := Eq.symm hp75; replace hp75b := Eq.symm hp75b; subst hp75; subst hp75b
    refine r_topi (y := nI (sn (aq + 1) - 48)) (digI_ok (by omega) (by omega) (by omega)) ?_
    refine r_callSV o (As := [.ref (gad G 20), .int (nI (sn (aq + 1) - 48))]) (st := []) (c_X5_lag_20 (xl X) G σ fq hfq (sn (aq + 1) - 48) (by omega)) om_X5_lag mw_370 mw_369 (by decide) rfl rfl (Nat.le_of_ble_eq_true rfl) dX5_work_78 (fun σσ78 hp78 => ?_)
    replace hp78 := Eq.symm hp78; subst hp78
    refine r_goto o (tgt := 126) dX5_work_81 (by decide) ?_
    exact r_return o q dX5_work_126 (by unfold stepF; first | (rw [if_pos hs6_115]) | (rw [if_neg hs6_115, if_pos hs6_108]) | (rw [if_neg (by omega), if_pos hs6_108]) | (rw [if_neg (by omega), if_neg (by omega), if_pos hs6_116]) | (rw [if_neg (by omega), if_neg (by omega), if_neg (by omega), if_pos hs6_99]) | (rw [if_neg (by omega), if_neg (by omega), if_neg (by omega), if_neg (by omega), if_pos hs6_100]))
  by_cases hs6_115 : sn aq = 115
  · skip
    refine r_topi (y := nI 115) (by rw [hs6_115]) ?_
    refine r_lookup o (off := 50) (tgt := 56) dX5_work_6 (by decide) (by decide) (by decide) ?_
    obtain rfl := dgs_s hs6_115 hdq
    obtain ⟨hc1, hs1⟩ := hokq 1 (by omega) (by omega); have hg1 := canS_dig hs1; have hn1 := hsn (aq + 1)
    refine r_aload_n o dX5_work_56 2 rfl ?_
    refine r_aload_n o dX5_work_57 0 rfl ?_
    refine r_iload_n o dX5_work_58 1 rfl ?_
    refine r_iconst o (v := nI 1) dX5_work_59 (by decide) ?_
    refine r_iadd o dX5_work_60 ?_
    refine r_topi (y := nI (aq + 1)) (nI_add' _ _) ?_
    refine r_callVI o (As := [.int (nI (aq + 1))]) (st := [.ref (gad G 20)]) (c_X5_digitAt (xl X) G σ sn cntq hp (aq + 1) (by omega)) om_X5_digitAt mw_326 mw_1 mw_324 (by decide) rfl rfl rfl (by decide) rfl rfl (Nat.le_of_ble_eq_true rfl) dX5_work_61 (fun rr61 σσ61 hp61 => ?_)
    obtain ⟨hp61, hp61b⟩ := hp61; replace hp61 := Eq.symm hp61; replace hp61b := Eq.symm hp61b; subst hp61; subst hp61b
    refine r_topi (y := nI (sn (aq + 1) - 48)) (digI_ok (by omega) (by omega) (by omega)) ?_
    refine r_callSV o (As := [.ref (gad G 20), .int (nI (sn (aq + 1) - 48))]) (st := []) (c_X5_smooth_20 (xl X) G σ fq hfq (sn (aq + 1) - 48) (by omega)) om_X5_smooth mw_354 mw_353 (by decide) rfl rfl (Nat.le_of_ble_eq_true rfl) dX5_work_64 (fun σσ64 hp64 => ?_)
    replace hp64 := Eq.symm hp64; subst hp64
    refine r_goto o (tgt := 126) dX5_work_67 (by decide) ?_
    exact r_return o q dX5_work_126 (by unfold stepF; first | (rw [if_pos hs6_115]) | (rw [if_neg hs6_115, if_pos hs6_108]) | (rw [if_neg (by omega), if_pos hs6_108]) | (rw [if_neg (by omega), if_neg (by omega), if_pos hs6_116]) | (rw [if_neg (by omega), if_neg (by omega), if_neg (by omega), if_pos hs6_99]) | (rw [if_neg (by omega), if_neg (by omega), if_neg (by omega), if_neg (by omega), if_pos hs6_100]))
  by_cases hs6_116 : sn aq = 116
  · skip
    refine r_topi (y := nI 116) (by rw [hs6_116]) ?_
    refine r_lookup o (off := 78) (tgt := 84) dX5_work_6 (by decide) (by decide) (by decide) ?_
    obtain rfl := dgs_t hs6_116 hdq
    obtain ⟨hc1, hs1⟩ := hokq 1 (by omega) (by omega); have hg1 := canS_dig hs1; have hn1 := hsn (aq + 1)
    obtain ⟨hc2, hs2⟩ := hokq 2 (by omega) (by omega); have hg2 := canS_dig hs2; have hn2 := hsn (aq + 2)
    have he1 : sn (aq + 1 + 1) = sn (aq + 2) := rfl
    have hy1 := canT sn aq hs6_116 hs2
    refine r_aload_n o dX5_work_84 2 rfl ?_
    refine r_aload_n o dX5_work_85 0 rfl ?_
    refine r_iload_n o dX5_work_86 1 rfl ?_
    refine r_iconst o (v := nI 1) dX5_work_87 (by decide) ?_
    refine r_iadd o dX5_work_88 ?_
    refine r_topi (y := nI (aq + 1)) (nI_add' _ _) ?_
    refine r_callVI o (As := [.int (nI (aq + 1))]) (st := [.ref (gad G 20)]) (c_X5_twoDigitsAt (xl X) G σ sn cntq hp (aq + 1) (by omega)) om_X5_twoDigitsAt mw_335 mw_3 mw_333 (by decide) rfl rfl rfl (by decide) rfl rfl (Nat.le_of_ble_eq_true rfl) dX5_work_89 (fun rr89 σσ89 hp89 => ?_)
    obtain ⟨hp89, hp89b⟩ := hp89; replace hp89 := Eq.symm hp89; replace hp89b := Eq.symm hp89b; subst hp89; subst hp89b
    refine r_topi (y := nI (twoN sn (aq + 1))) (by rw [digI_ok (by omega) (by omega) (by omega), digI_ok (by omega) (by omega) (by omega), nI_mul', nI_add']; rfl) ?_
    refine r_callSV o (As := [.ref (gad G 20), .int (nI (twoN sn (aq + 1)))]) (st := []) (c_X5_turn_20 (xl X) G σ fq hfq (twoN sn (aq + 1)) hy1) om_X5_turn mw_373 mw_372 (by decide) rfl rfl (Nat.le_of_ble_eq_true rfl) dX5_work_92 (fun σσ92 hp92 => ?_)
    replace hp92 := Eq.symm hp92; subst hp92
    refine r_goto o (tgt := 126) dX5_work_95 (by decide) ?_
    exact r_return o q dX5_work_126 (by unfold stepF; first | (rw [if_pos hs6_115]) | (rw [if_neg hs6_115, if_pos hs6_108]) | (rw [if_neg (by omega), if_pos hs6_108]) | (rw [if_neg (by omega), if_neg (by omega), if_pos hs6_116]) | (rw [if_neg (by omega), if_neg (by omega), if_neg (by omega), if_pos hs6_99]) | (rw [if_neg (by omega), if_neg (by omega), if_neg (by omega), if_neg (by omega), if_pos hs6_100]))
  exact absurd hdq (dgs_no hs6_99 hs6_100 hs6_108 hs6_115 hs6_116)
set_option maxHeartbeats 4000000 in
set_option maxRecDepth 100000 in
theorem c_X5_numberAt_23 (l : Launch) (G : Gl) (σ : Sto) (fq : Nat → Int32) (hfq : (σ 23).1 = fq) (pz : Int32) : CtI l G yX5_numberAt cX5_numberAt 2 (some .int) 0 0 [.ref (gad G 23), .int pz] σ (fun r σ' => r = atI fq pz ∧ σ' = σ) := by
  refine CtI.of (by decide +kernel) (Nat.le_of_ble_eq_true rfl) (fun X o q => ?_)
  show WS X G 2 σ 0 [(0, .ref (gad G 23)), (1, .int pz)] []
  refine r_iload_n o dX5_numberAt_0 1 rfl ?_
  refine r_if_lt o (tgt := 16) dX5_numberAt_1 (by decide) (fun hb1 => ?_) (fun hb1 => ?_)
  · skip
    refine r_ldc o mw_356 dX5_numberAt_16 ?_
    exact r_ireturn o q dX5_numberAt_18 (⟨by first | exact (if_neg (inY_f1 hb1)).symm | exact (if_neg (inY_f2 hb7)).symm, rfl⟩)
  · skip
    refine r_iload_n o dX5_numberAt_4 1 rfl ?_
    refine r_bipush o (v := nI 24) dX5_numberAt_5 (by decide) ?_
    refine r_icmp_ge o (tgt := 16) dX5_numberAt_7 (by decide) (fun hb7 => ?_) (fun hb7 => ?_)
    · skip
      refine r_ldc o mw_356 dX5_numberAt_16 ?_
      exact r_ireturn o q dX5_numberAt_18 (⟨by first | exact (if_neg (inY_f1 hb1)).symm | exact (if_neg (inY_f2 hb7)).symm, rfl⟩)
    · skip
      have hiq := inY_t hb1 hb7
      refine r_aload_n o dX5_numberAt_10 0 rfl ?_
      refine r_iload_n o dX5_numberAt_11 1 rfl ?_
      refine r_ia o (by decide) ia_23 (f := fq) hfq pz.toNatClampNeg ((inB_nI (by decide) hiq).1) (by have := (inB_nI (n := 23) (by decide) hiq).2; omega) (by decide) dX5_numberAt_12 ?_
      refine r_goto o (tgt := 18) dX5_numberAt_13 (by decide) ?_
      exact r_ireturn o q dX5_numberAt_18 (⟨(if_pos hiq).symm, rfl⟩)
set_option maxHeartbeats 4000000 in
set_option maxRecDepth 100000 in
theorem c_X5_lag_23 (l : Launch) (G : Gl) (σ : Sto) (fq : Nat → Int32) (hfq : (σ 23).1 = fq) (mq : Nat) (hmq : mq ≤ 9) : CtV l G yX5_lag cX5_lag 3 none 1 21 [.ref (gad G 23), .int (nI mq)] σ (fun σ' => σ' = sta σ 23 (mix (lagF fq mq) fq 0 24)) := by
  refine CtV.of (by decide +kernel) (Nat.le_of_ble_eq_true rfl) (fun X o q => ?_)
  show WS X G 3 σ 0 [(0, .ref (gad G 23)), (1, .int (nI mq))] []
  refine r_bipush o (v := nI 23) dX5_lag_0 (by decide) ?_
  refine r_istore_n o (lv' := [(2, .int (nI 23)), (0, .ref (gad G 23)), (1, .int (nI mq))]) dX5_lag_2 (by decide) rfl ?_
  have L3 : ∀ (n : Nat) (kq : Nat) (hkq : kq ≤ 24), kq < n → WS X G 3 (sta σ 23 (mix (lagF fq mq) fq kq 24)) 3 [(0, .ref (gad G 23)), (1, .int (nI mq)), (2, .int (nI kq - 1))] [] := by
    intro n
    induction n with
    | zero => intro kq hkq hm; exact absurd hm (Nat.not_lt_zero _)
    | succ n ih3 =>
      intro kq hkq hm
      refine r_iload_n o dX5_lag_3 2 rfl ?_
      refine r_if_lt o (tgt := 23) dX5_lag_4 (by decide) (fun hb4 => ?_) (fun hb4 => ?_)
      · skip
        rw [nI_lt1 (by omega)] at hb4
        subst hb4
        exact r_return o q dX5_lag_23 rfl
      · skip
        rw [nI_lt1 (by omega)] at hb4
        obtain ⟨jq, rfl⟩ : ∃ zq, kq = zq + 1 := ⟨kq - 1, by omega⟩
        refine r_lv (lv' := [(0, .ref (gad G 23)), (1, .int (nI mq)), (2, .int (nI jq))]) (congrArg (fun zz => ([(0, .ref (gad G 23)), (1, .int (nI mq)), (2, .int zz)] : List (Nat × Value))) (nI_pred _)) ?_
        refine r_aload_n o dX5_lag_7 0 rfl ?_
        refine r_iload_n o dX5_lag_8 2 rfl ?_
        refine r_aload_n o dX5_lag_9 0 rfl ?_
        refine r_iload_n o dX5_lag_10 2 rfl ?_
        refine r_iload_n o dX5_lag_11 1 rfl ?_
        refine r_isub o dX5_lag_12 ?_
        refine r_callSI o (As := [.ref (gad G 23), .int ((nI jq) - (nI mq))]) (st := [.int (nI jq), .ref (gad G 23)]) (c_X5_numberAt_23 (xl X) G (sta σ 23 (mix (lagF fq mq) fq (jq + 1) 24)) (mix (lagF fq mq) fq (jq + 1) 24) rfl ((nI jq) - (nI mq))) om_X5_numberAt mw_358 mw_357 (by decide) rfl rfl (Nat.le_of_ble_eq_true rfl) dX5_lag_13 (fun rr13 σσ13 hp13 => ?_)
        obtain ⟨hp13, hp13b⟩ := hp13; replace hp13 := Eq.symm hp13; replace hp13b := Eq.symm hp13b; subst hp13; subst hp13b
        refine r_topi (y := lagF fq mq jq) (atI_dn (by omega) (by omega)) ?_
        refine r_iast o (by decide) ia_23 jq rfl (by omega) (by decide) dX5_lag_16 ?_
        refine r_iinc o (v := nI jq - 1) (lv' := [(2, .int (nI jq - 1)), (0, .ref (gad G 23)), (1, .int (nI mq))]) dX5_lag_17 2 rfl (nI_decm _) (by decide) rfl ?_
        refine r_goto o (tgt := 3) dX5_lag_20 (by decide) ?_
        exact r_to (mix_bk (by omega) rfl) [1, 2, 0] rfl (ih3 jq (by omega) (by omega))
  refine r_lv (lv' := [(2, .int (nI 24 - 1)), (0, .ref (gad G 23)), (1, .int (nI mq))]) (congrArg (fun zz => ([(2, .int zz), (0, .ref (gad G 23)), (1, .int (nI mq))] : List (Nat × Value))) (show nI 23 = nI 24 - 1 by decide)) ?_
  exact r_to (by rw [mix_nil]; exact sta_id hfq) [1, 2, 0] rfl (L3 _ 24 (by omega) (Nat.lt_succ_self _))
set_option maxHeartbeats 4000000 in
set_option maxRecDepth 100000 in
theorem c_X5_smooth_23 (l : Launch) (G : Gl) (σ : Sto) (fq : Nat → Int32) (hfq : (σ 23).1 = fq) (mq : Nat) (hmq : mq ≤ 9) : CtV l G yX5_smooth cX5_smooth 6 none 2 41 [.ref (gad G 23), .int (nI mq)] σ (fun σ' => σ' = sta σ 23 (mix (smF fq mq) fq 0 24)) := by
  refine CtV.of (by decide +kernel) (Nat.le_of_ble_eq_true rfl) (fun X o q => ?_)
  show WS X G 6 σ 0 [(0, .ref (gad G 23)), (1, .int (nI mq))] []
  refine r_bipush o (v := nI 23) dX5_smooth_0 (by decide) ?_
  refine r_istore_n o (lv' := [(2, .int (nI 23)), (0, .ref (gad G 23)), (1, .int (nI mq))]) dX5_smooth_2 (by decide) rfl ?_
  have L3 : ∀ (n : Nat) (kq : Nat) (hkq : kq ≤ 24), kq < n → WS X G 6 (sta σ 23 (mix (smF fq mq) fq kq 24)) 3 [(0, .ref (gad G 23)), (1, .int (nI mq)), (2, .int (nI kq - 1))] [] := by
    intro n
    induction n with
    | zero => intro kq hkq hm; exact absurd hm (Nat.not_lt_zero _)
    | succ n ih3 =>
      intro kq hkq hm
      refine r_iload_n o dX5_smooth_3 2 rfl ?_
      refine r_if_lt o (tgt := 70) dX5_smooth_4 (by decide) (fun hb4 => ?_) (fun hb4 => ?_)
      · skip
        rw [nI_lt1 (by omega)] at hb4
        subst hb4
        exact r_return o q dX5_smooth_70 rfl
      · skip
        rw [nI_lt1 (by omega)] at hb4
        obtain ⟨jq, rfl⟩ : ∃ zq, kq = zq + 1 := ⟨kq - 1, by omega⟩
        refine r_lv (lv' := [(0, .ref (gad G 23)), (1, .int (nI mq)), (2, .int (nI jq))]) (congrArg (fun zz => ([(0, .ref (gad G 23)), (1, .int (nI mq)), (2, .int zz)] : List (Nat × Value))) (nI_pred _)) ?_
        refine r_iconst o (v := nI 0) dX5_smooth_7 (by decide) ?_
        refine r_istore_n o (lv' := [(3, .int (nI 0)), (0, .ref (gad G 23)), (1, .int (nI mq)), (2, .int (nI jq))]) dX5_smooth_8 (by decide) rfl ?_
        refine r_iconst o (v := nI 0) dX5_smooth_9 (by decide) ?_
        refine r_istore o (lv' := [(4, .int (nI 0)), (3, .int (nI 0)), (0, .ref (gad G 23)), (1, .int (nI mq)), (2, .int (nI jq))]) dX5_smooth_10 (by decide) rfl ?_
        have L12 : ∀ (n : Nat) (iq : Nat) (hiq1 : iq ≤ mq), mq - iq < n → WS X G 6 (sta σ 23 (mix (smF fq mq) fq (jq + 1) 24)) 12 [(0, .ref (gad G 23)), (1, .int (nI mq)), (2, .int (nI jq)), (3, .int (smA fq jq iq)), (4, .int (nI iq))] [] := by
          intro n
          induction n with
          | zero => intro iq hiq1 hm; exact absurd hm (Nat.not_lt_zero _)
          | succ n ih12 =>
            intro iq hiq1 hm
            refine r_iload o dX5_smooth_12 4 rfl ?_
            refine r_iload_n o dX5_smooth_14 1 rfl ?_
            refine r_icmp_ge o (tgt := 57) dX5_smooth_15 (by decide) (fun hb15 => ?_) (fun hb15 => ?_)
            · skip
              rw [nI_leI (by omega) (by omega)] at hb15
              refine r_lv (lv' := [(0, .ref (gad G 23)), (1, .int (nI mq)), (2, .int (nI jq)), (3, .int (smA fq jq mq)), (4, .int (nI iq))]) (congrArg (fun zz => ([(0, .ref (gad G 23)), (1, .int (nI mq)), (2, .int (nI jq)), (3, .int zz), (4, .int (nI iq))] : List (Nat × Value))) (show smA fq jq iq = smA fq jq mq by rw [show iq = mq by omega])) ?_
              refine r_aload_n o dX5_smooth_57 0 rfl ?_
              refine r_iload_n o dX5_smooth_58 2 rfl ?_
              refine r_iload_n o dX5_smooth_59 3 rfl ?_
              refine r_callSI o (As := [.int (smA fq jq mq)]) (st := [.int (nI jq), .ref (gad G 23)]) (c_X5_hold (xl X) G (sta σ 23 (mix (smF fq mq) fq (jq + 1) 24)) (smA fq jq mq)) om_X5_hold mw_361 mw_360 (by decide) rfl rfl (Nat.le_of_ble_eq_true rfl) dX5_smooth_60 (fun rr60 σσ60 hp60 => ?_)
              obtain ⟨hp60, hp60b⟩ := hp60; replace hp60 := Eq.symm hp60; replace hp60b := Eq.symm hp60b; subst hp60; subst hp60b
              refine r_iast o (by decide) ia_23 jq rfl (by omega) (by decide) dX5_smooth_63 ?_
              refine r_iinc o (v := nI jq - 1) (lv' := [(2, .int (nI jq - 1)), (0, .ref (gad G 23)), (1, .int (nI mq)), (3, .int (smA fq jq mq)), (4, .int (nI iq))]) dX5_smooth_64 2 rfl (nI_decm _) (by decide) rfl ?_
              refine r_goto o (tgt := 3) dX5_smooth_67 (by decide) ?_
              exact r_to (mix_bk (by omega) rfl) [1, 2, 0] rfl (ih3 jq (by omega) (by omega))
            · skip
              rw [nI_leI (by omega) (by omega)] at hb15
              refine r_iload_n o dX5_smooth_18 3 rfl ?_
              refine r_ldc o mw_356 dX5_smooth_19 ?_
              refine r_icmp_eq o (tgt := 57) dX5_smooth_21 (by decide) (fun hb21 => ?_) (fun hb21 => ?_)
              · skip
                refine r_lv (lv' := [(0, .ref (gad G 23)), (1, .int (nI mq)), (2, .int (nI jq)), (3, .int (smA fq jq mq)), (4, .int (nI iq))]) (congrArg (fun zz => ([(0, .ref (gad G 23)), (1, .int (nI mq)), (2, .int (nI jq)), (3, .int zz), (4, .int (nI iq))] : List (Nat × Value))) (smA_stop hb21 (show iq ≤ mq by omega))) ?_
                refine r_aload_n o dX5_smooth_57 0 rfl ?_
                refine r_iload_n o dX5_smooth_58 2 rfl ?_
                refine r_iload_n o dX5_smooth_59 3 rfl ?_
                refine r_callSI o (As := [.int (smA fq jq mq)]) (st := [.int (nI jq), .ref (gad G 23)]) (c_X5_hold (xl X) G (sta σ 23 (mix (smF fq mq) fq (jq + 1) 24)) (smA fq jq mq)) om_X5_hold mw_361 mw_360 (by decide) rfl rfl (Nat.le_of_ble_eq_true rfl) dX5_smooth_60 (fun rr60 σσ60 hp60 => ?_)
                obtain ⟨hp60, hp60b⟩ := hp60; replace hp60 := Eq.symm hp60; replace hp60b := Eq.symm hp60b; subst hp60; subst hp60b
                refine r_iast o (by decide) ia_23 jq rfl (by omega) (by decide) dX5_smooth_63 ?_
                refine r_iinc o (v := nI jq - 1) (lv' := [(2, .int (nI jq - 1)), (0, .ref (gad G 23)), (1, .int (nI mq)), (3, .int (smA fq jq mq)), (4, .int (nI iq))]) dX5_smooth_64 2 rfl (nI_decm _) (by decide) rfl ?_
                refine r_goto o (tgt := 3) dX5_smooth_67 (by decide) ?_
                exact r_to (mix_bk (by omega) rfl) [1, 2, 0] rfl (ih3 jq (by omega) (by omega))
              · skip
                refine r_aload_n o dX5_smooth_24 0 rfl ?_
                refine r_iload_n o dX5_smooth_25 2 rfl ?_
                refine r_iload o dX5_smooth_26 4 rfl ?_
                refine r_isub o dX5_smooth_28 ?_
                refine r_callSI o (As := [.ref (gad G 23), .int ((nI jq) - (nI iq))]) (st := []) (c_X5_numberAt_23 (xl X) G (sta σ 23 (mix (smF fq mq) fq (jq + 1) 24)) (mix (smF fq mq) fq (jq + 1) 24) rfl ((nI jq) - (nI iq))) om_X5_numberAt mw_358 mw_357 (by decide) rfl rfl (Nat.le_of_ble_eq_true rfl) dX5_smooth_29 (fun rr29 σσ29 hp29 => ?_)
                obtain ⟨hp29, hp29b⟩ := hp29; replace hp29 := Eq.symm hp29; replace hp29b := Eq.symm hp29b; subst hp29; subst hp29b
                refine r_topi (y := atI fq (nI jq - nI iq)) (atI_dn (by omega) (by omega)) ?_
                refine r_istore o (lv' := [(5, .int (atI fq (nI jq - nI iq))), (0, .ref (gad G 23)), (1, .int (nI mq)), (2, .int (nI jq)), (3, .int (smA fq jq iq)), (4, .int (nI iq))]) dX5_smooth_32 (by decide) rfl ?_
                refine r_iload o dX5_smooth_34 0 rfl ?_
                refine r_ldc o mw_356 dX5_smooth_36 ?_
                refine r_icmp_ne o (tgt := 46) dX5_smooth_38 (by decide) (fun hb38 => ?_) (fun hb38 => ?_)
                · skip
                  refine r_iload_n o dX5_smooth_46 4 rfl ?_
                  refine r_iload o dX5_smooth_47 0 rfl ?_
                  refine r_iadd o dX5_smooth_49 ?_
                  refine r_topi (y := smA fq jq (iq + 1)) (smA_add hb21 hb38) ?_
                  refine r_istore_n o (lv' := [(3, .int (smA fq jq (iq + 1))), (5, .int (atI fq (nI jq - nI iq))), (0, .ref (gad G 23)), (1, .int (nI mq)), (2, .int (nI jq)), (4, .int (nI iq))]) dX5_smooth_50 (by decide) rfl ?_
                  refine r_iinc o (v := nI (iq + 1)) (lv' := [(4, .int (nI (iq + 1))), (3, .int (smA fq jq (iq + 1))), (5, .int (atI fq (nI jq - nI iq))), (0, .ref (gad G 23)), (1, .int (nI mq)), (2, .int (nI jq))]) dX5_smooth_51 5 rfl (nI_inc _) (by decide) rfl ?_
                  refine r_goto o (tgt := 12) dX5_smooth_54 (by decide) ?_
                  exact r_to rfl [3, 4, 5, 1, 0] rfl (ih12 (iq + 1) (by omega) (by omega))
                · skip
                  refine r_ldc o mw_356 dX5_smooth_41 ?_
                  refine r_goto o (tgt := 50) dX5_smooth_43 (by decide) ?_
                  refine r_topi (y := smA fq jq (iq + 1)) (smA_gp hb21 hb38) ?_
                  refine r_istore_n o (lv' := [(3, .int (smA fq jq (iq + 1))), (5, .int (atI fq (nI jq - nI iq))), (0, .ref (gad G 23)), (1, .int (nI mq)), (2, .int (nI jq)), (4, .int (nI iq))]) dX5_smooth_50 (by decide) rfl ?_
                  refine r_iinc o (v := nI (iq + 1)) (lv' := [(4, .int (nI (iq + 1))), (3, .int (smA fq jq (iq + 1))), (5, .int (atI fq (nI jq - nI iq))), (0, .ref (gad G 23)), (1, .int (nI mq)), (2, .int (nI jq))]) dX5_smooth_51 5 rfl (nI_inc _) (by decide) rfl ?_
                  refine r_goto o (tgt := 12) dX5_smooth_54 (by decide) ?_
                  exact r_to rfl [3, 4, 5, 1, 0] rfl (ih12 (iq + 1) (by omega) (by omega))
        exact r_to rfl [2, 3, 4, 1, 0] rfl (L12 _ 0 (Nat.zero_le _) (Nat.lt_succ_self _))
  refine r_lv (lv' := [(2, .int (nI 24 - 1)), (0, .ref (gad G 23)), (1, .int (nI mq))]) (congrArg (fun zz => ([(2, .int zz), (0, .ref (gad G 23)), (1, .int (nI mq))] : List (Nat × Value))) (show nI 23 = nI 24 - 1 by decide)) ?_
  exact r_to (by rw [mix_nil]; exact sta_id hfq) [1, 2, 0] rfl (L3 _ 24 (by omega) (Nat.lt_succ_self _))
set_option maxHeartbeats 4000000 in
set_option maxRecDepth 100000 in
theorem c_X5_turn_23 (l : Launch) (G : Gl) (σ : Sto) (fq : Nat → Int32) (hfq : (σ 23).1 = fq) (mq : Nat) (hmq : mq ≤ 23) : CtV l G yX5_turn cX5_turn 3 none 1 21 [.ref (gad G 23), .int (nI mq)] σ (fun σ' => σ' = sta σ 23 (mix (trnF fq) fq mq 24)) := by
  refine CtV.of (by decide +kernel) (Nat.le_of_ble_eq_true rfl) (fun X o q => ?_)
  show WS X G 3 σ 0 [(0, .ref (gad G 23)), (1, .int (nI mq))] []
  refine r_iconst o (v := nI 0) dX5_turn_0 (by decide) ?_
  refine r_iload_n o dX5_turn_1 1 rfl ?_
  refine r_max o (mw 366 (by decide +kernel) (by decide +kernel)) (mw 367 (by decide +kernel) (by decide +kernel)) (mw 47 (by decide +kernel) (by decide +kernel)) (mw 368 (by decide +kernel) (by decide +kernel)) (by decide) (Nat.le_of_ble_eq_true rfl) dX5_turn_2 ?_
  refine r_topi (y := nI mq) (max0 (by omega)) ?_
  refine r_istore_n o (lv' := [(2, .int (nI mq)), (0, .ref (gad G 23)), (1, .int (nI mq))]) dX5_turn_5 (by decide) rfl ?_
  have L6 : ∀ (n : Nat) (kq : Nat) (hkq : mq ≤ kq ∧ kq ≤ 24), 24 - kq < n → WS X G 3 (sta σ 23 (mix (trnF fq) fq mq kq)) 6 [(0, .ref (gad G 23)), (1, .int (nI mq)), (2, .int (nI kq))] [] := by
    intro n
    induction n with
    | zero => intro kq hkq hm; exact absurd hm (Nat.not_lt_zero _)
    | succ n ih6 =>
      intro kq hkq hm
      refine r_iload_n o dX5_turn_6 2 rfl ?_
      refine r_bipush o (v := nI 24) dX5_turn_7 (by decide) ?_
      refine r_icmp_ge o (tgt := 33) dX5_turn_9 (by decide) (fun hb9 => ?_) (fun hb9 => ?_)
      · skip
        rw [nI_leI (by omega) (by omega)] at hb9
        obtain rfl : kq = 24 := by omega
        exact r_return o q dX5_turn_33 rfl
      · skip
        rw [nI_leI (by omega) (by omega)] at hb9
        refine r_aload_n o dX5_turn_12 0 rfl ?_
        refine r_iload_n o dX5_turn_13 2 rfl ?_
        refine r_ia (σ := sta σ 23 (mix (trnF fq) fq mq kq)) o (by decide) ia_23 (f := mix (trnF fq) fq mq kq) rfl kq rfl (by omega) (by decide) dX5_turn_14 ?_
        refine r_topi (y := fq kq) (mix_hi (Nat.le_refl _)) ?_
        refine r_ldc o mw_356 dX5_turn_15 ?_
        refine r_icmp_eq o (tgt := 27) dX5_turn_17 (by decide) (fun hb17 => ?_) (fun hb17 => ?_)
        · skip
          refine r_iinc o (v := nI (kq + 1)) (lv' := [(2, .int (nI (kq + 1))), (0, .ref (gad G 23)), (1, .int (nI mq))]) dX5_turn_27 2 rfl (nI_inc _) (by decide) rfl ?_
          refine r_goto o (tgt := 6) dX5_turn_30 (by decide) ?_
          exact r_to (congrArg (sta σ 23) (mix_skip (by unfold trnF; rw [if_pos hb17]))) [1, 2, 0] rfl (ih6 (kq + 1) (by omega) (by omega))
        · skip
          refine r_aload_n o dX5_turn_20 0 rfl ?_
          refine r_iload_n o dX5_turn_21 2 rfl ?_
          refine r_aload_n o dX5_turn_22 0 rfl ?_
          refine r_iload_n o dX5_turn_23 2 rfl ?_
          refine r_ia (σ := sta σ 23 (mix (trnF fq) fq mq kq)) o (by decide) ia_23 (f := mix (trnF fq) fq mq kq) rfl kq rfl (by omega) (by decide) dX5_turn_24 ?_
          refine r_topi (y := fq kq) (mix_hi (Nat.le_refl _)) ?_
          refine r_ineg o dX5_turn_25 ?_
          refine r_iast o (by decide) ia_23 kq rfl (by omega) (by decide) dX5_turn_26 ?_
          refine r_iinc o (v := nI (kq + 1)) (lv' := [(2, .int (nI (kq + 1))), (0, .ref (gad G 23)), (1, .int (nI mq))]) dX5_turn_27 2 rfl (nI_inc _) (by decide) rfl ?_
          refine r_goto o (tgt := 6) dX5_turn_30 (by decide) ?_
          exact r_to (mix_fw (by omega) (by unfold trnF; rw [if_neg hb17])) [1, 2, 0] rfl (ih6 (kq + 1) (by omega) (by omega))
  exact r_to (by rw [mix_nil]; exact sta_id hfq) [1, 2, 0] rfl (L6 _ mq (by omega) (Nat.lt_succ_self _))
set_option maxHeartbeats 4000000 in
set_option maxRecDepth 100000 in
theorem c_X5_cut_23 (l : Launch) (G : Gl) (σ : Sto) (fq : Nat → Int32) (hfq : (σ 23).1 = fq) (mq : Nat) (nq : Nat) (hmq : mq ≤ 23 ∧ nq ≤ 23) : CtV l G yX5_cut cX5_cut 4 none 1 22 [.ref (gad G 23), .int (nI mq), .int (nI nq)] σ (fun σ' => σ' = sta σ 23 (mix (cutF fq mq nq) fq 0 24)) := by
  refine CtV.of (by decide +kernel) (Nat.le_of_ble_eq_true rfl) (fun X o q => ?_)
  show WS X G 4 σ 0 [(0, .ref (gad G 23)), (1, .int (nI mq)), (2, .int (nI nq))] []
  refine r_iconst o (v := nI 0) dX5_cut_0 (by decide) ?_
  refine r_istore_n o (lv' := [(3, .int (nI 0)), (0, .ref (gad G 23)), (1, .int (nI mq)), (2, .int (nI nq))]) dX5_cut_1 (by decide) rfl ?_
  have L2 : ∀ (n : Nat) (kq : Nat) (hkq : kq ≤ 24), 24 - kq < n → WS X G 4 (sta σ 23 (mix (cutF fq mq nq) fq 0 kq)) 2 [(0, .ref (gad G 23)), (1, .int (nI mq)), (2, .int (nI nq)), (3, .int (nI kq))] [] := by
    intro n
    induction n with
    | zero => intro kq hkq hm; exact absurd hm (Nat.not_lt_zero _)
    | succ n ih2 =>
      intro kq hkq hm
      refine r_iload_n o dX5_cut_2 3 rfl ?_
      refine r_bipush o (v := nI 24) dX5_cut_3 (by decide) ?_
      refine r_icmp_ge o (tgt := 28) dX5_cut_5 (by decide) (fun hb5 => ?_) (fun hb5 => ?_)
      · skip
        rw [nI_leI (by omega) (by omega)] at hb5
        obtain rfl : kq = 24 := by omega
        exact r_return o q dX5_cut_28 rfl
      · skip
        rw [nI_leI (by omega) (by omega)] at hb5
        refine r_iload_n o dX5_cut_8 3 rfl ?_
        refine r_iload_n o dX5_cut_9 1 rfl ?_
        refine r_iload_n o dX5_cut_10 2 rfl ?_
        refine r_callNI o (As := [.int (nI kq), .int (nI mq), .int (nI nq)]) (st := []) (c_X9_isWithin (xl X) G (sta σ 23 (mix (cutF fq mq nq) fq 0 kq)) (nI kq) (nI mq) (nI nq)) om_X9_isWithin mw_278 mw_328 (by decide) rfl rfl (Nat.le_of_ble_eq_true rfl) dX5_cut_11 (fun rr11 σσ11 hp11 => ?_)
        obtain ⟨hp11, hp11b⟩ := hp11; replace hp11 := Eq.symm hp11; replace hp11b := Eq.symm hp11b; subst hp11; subst hp11b
        refine r_if_ne o (tgt := 22) dX5_cut_14 (by decide) (fun hb14 => ?_) (fun hb14 => ?_)
        · skip
          rw [b01_ne0] at hb14
          rw [inB_N (by omega) (by omega) (by omega), Bool.and_eq_true, decide_eq_true_eq, decide_eq_true_eq] at hb14
          refine r_iinc o (v := nI (kq + 1)) (lv' := [(3, .int (nI (kq + 1))), (0, .ref (gad G 23)), (1, .int (nI mq)), (2, .int (nI nq))]) dX5_cut_22 3 rfl (nI_inc _) (by decide) rfl ?_
          refine r_goto o (tgt := 2) dX5_cut_25 (by decide) ?_
          exact r_to (congrArg (sta σ 23) (mix_skip (by unfold cutF; rw [if_pos (by omega)]))) [1, 2, 3, 0] rfl (ih2 (kq + 1) (by omega) (by omega))
        · skip
          rw [b01_eq0] at hb14
          rw [inB_N (by omega) (by omega) (by omega)] at hb14
          simp at hb14
          refine r_aload_n o dX5_cut_17 0 rfl ?_
          refine r_iload_n o dX5_cut_18 3 rfl ?_
          refine r_ldc o mw_356 dX5_cut_19 ?_
          refine r_iast o (by decide) ia_23 kq rfl (by omega) (by decide) dX5_cut_21 ?_
          refine r_iinc o (v := nI (kq + 1)) (lv' := [(3, .int (nI (kq + 1))), (0, .ref (gad G 23)), (1, .int (nI mq)), (2, .int (nI nq))]) dX5_cut_22 3 rfl (nI_inc _) (by decide) rfl ?_
          refine r_goto o (tgt := 2) dX5_cut_25 (by decide) ?_
          exact r_to (mix_fw (by omega) (by unfold cutF; rw [if_neg (by omega)])) [1, 2, 3, 0] rfl (ih2 (kq + 1) (by omega) (by omega))
  exact r_to (by rw [mix_nil]; exact sta_id hfq) [1, 2, 3, 0] rfl (L2 _ 0 (by omega) (Nat.lt_succ_self _))
set_option maxHeartbeats 4000000 in
set_option maxRecDepth 100000 in
theorem c_X5_differ_23 (l : Launch) (G : Gl) (σ : Sto) (fq : Nat → Int32) (hfq : (σ 23).1 = fq) : CtV l G yX5_differ cX5_differ 4 none 2 41 [.ref (gad G 23)] σ (fun σ' => σ' = sta σ 23 (mix (difF fq) fq 0 24)) := by
  refine CtV.of (by decide +kernel) (Nat.le_of_ble_eq_true rfl) (fun X o q => ?_)
  show WS X G 4 σ 0 [(0, .ref (gad G 23))] []
  refine r_bipush o (v := nI 23) dX5_differ_0 (by decide) ?_
  refine r_istore_n o (lv' := [(1, .int (nI 23)), (0, .ref (gad G 23))]) dX5_differ_2 (by decide) rfl ?_
  have L3 : ∀ (n : Nat) (kq : Nat) (hkq : kq ≤ 24), kq < n → WS X G 4 (sta σ 23 (mix (difF fq) fq kq 24)) 3 [(0, .ref (gad G 23)), (1, .int (nI kq - 1))] [] := by
    intro n
    induction n with
    | zero => intro kq hkq hm; exact absurd hm (Nat.not_lt_zero _)
    | succ n ih3 =>
      intro kq hkq hm
      refine r_iload_n o dX5_differ_3 1 rfl ?_
      refine r_if_lt o (tgt := 61) dX5_differ_4 (by decide) (fun hb4 => ?_) (fun hb4 => ?_)
      · skip
        rw [nI_lt1 (by omega)] at hb4
        subst hb4
        exact r_return o q dX5_differ_61 rfl
      · skip
        rw [nI_lt1 (by omega)] at hb4
        obtain ⟨jq, rfl⟩ : ∃ zq, kq = zq + 1 := ⟨kq - 1, by omega⟩
        refine r_lv (lv' := [(0, .ref (gad G 23)), (1, .int (nI jq))]) (congrArg (fun zz => ([(0, .ref (gad G 23)), (1, .int zz)] : List (Nat × Value))) (nI_pred _)) ?_
        refine r_aload_n o dX5_differ_7 0 rfl ?_
        refine r_iload_n o dX5_differ_8 1 rfl ?_
        refine r_iconst o (v := nI 1) dX5_differ_9 (by decide) ?_
        refine r_isub o dX5_differ_10 ?_
        refine r_callSI o (As := [.ref (gad G 23), .int ((nI jq) - (nI 1))]) (st := []) (c_X5_numberAt_23 (xl X) G (sta σ 23 (mix (difF fq) fq (jq + 1) 24)) (mix (difF fq) fq (jq + 1) 24) rfl ((nI jq) - (nI 1))) om_X5_numberAt mw_358 mw_357 (by decide) rfl rfl (Nat.le_of_ble_eq_true rfl) dX5_differ_11 (fun rr11 σσ11 hp11 => ?_)
        obtain ⟨hp11, hp11b⟩ := hp11; replace hp11 := Eq.symm hp11; replace hp11b := Eq.symm hp11b; subst hp11; subst hp11b
        refine r_topi (y := atI fq (nI jq - nI 1)) (atI_dn (by omega) (by omega)) ?_
        refine r_istore_n o (lv' := [(2, .int (atI fq (nI jq - nI 1))), (0, .ref (gad G 23)), (1, .int (nI jq))]) dX5_differ_14 (by decide) rfl ?_
        refine r_aload_n o dX5_differ_15 1 rfl ?_
        refine r_iload_n o dX5_differ_16 2 rfl ?_
        refine r_ia (σ := sta σ 23 (mix (difF fq) fq (jq + 1) 24)) o (by decide) ia_23 (f := mix (difF fq) fq (jq + 1) 24) rfl jq rfl (by omega) (by decide) dX5_differ_17 ?_
        refine r_topi (y := fq jq) (mix_lo (by omega)) ?_
        refine r_ldc o mw_356 dX5_differ_18 ?_
        refine r_icmp_eq o (tgt := 33) dX5_differ_20 (by decide) (fun hb20 => ?_) (fun hb20 => ?_)
        · skip
          refine r_iconst o (v := nI 0) dX5_differ_33 (by decide) ?_
          refine r_istore_n o (lv' := [(3, .int (nI 0)), (2, .int (atI fq (nI jq - nI 1))), (0, .ref (gad G 23)), (1, .int (nI jq))]) dX5_differ_34 (by decide) rfl ?_
          refine r_aload_n o dX5_differ_35 2 rfl ?_
          refine r_iload_n o dX5_differ_36 3 rfl ?_
          refine r_iload_n o dX5_differ_37 0 rfl ?_
          refine r_if_eq o (tgt := 52) dX5_differ_38 (by decide) (fun hb38 => ?_) (fun hb38 => ?_)
          · skip
            refine r_ldc o mw_356 dX5_differ_52 ?_
            refine r_iast o (by decide) ia_23 jq rfl (by omega) (by decide) dX5_differ_54 ?_
            refine r_iinc o (v := nI jq - 1) (lv' := [(1, .int (nI jq - 1)), (3, .int (nI 0)), (2, .int (atI fq (nI jq - nI 1))), (0, .ref (gad G 23))]) dX5_differ_55 3 rfl (nI_decm _) (by decide) rfl ?_
            refine r_goto o (tgt := 3) dX5_differ_58 (by decide) ?_
            exact r_to (mix_bk (by omega) (by unfold difF; first | (rw [if_pos hb20]) | (rw [if_neg hb20, if_pos hb26]) | (rw [if_neg hb20, if_neg hb26]))) [3, 0] rfl (ih3 jq (by omega) (by omega))
          · exact absurd hb38 (by decide)
        · skip
          refine r_iload_n o dX5_differ_23 0 rfl ?_
          refine r_ldc o mw_356 dX5_differ_24 ?_
          refine r_icmp_eq o (tgt := 33) dX5_differ_26 (by decide) (fun hb26 => ?_) (fun hb26 => ?_)
          · skip
            refine r_iconst o (v := nI 0) dX5_differ_33 (by decide) ?_
            refine r_istore_n o (lv' := [(3, .int (nI 0)), (2, .int (atI fq (nI jq - nI 1))), (0, .ref (gad G 23)), (1, .int (nI jq))]) dX5_differ_34 (by decide) rfl ?_
            refine r_aload_n o dX5_differ_35 2 rfl ?_
            refine r_iload_n o dX5_differ_36 3 rfl ?_
            refine r_iload_n o dX5_differ_37 0 rfl ?_
            refine r_if_eq o (tgt := 52) dX5_differ_38 (by decide) (fun hb38 => ?_) (fun hb38 => ?_)
            · skip
              refine r_ldc o mw_356 dX5_differ_52 ?_
              refine r_iast o (by decide) ia_23 jq rfl (by omega) (by decide) dX5_differ_54 ?_
              refine r_iinc o (v := nI jq - 1) (lv' := [(1, .int (nI jq - 1)), (3, .int (nI 0)), (2, .int (atI fq (nI jq - nI 1))), (0, .ref (gad G 23))]) dX5_differ_55 3 rfl (nI_decm _) (by decide) rfl ?_
              refine r_goto o (tgt := 3) dX5_differ_58 (by decide) ?_
              exact r_to (mix_bk (by omega) (by unfold difF; first | (rw [if_pos hb20]) | (rw [if_neg hb20, if_pos hb26]) | (rw [if_neg hb20, if_neg hb26]))) [3, 0] rfl (ih3 jq (by omega) (by omega))
            · exact absurd hb38 (by decide)
          · skip
            refine r_iconst o (v := nI 1) dX5_differ_29 (by decide) ?_
            refine r_goto o (tgt := 34) dX5_differ_30 (by decide) ?_
            refine r_istore_n o (lv' := [(3, .int (nI 1)), (2, .int (atI fq (nI jq - nI 1))), (0, .ref (gad G 23)), (1, .int (nI jq))]) dX5_differ_34 (by decide) rfl ?_
            refine r_aload_n o dX5_differ_35 2 rfl ?_
            refine r_iload_n o dX5_differ_36 3 rfl ?_
            refine r_iload_n o dX5_differ_37 0 rfl ?_
            refine r_if_eq o (tgt := 52) dX5_differ_38 (by decide) (fun hb38 => ?_) (fun hb38 => ?_)
            · exact absurd hb38 (by decide)
            · skip
              refine r_aload_n o dX5_differ_41 2 rfl ?_
              refine r_iload_n o dX5_differ_42 3 rfl ?_
              refine r_ia (σ := sta σ 23 (mix (difF fq) fq (jq + 1) 24)) o (by decide) ia_23 (f := mix (difF fq) fq (jq + 1) 24) rfl jq rfl (by omega) (by decide) dX5_differ_43 ?_
              refine r_topi (y := fq jq) (mix_lo (by omega)) ?_
              refine r_iload_n o dX5_differ_44 1 rfl ?_
              refine r_isub o dX5_differ_45 ?_
              refine r_callSI o (As := [.int ((fq jq) - (atI fq (nI jq - nI 1)))]) (st := [.int (nI jq), .ref (gad G 23)]) (c_X5_hold (xl X) G (sta σ 23 (mix (difF fq) fq (jq + 1) 24)) ((fq jq) - (atI fq (nI jq - nI 1)))) om_X5_hold mw_361 mw_360 (by decide) rfl rfl (Nat.le_of_ble_eq_true rfl) dX5_differ_46 (fun rr46 σσ46 hp46 => ?_)
              obtain ⟨hp46, hp46b⟩ := hp46; replace hp46 := Eq.symm hp46; replace hp46b := Eq.symm hp46b; subst hp46; subst hp46b
              refine r_goto o (tgt := 54) dX5_differ_49 (by decide) ?_
              refine r_iast o (by decide) ia_23 jq rfl (by omega) (by decide) dX5_differ_54 ?_
              refine r_iinc o (v := nI jq - 1) (lv' := [(1, .int (nI jq - 1)), (3, .int (nI 1)), (2, .int (atI fq (nI jq - nI 1))), (0, .ref (gad G 23))]) dX5_differ_55 3 rfl (nI_decm _) (by decide) rfl ?_
              refine r_goto o (tgt := 3) dX5_differ_58 (by decide) ?_
              exact r_to (mix_bk (by omega) (by unfold difF; first | (rw [if_pos hb20]) | (rw [if_neg hb20, if_pos hb26]) | (rw [if_neg hb20, if_neg hb26]))) [3, 0] rfl (ih3 jq (by omega) (by omega))
  refine r_lv (lv' := [(1, .int (nI 24 - 1)), (0, .ref (gad G 23))]) (congrArg (fun zz => ([(1, .int zz), (0, .ref (gad G 23))] : List (Nat × Value))) (show nI 23 = nI 24 - 1 by decide)) ?_
  exact r_to (by rw [mix_nil]; exact sta_id hfq) [1, 0] rfl (L3 _ 24 (by omega) (Nat.lt_succ_self _))
set_option maxHeartbeats 4000000 in
set_option maxRecDepth 100000 in
theorem c_X5_work_23 (l : Launch) (G : Gl) (σ : Sto) (sn : Nat → Nat) (cntq : Nat) (hp : PadO σ sn cntq) (fq : Nat → Int32) (hfq : (σ 23).1 = fq) (aq : Nat) (dgq : Nat) (haq : aq < cntq) (hdq : digs (sn aq) = some dgq) (hokq : ∀ jq, 1 ≤ jq → jq ≤ dgq → aq + jq < cntq ∧ canS sn aq jq = true) : CtV l G yX5_work cX5_work 3 none 3 66 [.ref (gad G 1), .int (nI aq), .ref (gad G 23)] σ (fun σ' => σ' = sta σ 23 (stepF sn aq fq)) := by
  refine CtV.of (by decide +kernel) (Nat.le_of_ble_eq_true rfl) (fun X o q => ?_)
  show WS X G 3 σ 0 [(0, .ref (gad G 1)), (1, .int (nI aq)), (2, .ref (gad G 23))] []
  obtain ⟨hcq, hcnt, hsg, hsn⟩ := id hp
  have hsaq := hsn aq
  refine r_aload_n o dX5_work_0 0 rfl ?_
  refine gf_1_0 o mw_66 dX5_work_1 ?_
  refine r_iload_n o dX5_work_4 1 rfl ?_
  refine r_ia o (by decide) ia_19 (f := (σ 19).1) rfl aq rfl (by omega) (by decide) dX5_work_5 ?_
  refine r_topi (y := nI (sn aq)) (hsg _ (by omega)) ?_
  by_cases hs6_99 : sn aq = 99
  · skip
    refine r_topi (y := nI 99) (by rw [hs6_99]) ?_
    refine r_lookup o (off := 92) (tgt := 98) dX5_work_6 (by decide) (by decide) (by decide) ?_
    obtain rfl := dgs_c hs6_99 hdq
    obtain ⟨hc1, hs1⟩ := hokq 1 (by omega) (by omega); have hg1 := canS_dig hs1; have hn1 := hsn (aq + 1)
    obtain ⟨hc2, hs2⟩ := hokq 2 (by omega) (by omega); have hg2 := canS_dig hs2; have hn2 := hsn (aq + 2)
    obtain ⟨hc3, hs3⟩ := hokq 3 (by omega) (by omega); have hg3 := canS_dig hs3; have hn3 := hsn (aq + 3)
    obtain ⟨hc4, hs4⟩ := hokq 4 (by omega) (by omega); have hg4 := canS_dig hs4; have hn4 := hsn (aq + 4)
    have he1 : sn (aq + 1 + 1) = sn (aq + 2) := rfl
    have he3 : sn (aq + 3 + 1) = sn (aq + 4) := rfl
    have hy1 := canC2 sn aq hs6_99 hs2
    have hy2 := canC4 sn aq hs6_99 hs4
    refine r_aload_n o dX5_work_98 2 rfl ?_
    refine r_aload_n o dX5_work_99 0 rfl ?_
    refine r_iload_n o dX5_work_100 1 rfl ?_
    refine r_iconst o (v := nI 1) dX5_work_101 (by decide) ?_
    refine r_iadd o dX5_work_102 ?_
    refine r_topi (y := nI (aq + 1)) (nI_add' _ _) ?_
    refine r_callVI o (As := [.int (nI (aq + 1))]) (st := [.ref (gad G 23)]) (c_X5_twoDigitsAt (xl X) G σ sn cntq hp (aq + 1) (by omega)) om_X5_twoDigitsAt mw_335 mw_3 mw_333 (by decide) rfl rfl rfl (by decide) rfl rfl (Nat.le_of_ble_eq_true rfl) dX5_work_103 (fun rr103 σσ103 hp103 => ?_)
    obtain ⟨hp103, hp103b⟩ := hp103; replace hp103 := Eq.symm hp103; replace hp103b := Eq.symm hp103b; subst hp103; subst hp103b
    refine r_topi (y := nI (twoN sn (aq + 1))) (by rw [digI_ok (by omega) (by omega) (by omega), digI_ok (by omega) (by omega) (by omega), nI_mul', nI_add']; rfl) ?_
    refine r_aload_n o dX5_work_106 0 rfl ?_
    refine r_iload_n o dX5_work_107 1 rfl ?_
    refine r_iconst o (v := nI 3) dX5_work_108 (by decide) ?_
    refine r_iadd o dX5_work_109 ?_
    refine r_topi (y := nI (aq + 3)) (nI_add' _ _) ?_
    refine r_callVI o (As := [.int (nI (aq + 3))]) (st := [.int (nI (twoN sn (aq + 1))), .ref (gad G 23)]) (c_X5_twoDigitsAt (xl X) G σ sn cntq hp (aq + 3) (by omega)) om_X5_twoDigitsAt mw_335 mw_3 mw_333 (by decide) rfl rfl rfl (by decide) rfl rfl (Nat.le_of_ble_eq_true rfl) dX5_work_110 (fun rr110 σσ110 hp110 => ?_)
    obtain ⟨hp110, hp110b⟩ := hp110; replace hp110 := Eq.symm hp110; replace hp110b := Eq.symm hp110b; subst hp110; subst hp110b
    refine r_topi (y := nI (twoN sn (aq + 3))) (by rw [digI_ok (by omega) (by omega) (by omega), digI_ok (by omega) (by omega) (by omega), nI_mul', nI_add']; rfl) ?_
    refine r_callSV o (As := [.ref (gad G 23), .int (nI (twoN sn (aq + 1))), .int (nI (twoN sn (aq + 3)))]) (st := []) (c_X5_cut_23 (xl X) G σ fq hfq (twoN sn (aq + 1)) (twoN sn (aq + 3)) (⟨hy1, hy2.2⟩)) om_X5_cut mw_376 mw_375 (by decide) rfl rfl (Nat.le_of_ble_eq_true rfl) dX5_work_113 (fun σσ113 hp113 => ?_)
    replace hp113 := Eq.symm hp113; subst hp113
    refine r_goto o (tgt := 126) dX5_work_116 (by decide) ?_
    exact r_return o q dX5_work_126 (by unfold stepF; first | (rw [if_pos hs6_115]) | (rw [if_neg hs6_115, if_pos hs6_108]) | (rw [if_neg (by omega), if_pos hs6_108]) | (rw [if_neg (by omega), if_neg (by omega), if_pos hs6_116]) | (rw [if_neg (by omega), if_neg (by omega), if_neg (by omega), if_pos hs6_99]) | (rw [if_neg (by omega), if_neg (by omega), if_neg (by omega), if_neg (by omega), if_pos hs6_100]))
  by_cases hs6_100 : sn aq = 100
  · skip
    refine r_topi (y := nI 100) (by rw [hs6_100]) ?_
    refine r_lookup o (off := 113) (tgt := 119) dX5_work_6 (by decide) (by decide) (by decide) ?_
    refine r_aload_n o dX5_work_119 2 rfl ?_
    refine r_callSV o (As := [.ref (gad G 23)]) (st := []) (c_X5_differ_23 (xl X) G σ fq hfq) om_X5_differ mw_379 mw_378 (by decide) rfl rfl (Nat.le_of_ble_eq_true rfl) dX5_work_120 (fun σσ120 hp120 => ?_)
    replace hp120 := Eq.symm hp120; subst hp120
    refine r_goto o (tgt := 126) dX5_work_123 (by decide) ?_
    exact r_return o q dX5_work_126 (by unfold stepF; first | (rw [if_pos hs6_115]) | (rw [if_neg hs6_115, if_pos hs6_108]) | (rw [if_neg (by omega), if_pos hs6_108]) | (rw [if_neg (by omega), if_neg (by omega), if_pos hs6_116]) | (rw [if_neg (by omega), if_neg (by omega), if_neg (by omega), if_pos hs6_99]) | (rw [if_neg (by omega), if_neg (by omega), if_neg (by omega), if_neg (by omega), if_pos hs6_100]))
  by_cases hs6_108 : sn aq = 108
  · skip
    refine r_topi (y := nI 108) (by rw [hs6_108]) ?_
    refine r_lookup o (off := 64) (tgt := 70) dX5_work_6 (by decide) (by decide) (by decide) ?_
    obtain rfl := dgs_l hs6_108 hdq
    obtain ⟨hc1, hs1⟩ := hokq 1 (by omega) (by omega); have hg1 := canS_dig hs1; have hn1 := hsn (aq + 1)
    refine r_aload_n o dX5_work_70 2 rfl ?_
    refine r_aload_n o dX5_work_71 0 rfl ?_
    refine r_iload_n o dX5_work_72 1 rfl ?_
    refine r_iconst o (v := nI 1) dX5_work_73 (by decide) ?_
    refine r_iadd o dX5_work_74 ?_
    refine r_topi (y := nI (aq + 1)) (nI_add' _ _) ?_
    refine r_callVI o (As := [.int (nI (aq + 1))]) (st := [.ref (gad G 23)]) (c_X5_digitAt (xl X) G σ sn cntq hp (aq + 1) (by omega)) om_X5_digitAt mw_326 mw_1 mw_324 (by decide) rfl rfl rfl (by decide) rfl rfl (Nat.le_of_ble_eq_true rfl) dX5_work_75 (fun rr75 σσ75 hp75 => ?_)
    obtain ⟨hp75, hp75b⟩ := hp75; replace hp75 := Eq.symm hp75; replace hp75b := Eq.symm hp75b; subst hp75; subst hp75b
    refine r_topi (y := nI (sn (aq + 1) - 48)) (digI_ok (by omega) (by omega) (by omega)) ?_
    refine r_callSV o (As := [.ref (gad G 23), .int (nI (sn (aq + 1) - 48))]) (st := []) (c_X5_lag_23 (xl X) G σ fq hfq (sn (aq + 1) - 48) (by omega)) om_X5_lag mw_370 mw_369 (by decide) rfl rfl (Nat.le_of_ble_eq_true rfl) dX5_work_78 (fun σσ78 hp78 => ?_)
    replace hp78 := Eq.symm hp78; subst hp78
    refine r_goto o (tgt := 126) dX5_work_81 (by decide) ?_
    exact r_return o q dX5_work_126 (by unfold stepF; first | (rw [if_pos hs6_115]) | (rw [if_neg hs6_115, if_pos hs6_108]) | (rw [if_neg (by omega), if_pos hs6_108]) | (rw [if_neg (by omega), if_neg (by omega), if_pos hs6_116]) | (rw [if_neg (by omega), if_neg (by omega), if_neg (by omega), if_pos hs6_99]) | (rw [if_neg (by omega), if_neg (by omega), if_neg (by omega), if_neg (by omega), if_pos hs6_100]))
  by_cases hs6_115 : sn aq = 115
  · skip
    refine r_topi (y := nI 115) (by rw [hs6_115]) ?_
    refine r_lookup o (off := 50) (tgt := 56) dX5_work_6 (by decide) (by decide) (by decide) ?_
    obtain rfl := dgs_s hs6_115 hdq
    obtain ⟨hc1, hs1⟩ := hokq 1 (by omega) (by omega); have hg1 := canS_dig hs1; have hn1 := hsn (aq + 1)
    refine r_aload_n o dX5_work_56 2 rfl ?_
    refine r_aload_n o dX5_work_57 0 rfl ?_
    refine r_iload_n o dX5_work_58 1 rfl ?_
    refine r_iconst o (v := nI 1) dX5_work_59 (by decide) ?_
    refine r_iadd o dX5_work_60 ?_
    refine r_topi (y := nI (aq + 1)) (nI_add' _ _) ?_
    refine r_callVI o (As := [.int (nI (aq + 1))]) (st := [.ref (gad G 23)]) (c_X5_digitAt (xl X) G σ sn cntq hp (aq + 1) (by omega)) om_X5_digitAt mw_326 mw_1 mw_324 (by decide) rfl rfl rfl (by decide) rfl rfl (Nat.le_of_ble_eq_true rfl) dX5_work_61 (fun rr61 σσ61 hp61 => ?_)
    obtain ⟨hp61, hp61b⟩ := hp61; replace hp61 := Eq.symm hp61; replace hp61b := Eq.symm hp61b; subst hp61; subst hp61b
    refine r_topi (y := nI (sn (aq + 1) - 48)) (digI_ok (by omega) (by omega) (by omega)) ?_
    refine r_callSV o (As := [.ref (gad G 23), .int (nI (sn (aq + 1) - 48))]) (st := []) (c_X5_smooth_23 (xl X) G σ fq hfq (sn (aq + 1) - 48) (by omega)) om_X5_smooth mw_354 mw_353 (by decide) rfl rfl (Nat.le_of_ble_eq_true rfl) dX5_work_64 (fun σσ64 hp64 => ?_)
    replace hp64 := Eq.symm hp64; subst hp64
    refine r_goto o (tgt := 126) dX5_work_67 (by decide) ?_
    exact r_return o q dX5_work_126 (by unfold stepF; first | (rw [if_pos hs6_115]) | (rw [if_neg hs6_115, if_pos hs6_108]) | (rw [if_neg (by omega), if_pos hs6_108]) | (rw [if_neg (by omega), if_neg (by omega), if_pos hs6_116]) | (rw [if_neg (by omega), if_neg (by omega), if_neg (by omega), if_pos hs6_99]) | (rw [if_neg (by omega), if_neg (by omega), if_neg (by omega), if_neg (by omega), if_pos hs6_100]))
  by_cases hs6_116 : sn aq = 116
  · skip
    refine r_topi (y := nI 116) (by rw [hs6_116]) ?_
    refine r_lookup o (off := 78) (tgt := 84) dX5_work_6 (by decide) (by decide) (by decide) ?_
    obtain rfl := dgs_t hs6_116 hdq
    obtain ⟨hc1, hs1⟩ := hokq 1 (by omega) (by omega); have hg1 := canS_dig hs1; have hn1 := hsn (aq + 1)
    obtain ⟨hc2, hs2⟩ := hokq 2 (by omega) (by omega); have hg2 := canS_dig hs2; have hn2 := hsn (aq + 2)
    have he1 : sn (aq + 1 + 1) = sn (aq + 2) := rfl
    have hy1 := canT sn aq hs6_116 hs2
    refine r_aload_n o dX5_work_84 2 rfl ?_
    refine r_aload_n o dX5_work_85 0 rfl ?_
    refine r_iload_n o dX5_work_86 1 rfl ?_
    refine r_iconst o (v := nI 1) dX5_work_87 (by decide) ?_
    refine r_iadd o dX5_work_88 ?_
    refine r_topi (y := nI (aq + 1)) (nI_add' _ _) ?_
    refine r_callVI o (As := [.int (nI (aq + 1))]) (st := [.ref (gad G 23)]) (c_X5_twoDigitsAt (xl X) G σ sn cntq hp (aq + 1) (by omega)) om_X5_twoDigitsAt mw_335 mw_3 mw_333 (by decide) rfl rfl rfl (by decide) rfl rfl (Nat.le_of_ble_eq_true rfl) dX5_work_89 (fun rr89 σσ89 hp89 => ?_)
    obtain ⟨hp89, hp89b⟩ := hp89; replace hp89 := Eq.symm hp89; replace hp89b := Eq.symm hp89b; subst hp89; subst hp89b
    refine r_topi (y := nI (twoN sn (aq + 1))) (by rw [digI_ok (by omega) (by omega) (by omega), digI_ok (by omega) (by omega) (by omega), nI_mul', nI_add']; rfl) ?_
    refine r_callSV o (As := [.ref (gad G 23), .int (nI (twoN sn (aq + 1)))]) (st := []) (c_X5_turn_23 (xl X) G σ fq hfq (twoN sn (aq + 1)) hy1) om_X5_turn mw_373 mw_372 (by decide) rfl rfl (Nat.le_of_ble_eq_true rfl) dX5_work_92 (fun σσ92 hp92 => ?_)
    replace hp92 := Eq.symm hp92; subst hp92
    refine r_goto o (tgt := 126) dX5_work_95 (by decide) ?_
    exact r_return o q dX5_work_126 (by unfold stepF; first | (rw [if_pos hs6_115]) | (rw [if_neg hs6_115, if_pos hs6_108]) | (rw [if_neg (by omega), if_pos hs6_108]) | (rw [if_neg (by omega), if_neg (by omega), if_pos hs6_116]) | (rw [if_neg (by omega), if_neg (by omega), if_neg (by omega), if_pos hs6_99]) | (rw [if_neg (by omega), if_neg (by omega), if_neg (by omega), if_neg (by omega), if_pos hs6_100]))
  exact absurd hdq (dgs_no hs6_99 hs6_100 hs6_108 hs6_115 hs6_116)
set_option maxHeartbeats 4000000 in
set_option maxRecDepth 100000 in
theorem c_X5_deal_20 (l : Launch) (G : Gl) (σ : Sto) (sn : Nat → Nat) (cntq : Nat) (hp : PadO σ sn cntq) (rq : Nat) (hrq : rq < 6) (fq : Nat → Int32) (hfq : (σ (13 + rq)).1 = fq) (eq0 : Nat → Int32) (heq0 : (σ 20).1 = eq0) (hno : fltF sn cntq 21 0 = none) : CtV l G yX5_deal cX5_deal 4 none 4 88 [.ref (gad G 1), .ref (gad G (13 + rq)), .ref (gad G 20)] σ (fun σ' => σ' = sta σ 20 (dealW sn cntq 21 0 (mix fq eq0 0 24))) := by
  refine CtV.of (by decide +kernel) (Nat.le_of_ble_eq_true rfl) (fun X o q => ?_)
  show WS X G 4 σ 0 [(0, .ref (gad G 1)), (1, .ref (gad G (13 + rq))), (2, .ref (gad G 20))] []
  obtain ⟨hcq, hcnt, hsg, hsn⟩ := id hp
  refine r_iconst o (v := nI 0) dX5_deal_0 (by decide) ?_
  refine r_istore_n o (lv' := [(3, .int (nI 0)), (0, .ref (gad G 1)), (1, .ref (gad G (13 + rq))), (2, .ref (gad G 20))]) dX5_deal_1 (by decide) rfl ?_
  have L2 : ∀ (n : Nat) (kq : Nat) (hkq : kq ≤ 24), 24 - kq < n → WS X G 4 (sta σ 20 (mix fq eq0 0 kq)) 2 [(0, .ref (gad G 1)), (1, .ref (gad G (13 + rq))), (2, .ref (gad G 20)), (3, .int (nI kq))] [] := by
    intro n
    induction n with
    | zero => intro kq hkq hm; exact absurd hm (Nat.not_lt_zero _)
    | succ n ih2 =>
      intro kq hkq hm
      refine r_iload_n o dX5_deal_2 3 rfl ?_
      refine r_bipush o (v := nI 24) dX5_deal_3 (by decide) ?_
      refine r_icmp_ge o (tgt := 20) dX5_deal_5 (by decide) (fun hb5 => ?_) (fun hb5 => ?_)
      · skip
        rw [nI_leI (by omega) (by omega)] at hb5
        obtain rfl : kq = 24 := by omega
        refine r_iconst o (v := nI 0) dX5_deal_20 (by decide) ?_
        refine r_istore_n o (lv' := [(3, .int (nI 0)), (0, .ref (gad G 1)), (1, .ref (gad G (13 + rq))), (2, .ref (gad G 20))]) dX5_deal_21 (by decide) rfl ?_
        have L22 : ∀ (n : Nat) (nq : Nat) (aq : Nat) (gq : Nat → Int32) (hinq : fltF sn cntq nq aq = none) (hfuel : cntq < aq + nq) (haq : aq ≤ cntq + 4) (hdwq : dealW sn cntq 21 0 (mix fq eq0 0 24) = dealW sn cntq nq aq gq), nq < n → WS X G 4 (sta σ 20 gq) 22 [(0, .ref (gad G 1)), (1, .ref (gad G (13 + rq))), (2, .ref (gad G 20)), (3, .int (nI aq))] [] := by
          intro n
          induction n with
          | zero => intro nq aq gq hinq hfuel haq hdwq hm; exact absurd hm (Nat.not_lt_zero _)
          | succ n ih22 =>
            intro nq aq gq hinq hfuel haq hdwq hm
            refine r_iload_n o dX5_deal_22 3 rfl ?_
            refine r_aload_n o dX5_deal_23 0 rfl ?_
            refine gf_1_1 (σ := sta σ 20 gq) o (v := nI cntq) hcq mw_67 dX5_deal_24 ?_
            refine r_icmp_ge o (tgt := 57) dX5_deal_27 (by decide) (fun hb27 => ?_) (fun hb27 => ?_)
            · skip
              rw [nI_leI (by omega) (by omega)] at hb27
              exact r_return o q dX5_deal_57 (by rw [hdwq, dealW_e (by omega)])
            · skip
              rw [nI_leI (by omega) (by omega)] at hb27
              obtain ⟨nq1, rfl⟩ : ∃ zq, nq = zq + 1 := ⟨nq - 1, by omega⟩
              have haq2 : aq < cntq := by omega
              obtain ⟨dgq, hdq, hbq, hnx⟩ := flt_none hinq haq2
              have hdlq := digs_le hdq
              have hsaq := hsn aq
              refine r_aload_n o dX5_deal_30 0 rfl ?_
              refine r_iload_n o dX5_deal_31 3 rfl ?_
              refine r_aload_n o dX5_deal_32 2 rfl ?_
              refine r_callVV o (As := [.int (nI aq), .ref (gad G 20)]) (st := []) (c_X5_work_20 (xl X) G (sta σ 20 gq) sn cntq hp gq rfl aq dgq haq2 hdq (fun jq hq1 hq2 => bad_none hbq jq hq1 (by omega))) om_X5_work mw_351 mw_5 mw_349 (by decide) rfl rfl rfl (by decide) rfl rfl (Nat.le_of_ble_eq_true rfl) dX5_deal_33 (fun σσ33 hp33 => ?_)
              replace hp33 := Eq.symm hp33; subst hp33
              refine r_iload_n o dX5_deal_36 3 rfl ?_
              refine r_iconst o (v := nI 1) dX5_deal_37 (by decide) ?_
              refine r_iconst o (v := nI 0) dX5_deal_38 (by decide) ?_
              refine r_aload_n o dX5_deal_39 0 rfl ?_
              refine gf_1_0 o mw_66 dX5_deal_40 ?_
              refine r_iload_n o dX5_deal_43 3 rfl ?_
              refine r_ia (σ := sta (sta σ 20 gq) 20 (stepF sn aq gq)) o (by decide) ia_19 (f := (σ 19).1) rfl aq rfl (by omega) (by decide) dX5_deal_44 ?_
              refine r_topi (y := nI (sn aq)) (hsg _ (by omega)) ?_
              refine r_callSI o (As := [.int (nI (sn aq))]) (st := [.int (nI 0), .int (nI 1), .int (nI aq)]) (c_X5_digitsBehind (xl X) G (sta (sta σ 20 gq) 20 (stepF sn aq gq)) (sn aq) (by omega)) om_X5_digitsBehind mw_318 mw_317 (by decide) rfl rfl (Nat.le_of_ble_eq_true rfl) dX5_deal_45 (fun rr45 σσ45 hp45 => ?_)
              obtain ⟨hp45, hp45b⟩ := hp45; replace hp45 := Eq.symm hp45; replace hp45b := Eq.symm hp45b; subst hp45; subst hp45b
              refine r_topi (y := nI dgq) (by rw [dgI, hdq]) ?_
              refine r_max o (mw 366 (by decide +kernel) (by decide +kernel)) (mw 367 (by decide +kernel) (by decide +kernel)) (mw 47 (by decide +kernel) (by decide +kernel)) (mw 368 (by decide +kernel) (by decide +kernel)) (by decide) (Nat.le_of_ble_eq_true rfl) dX5_deal_48 ?_
              refine r_topi (y := nI dgq) (max0 (by omega)) ?_
              refine r_iadd o dX5_deal_51 ?_
              refine r_topi (y := nI (1 + dgq)) (nI_add' _ _) ?_
              refine r_iadd o dX5_deal_52 ?_
              refine r_topi (y := nI (aq + (1 + dgq))) (nI_add' _ _) ?_
              refine r_istore_n o (lv' := [(3, .int (nI (aq + (1 + dgq)))), (0, .ref (gad G 1)), (1, .ref (gad G (13 + rq))), (2, .ref (gad G 20))]) dX5_deal_53 (by decide) rfl ?_
              refine r_goto o (tgt := 22) dX5_deal_54 (by decide) ?_
              exact r_to sta_sta [1, 2, 3, 0] rfl (ih22 nq1 (aq + (1 + dgq)) (stepF sn aq gq) (by rw [← Nat.add_assoc]; exact hnx) (by omega) (by omega) (by rw [hdwq, dealW_s haq2 hdq, Nat.add_assoc]) (by omega))
        exact r_to rfl [1, 2, 3, 0] rfl (L22 _ 21 0 (mix fq eq0 0 24) hno (by omega) (by omega) rfl (Nat.lt_succ_self _))
      · skip
        rw [nI_leI (by omega) (by omega)] at hb5
        refine r_aload_n o dX5_deal_8 2 rfl ?_
        refine r_iload_n o dX5_deal_9 3 rfl ?_
        refine r_aload_n o dX5_deal_10 1 rfl ?_
        refine r_iload_n o dX5_deal_11 3 rfl ?_
        refine r_ia (σ := sta σ 20 (mix fq eq0 0 kq)) o (by omega) (ceY (by omega)) (f := fq) (by rw [sta_ne (by omega)]; exact hfq) kq rfl (by omega) (by decide) dX5_deal_12 ?_
        refine r_iast o (by decide) ia_20 kq rfl (by omega) (by decide) dX5_deal_13 ?_
        refine r_iinc o (v := nI (kq + 1)) (lv' := [(3, .int (nI (kq + 1))), (0, .ref (gad G 1)), (1, .ref (gad G (13 + rq))), (2, .ref (gad G 20))]) dX5_deal_14 3 rfl (nI_inc _) (by decide) rfl ?_
        refine r_goto o (tgt := 2) dX5_deal_17 (by decide) ?_
        exact r_to (mix_fw (by omega) rfl) [1, 2, 3, 0] rfl (ih2 (kq + 1) (by omega) (by omega))
  exact r_to (by rw [mix_nil]; exact sta_id heq0) [1, 2, 3, 0] rfl (L2 _ 0 (by omega) (Nat.lt_succ_self _))
set_option maxHeartbeats 4000000 in
set_option maxRecDepth 100000 in
theorem c_X5_deal_23 (l : Launch) (G : Gl) (σ : Sto) (sn : Nat → Nat) (cntq : Nat) (hp : PadO σ sn cntq) (rq : Nat) (hrq : rq < 6) (fq : Nat → Int32) (hfq : (σ (13 + rq)).1 = fq) (eq0 : Nat → Int32) (heq0 : (σ 23).1 = eq0) (hno : fltF sn cntq 21 0 = none) : CtV l G yX5_deal cX5_deal 4 none 4 88 [.ref (gad G 1), .ref (gad G (13 + rq)), .ref (gad G 23)] σ (fun σ' => σ' = sta σ 23 (dealW sn cntq 21 0 (mix fq eq0 0 24))) := by
  refine CtV.of (by decide +kernel) (Nat.le_of_ble_eq_true rfl) (fun X o q => ?_)
  show WS X G 4 σ 0 [(0, .ref (gad G 1)), (1, .ref (gad G (13 + rq))), (2, .ref (gad G 23))] []
  obtain ⟨hcq, hcnt, hsg, hsn⟩ := id hp
  refine r_iconst o (v := nI 0) dX5_deal_0 (by decide) ?_
  refine r_istore_n o (lv' := [(3, .int (nI 0)), (0, .ref (gad G 1)), (1, .ref (gad G (13 + rq))), (2, .ref (gad G 23))]) dX5_deal_1 (by decide) rfl ?_
  have L2 : ∀ (n : Nat) (kq : Nat) (hkq : kq ≤ 24), 24 - kq < n → WS X G 4 (sta σ 23 (mix fq eq0 0 kq)) 2 [(0, .ref (gad G 1)), (1, .ref (gad G (13 + rq))), (2, .ref (gad G 23)), (3, .int (nI kq))] [] := by
    intro n
    induction n with
    | zero => intro kq hkq hm; exact absurd hm (Nat.not_lt_zero _)
    | succ n ih2 =>
      intro kq hkq hm
      refine r_iload_n o dX5_deal_2 3 rfl ?_
      refine r_bipush o (v := nI 24) dX5_deal_3 (by decide) ?_
      refine r_icmp_ge o (tgt := 20) dX5_deal_5 (by decide) (fun hb5 => ?_) (fun hb5 => ?_)
      · skip
        rw [nI_leI (by omega) (by omega)] at hb5
        obtain rfl : kq = 24 := by omega
        refine r_iconst o (v := nI 0) dX5_deal_20 (by decide) ?_
        refine r_istore_n o (lv' := [(3, .int (nI 0)), (0, .ref (gad G 1)), (1, .ref (gad G (13 + rq))), (2, .ref (gad G 23))]) dX5_deal_21 (by decide) rfl ?_
        have L22 : ∀ (n : Nat) (nq : Nat) (aq : Nat) (gq : Nat → Int32) (hinq : fltF sn cntq nq aq = none) (hfuel : cntq < aq + nq) (haq : aq ≤ cntq + 4) (hdwq : dealW sn cntq 21 0 (mix fq eq0 0 24) = dealW sn cntq nq aq gq), nq < n → WS X G 4 (sta σ 23 gq) 22 [(0, .ref (gad G 1)), (1, .ref (gad G (13 + rq))), (2, .ref (gad G 23)), (3, .int (nI aq))] [] := by
          intro n
          induction n with
          | zero => intro nq aq gq hinq hfuel haq hdwq hm; exact absurd hm (Nat.not_lt_zero _)
          | succ n ih22 =>
            intro nq aq gq hinq hfuel haq hdwq hm
            refine r_iload_n o dX5_deal_22 3 rfl ?_
            refine r_aload_n o dX5_deal_23 0 rfl ?_
            refine gf_1_1 (σ := sta σ 23 gq) o (v := nI cntq) hcq mw_67 dX5_deal_24 ?_
            refine r_icmp_ge o (tgt := 57) dX5_deal_27 (by decide) (fun hb27 => ?_) (fun hb27 => ?_)
            · skip
              rw [nI_leI (by omega) (by omega)] at hb27
              exact r_return o q dX5_deal_57 (by rw [hdwq, dealW_e (by omega)])
            · skip
              rw [nI_leI (by omega) (by omega)] at hb27
              obtain ⟨nq1, rfl⟩ : ∃ zq, nq = zq + 1 := ⟨nq - 1, by omega⟩
              have haq2 : aq < cntq := by omega
              obtain ⟨dgq, hdq, hbq, hnx⟩ := flt_none hinq haq2
              have hdlq := digs_le hdq
              have hsaq := hsn aq
              refine r_aload_n o dX5_deal_30 0 rfl ?_
              refine r_iload_n o dX5_deal_31 3 rfl ?_
              refine r_aload_n o dX5_deal_32 2 rfl ?_
              refine r_callVV o (As := [.int (nI aq), .ref (gad G 23)]) (st := []) (c_X5_work_23 (xl X) G (sta σ 23 gq) sn cntq hp gq rfl aq dgq haq2 hdq (fun jq hq1 hq2 => bad_none hbq jq hq1 (by omega))) om_X5_work mw_351 mw_5 mw_349 (by decide) rfl rfl rfl (by decide) rfl rfl (Nat.le_of_ble_eq_true rfl) dX5_deal_33 (fun σσ33 hp33 => ?_)
              replace hp33 := Eq.symm hp33; subst hp33
              refine r_iload_n o dX5_deal_36 3 rfl ?_
              refine r_iconst o (v := nI 1) dX5_deal_37 (by decide) ?_
              refine r_iconst o (v := nI 0) dX5_deal_38 (by decide) ?_
              refine r_aload_n o dX5_deal_39 0 rfl ?_
              refine gf_1_0 o mw_66 dX5_deal_40 ?_
              refine r_iload_n o dX5_deal_43 3 rfl ?_
              refine r_ia (σ := sta (sta σ 23 gq) 23 (stepF sn aq gq)) o (by decide) ia_19 (f := (σ 19).1) rfl aq rfl (by omega) (by decide) dX5_deal_44 ?_
              refine r_topi (y := nI (sn aq)) (hsg _ (by omega)) ?_
              refine r_callSI o (As := [.int (nI (sn aq))]) (st := [.int (nI 0), .int (nI 1), .int (nI aq)]) (c_X5_digitsBehind (xl X) G (sta (sta σ 23 gq) 23 (stepF sn aq gq)) (sn aq) (by omega)) om_X5_digitsBehind mw_318 mw_317 (by decide) rfl rfl (Nat.le_of_ble_eq_true rfl) dX5_deal_45 (fun rr45 σσ45 hp45 => ?_)
              obtain ⟨hp45, hp45b⟩ := hp45; replace hp45 := Eq.symm hp45; replace hp45b := Eq.symm hp45b; subst hp45; subst hp45b
              refine r_topi (y := nI dgq) (by rw [dgI, hdq]) ?_
              refine r_max o (mw 366 (by decide +kernel) (by decide +kernel)) (mw 367 (by decide +kernel) (by decide +kernel)) (mw 47 (by decide +kernel) (by decide +kernel)) (mw 368 (by decide +kernel) (by decide +kernel)) (by decide) (Nat.le_of_ble_eq_true rfl) dX5_deal_48 ?_
              refine r_topi (y := nI dgq) (max0 (by omega)) ?_
              refine r_iadd o dX5_deal_51 ?_
              refine r_topi (y := nI (1 + dgq)) (nI_add' _ _) ?_
              refine r_iadd o dX5_deal_52 ?_
              refine r_topi (y := nI (aq + (1 + dgq))) (nI_add' _ _) ?_
              refine r_istore_n o (lv' := [(3, .int (nI (aq + (1 + dgq)))), (0, .ref (gad G 1)), (1, .ref (gad G (13 + rq))), (2, .ref (gad G 23))]) dX5_deal_53 (by decide) rfl ?_
              refine r_goto o (tgt := 22) dX5_deal_54 (by decide) ?_
              exact r_to sta_sta [1, 2, 3, 0] rfl (ih22 nq1 (aq + (1 + dgq)) (stepF sn aq gq) (by rw [← Nat.add_assoc]; exact hnx) (by omega) (by omega) (by rw [hdwq, dealW_s haq2 hdq, Nat.add_assoc]) (by omega))
        exact r_to rfl [1, 2, 3, 0] rfl (L22 _ 21 0 (mix fq eq0 0 24) hno (by omega) (by omega) rfl (Nat.lt_succ_self _))
      · skip
        rw [nI_leI (by omega) (by omega)] at hb5
        refine r_aload_n o dX5_deal_8 2 rfl ?_
        refine r_iload_n o dX5_deal_9 3 rfl ?_
        refine r_aload_n o dX5_deal_10 1 rfl ?_
        refine r_iload_n o dX5_deal_11 3 rfl ?_
        refine r_ia (σ := sta σ 23 (mix fq eq0 0 kq)) o (by omega) (ceY (by omega)) (f := fq) (by rw [sta_ne (by omega)]; exact hfq) kq rfl (by omega) (by decide) dX5_deal_12 ?_
        refine r_iast o (by decide) ia_23 kq rfl (by omega) (by decide) dX5_deal_13 ?_
        refine r_iinc o (v := nI (kq + 1)) (lv' := [(3, .int (nI (kq + 1))), (0, .ref (gad G 1)), (1, .ref (gad G (13 + rq))), (2, .ref (gad G 23))]) dX5_deal_14 3 rfl (nI_inc _) (by decide) rfl ?_
        refine r_goto o (tgt := 2) dX5_deal_17 (by decide) ?_
        exact r_to (mix_fw (by omega) rfl) [1, 2, 3, 0] rfl (ih2 (kq + 1) (by omega) (by omega))
  exact r_to (by rw [mix_nil]; exact sta_id heq0) [1, 2, 3, 0] rfl (L2 _ 0 (by omega) (Nat.lt_succ_self _))
set_option maxHeartbeats 4000000 in
set_option maxRecDepth 100000 in
theorem c_X0_gather (l : Launch) (G : Gl) (σ : Sto) (fq : Nat → Int32) (hfq : (σ 20).1 = fq) (g1 : Nat → Int32) (hg1 : (σ 21).1 = g1) (g2 : Nat → Int32) (hg2 : (σ 22).1 = g2) (endq : Nat) (hend : endq ≤ 24) : CtV l G yX0_gather cX0_gather 3 none 0 0 [.ref (gad G 2), .int (nI endq)] σ (fun σ' => σ' = sta (sta (sti σ 2 3 (nI (gcnt fq endq))) 21 (gnum fq g1 endq)) 22 (gyr fq g2 endq)) := by
  refine CtV.of (by decide +kernel) (Nat.le_of_ble_eq_true rfl) (fun X o q => ?_)
  show WS X G 3 σ 0 [(0, .ref (gad G 2)), (1, .int (nI endq))] []
  refine r_aload_n o dX0_gather_0 0 rfl ?_
  refine r_iconst o (v := nI 0) dX0_gather_1 (by decide) ?_
  refine pf_2_3 o mw_91 dX0_gather_2 ?_
  refine r_iconst o (v := nI 0) dX0_gather_5 (by decide) ?_
  refine r_istore_n o (lv' := [(2, .int (nI 0)), (0, .ref (gad G 2)), (1, .int (nI endq))]) dX0_gather_6 (by decide) rfl ?_
  have L7 : ∀ (n : Nat) (kq : Nat) (hkq : kq ≤ endq), endq - kq < n → WS X G 3 (sta (sta (sti σ 2 3 (nI (gcnt fq kq))) 21 (gnum fq g1 kq)) 22 (gyr fq g2 kq)) 7 [(0, .ref (gad G 2)), (1, .int (nI endq)), (2, .int (nI kq))] [] := by
    intro n
    induction n with
    | zero => intro kq hkq hm; exact absurd hm (Nat.not_lt_zero _)
    | succ n ih7 =>
      intro kq hkq hm
      have hgc := gcnt_le fq kq
      refine r_iload_n o dX0_gather_7 2 rfl ?_
      refine r_bipush o (v := nI 24) dX0_gather_8 (by decide) ?_
      refine r_icmp_ge o (tgt := 70) dX0_gather_10 (by decide) (fun hb10 => ?_) (fun hb10 => ?_)
      · skip
        rw [nI_leI (by omega) (by omega)] at hb10
        obtain rfl : kq = endq := by omega
        exact r_return o q dX0_gather_70 rfl
      · skip
        rw [nI_leI (by omega) (by omega)] at hb10
        refine r_iload_n o dX0_gather_13 2 rfl ?_
        refine r_iload_n o dX0_gather_14 1 rfl ?_
        refine r_icmp_ge o (tgt := 70) dX0_gather_15 (by decide) (fun hb15 => ?_) (fun hb15 => ?_)
        · skip
          rw [nI_leI (by omega) (by omega)] at hb15
          obtain rfl : kq = endq := by omega
          exact r_return o q dX0_gather_70 rfl
        · skip
          rw [nI_leI (by omega) (by omega)] at hb15
          refine r_aload_n o dX0_gather_18 0 rfl ?_
          refine gf_2_0 o mw_81 dX0_gather_19 ?_
          refine r_iload_n o dX0_gather_22 2 rfl ?_
          refine r_ia (σ := sta (sta (sti σ 2 3 (nI (gcnt fq kq))) 21 (gnum fq g1 kq)) 22 (gyr fq g2 kq)) o (by decide) ia_20 (f := fq) hfq kq rfl (by omega) (by decide) dX0_gather_23 ?_
          refine r_ldc o mw_404 dX0_gather_24 ?_
          refine r_icmp_eq o (tgt := 64) dX0_gather_26 (by decide) (fun hb26 => ?_) (fun hb26 => ?_)
          · skip
            refine r_iinc o (v := nI (kq + 1)) (lv' := [(2, .int (nI (kq + 1))), (0, .ref (gad G 2)), (1, .int (nI endq))]) dX0_gather_64 2 rfl (nI_inc _) (by decide) rfl ?_
            refine r_goto o (tgt := 7) dX0_gather_67 (by decide) ?_
            exact r_to (by rw [gcnt_g hb26, gnum_g hb26, gyr_g hb26]) [1, 2, 0] rfl (ih7 (kq + 1) (by omega) (by omega))
          · skip
            refine r_aload_n o dX0_gather_29 0 rfl ?_
            refine gf_2_1 o mw_84 dX0_gather_30 ?_
            refine r_aload_n o dX0_gather_33 0 rfl ?_
            refine gf_2_3 (σ := sta (sta (sti σ 2 3 (nI (gcnt fq kq))) 21 (gnum fq g1 kq)) 22 (gyr fq g2 kq)) o (v := nI (gcnt fq kq)) rfl mw_91 dX0_gather_34 ?_
            refine r_aload_n o dX0_gather_37 0 rfl ?_
            refine gf_2_0 o mw_81 dX0_gather_38 ?_
            refine r_iload_n o dX0_gather_41 2 rfl ?_
            refine r_ia (σ := sta (sta (sti σ 2 3 (nI (gcnt fq kq))) 21 (gnum fq g1 kq)) 22 (gyr fq g2 kq)) o (by decide) ia_20 (f := fq) hfq kq rfl (by omega) (by decide) dX0_gather_42 ?_
            refine r_iast o (by decide) ia_21 (gcnt fq kq) rfl (by omega) (by decide) dX0_gather_43 ?_
            refine r_aload_n o dX0_gather_44 0 rfl ?_
            refine gf_2_2 o mw_88 dX0_gather_45 ?_
            refine r_aload_n o dX0_gather_48 0 rfl ?_
            refine gf_2_3 (σ := sti (sta (sta (sti σ 2 3 (nI (gcnt fq kq))) 21 (gnum fq g1 kq)) 22 (gyr fq g2 kq)) 21 (gcnt fq kq) (fq kq)) o (v := nI (gcnt fq kq)) rfl mw_91 dX0_gather_49 ?_
            refine r_iload_n o dX0_gather_52 2 rfl ?_
            refine r_iast o (by decide) ia_22 (gcnt fq kq) rfl (by omega) (by decide) dX0_gather_53 ?_
            refine r_aload_n o dX0_gather_54 0 rfl ?_
            refine r_dup o dX0_gather_55 rfl ?_
            refine gf_2_3 (σ := sti (sti (sta (sta (sti σ 2 3 (nI (gcnt fq kq))) 21 (gnum fq g1 kq)) 22 (gyr fq g2 kq)) 21 (gcnt fq kq) (fq kq)) 22 (gcnt fq kq) (nI kq)) o (v := nI (gcnt fq kq)) rfl mw_91 dX0_gather_56 ?_
            refine r_iconst o (v := nI 1) dX0_gather_59 (by decide) ?_
            refine r_iadd o dX0_gather_60 ?_
            refine r_topi (y := nI (gcnt fq kq + 1)) (nI_add' _ _) ?_
            refine pf_2_3 o mw_91 dX0_gather_61 ?_
            refine r_iinc o (v := nI (kq + 1)) (lv' := [(2, .int (nI (kq + 1))), (0, .ref (gad G 2)), (1, .int (nI endq))]) dX0_gather_64 2 rfl (nI_inc _) (by decide) rfl ?_
            refine r_goto o (tgt := 7) dX0_gather_67 (by decide) ?_
            exact r_to (by rw [gcnt_n hb26, gnum_n hb26, gyr_n hb26]; simp only [sti_sta_ne, sti_sta, sti_sti, ne_eq, Nat.reduceEqDiff, not_false_eq_true]) [1, 2, 0] rfl (ih7 (kq + 1) (by omega) (by omega))
  exact r_to (by show sti σ 2 3 (nI 0) = sta (sta (sti σ 2 3 (nI 0)) 21 g1) 22 g2; rw [← sta_id (σ := sti σ 2 3 (nI 0)) (cz := 21) hg1, ← sta_id (σ := sti σ 2 3 (nI 0)) (cz := 22) hg2]) [1, 2, 0] rfl (L7 _ 0 (by omega) (Nat.lt_succ_self _))
set_option maxHeartbeats 4000000 in
set_option maxRecDepth 100000 in
theorem c_X0_sum (l : Launch) (G : Gl) (σ : Sto) (nq : Nat) (hnq : (σ 2).1 3 = nI nq) (hn24 : nq ≤ 24) (fq : Nat → Int32) (hfq : (σ 21).1 = fq) : CtL l G yX0_sum cX0_sum 4 (some .long) 0 0 [.ref (gad G 2)] σ (fun r σ' => r = sumL fq nq ∧ σ' = σ) := by
  refine CtL.of (by decide +kernel) (Nat.le_of_ble_eq_true rfl) (fun X o q => ?_)
  show WS X G 4 σ 0 [(0, .ref (gad G 2))] []
  refine r_lconst o (v := 0) dX0_sum_0 rfl ?_
  refine r_lstore_n o (lv' := [(1, .long 0), (0, .ref (gad G 2))]) dX0_sum_1 (by decide) rfl ?_
  refine r_iconst o (v := nI 0) dX0_sum_2 (by decide) ?_
  refine r_istore_n o (lv' := [(3, .int (nI 0)), (1, .long 0), (0, .ref (gad G 2))]) dX0_sum_3 (by decide) rfl ?_
  have L4 : ∀ (n : Nat) (kq : Nat) (hkq : kq ≤ nq), nq - kq < n → WS X G 4 σ 4 [(0, .ref (gad G 2)), (1, .long (sumL fq kq)), (3, .int (nI kq))] [] := by
    intro n
    induction n with
    | zero => intro kq hkq hm; exact absurd hm (Nat.not_lt_zero _)
    | succ n ih4 =>
      intro kq hkq hm
      refine r_iload_n o dX0_sum_4 2 rfl ?_
      refine r_aload_n o dX0_sum_5 0 rfl ?_
      refine gf_2_3 o (v := nI nq) hnq mw_91 dX0_sum_6 ?_
      refine r_icmp_ge o (tgt := 28) dX0_sum_9 (by decide) (fun hb9 => ?_) (fun hb9 => ?_)
      · skip
        rw [nI_leI (by omega) (by omega)] at hb9
        obtain rfl : kq = nq := by omega
        refine r_lload_n o dX0_sum_28 1 rfl ?_
        exact r_lreturn o q dX0_sum_29 (⟨rfl, rfl⟩)
      · skip
        rw [nI_leI (by omega) (by omega)] at hb9
        refine r_lload_n o dX0_sum_12 1 rfl ?_
        refine r_aload_n o dX0_sum_13 0 rfl ?_
        refine gf_2_1 o mw_84 dX0_sum_14 ?_
        refine r_iload_n o dX0_sum_17 2 rfl ?_
        refine r_ia o (by decide) ia_21 (f := fq) hfq kq rfl (by omega) (by decide) dX0_sum_18 ?_
        refine r_i2l o dX0_sum_19 rfl ?_
        refine r_ladd o dX0_sum_20 ?_
        refine r_lstore_n o (lv' := [(1, .long ((sumL fq kq) + ((fq kq).toInt64))), (0, .ref (gad G 2)), (3, .int (nI kq))]) dX0_sum_21 (by decide) rfl ?_
        refine r_iinc o (v := nI (kq + 1)) (lv' := [(3, .int (nI (kq + 1))), (1, .long ((sumL fq kq) + ((fq kq).toInt64))), (0, .ref (gad G 2))]) dX0_sum_22 2 rfl (nI_inc _) (by decide) rfl ?_
        refine r_goto o (tgt := 4) dX0_sum_25 (by decide) ?_
        exact r_to rfl [2, 1, 0] rfl (ih4 (kq + 1) (by omega) (by omega))
  exact r_to rfl [2, 1, 0] rfl (L4 _ 0 (by omega) (Nat.lt_succ_self _))
set_option maxHeartbeats 4000000 in
set_option maxRecDepth 100000 in
theorem c_X0_squares (l : Launch) (G : Gl) (σ : Sto) (nq : Nat) (hnq : (σ 2).1 3 = nI nq) (hn24 : nq ≤ 24) (fq : Nat → Int32) (hfq : (σ 21).1 = fq) : CtL l G yX0_squares cX0_squares 4 (some .long) 0 0 [.ref (gad G 2)] σ (fun r σ' => r = sqL fq nq ∧ σ' = σ) := by
  refine CtL.of (by decide +kernel) (Nat.le_of_ble_eq_true rfl) (fun X o q => ?_)
  show WS X G 4 σ 0 [(0, .ref (gad G 2))] []
  refine r_lconst o (v := 0) dX0_squares_0 rfl ?_
  refine r_lstore_n o (lv' := [(1, .long 0), (0, .ref (gad G 2))]) dX0_squares_1 (by decide) rfl ?_
  refine r_iconst o (v := nI 0) dX0_squares_2 (by decide) ?_
  refine r_istore_n o (lv' := [(3, .int (nI 0)), (1, .long 0), (0, .ref (gad G 2))]) dX0_squares_3 (by decide) rfl ?_
  have L4 : ∀ (n : Nat) (kq : Nat) (hkq : kq ≤ nq), nq - kq < n → WS X G 4 σ 4 [(0, .ref (gad G 2)), (1, .long (sqL fq kq)), (3, .int (nI kq))] [] := by
    intro n
    induction n with
    | zero => intro kq hkq hm; exact absurd hm (Nat.not_lt_zero _)
    | succ n ih4 =>
      intro kq hkq hm
      refine r_iload_n o dX0_squares_4 2 rfl ?_
      refine r_aload_n o dX0_squares_5 0 rfl ?_
      refine gf_2_3 o (v := nI nq) hnq mw_91 dX0_squares_6 ?_
      refine r_icmp_ge o (tgt := 36) dX0_squares_9 (by decide) (fun hb9 => ?_) (fun hb9 => ?_)
      · skip
        rw [nI_leI (by omega) (by omega)] at hb9
        obtain rfl : kq = nq := by omega
        refine r_lload_n o dX0_squares_36 1 rfl ?_
        exact r_lreturn o q dX0_squares_37 (⟨rfl, rfl⟩)
      · skip
        rw [nI_leI (by omega) (by omega)] at hb9
        refine r_lload_n o dX0_squares_12 1 rfl ?_
        refine r_aload_n o dX0_squares_13 0 rfl ?_
        refine gf_2_1 o mw_84 dX0_squares_14 ?_
        refine r_iload_n o dX0_squares_17 2 rfl ?_
        refine r_ia o (by decide) ia_21 (f := fq) hfq kq rfl (by omega) (by decide) dX0_squares_18 ?_
        refine r_i2l o dX0_squares_19 rfl ?_
        refine r_aload_n o dX0_squares_20 0 rfl ?_
        refine gf_2_1 o mw_84 dX0_squares_21 ?_
        refine r_iload_n o dX0_squares_24 2 rfl ?_
        refine r_ia o (by decide) ia_21 (f := fq) hfq kq rfl (by omega) (by decide) dX0_squares_25 ?_
        refine r_i2l o dX0_squares_26 rfl ?_
        refine r_lmul o dX0_squares_27 ?_
        refine r_ladd o dX0_squares_28 ?_
        refine r_lstore_n o (lv' := [(1, .long ((sqL fq kq) + (((fq kq).toInt64) * ((fq kq).toInt64)))), (0, .ref (gad G 2)), (3, .int (nI kq))]) dX0_squares_29 (by decide) rfl ?_
        refine r_iinc o (v := nI (kq + 1)) (lv' := [(3, .int (nI (kq + 1))), (1, .long ((sqL fq kq) + (((fq kq).toInt64) * ((fq kq).toInt64)))), (0, .ref (gad G 2))]) dX0_squares_30 2 rfl (nI_inc _) (by decide) rfl ?_
        refine r_goto o (tgt := 4) dX0_squares_33 (by decide) ?_
        exact r_to rfl [2, 1, 0] rfl (ih4 (kq + 1) (by omega) (by omega))
  exact r_to rfl [2, 1, 0] rfl (L4 _ 0 (by omega) (Nat.lt_succ_self _))
