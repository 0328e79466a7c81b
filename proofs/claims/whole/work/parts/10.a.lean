def nonB (vq_ : Int32) : Bool := if vq_ = -1000000 then true else inB (-99) (nI 99) vq_
set_option maxHeartbeats 4000000 in
set_option maxRecDepth 100000 in
theorem c_X9_isWithin (l : Launch) (G : Gl) (σ : Sto) (vq_ : Int32) (loq : Int32) (hiq : Int32) : CtI l G yX9_isWithin cX9_isWithin 3 (some .boolean) 0 0 [.int vq_, .int loq, .int hiq] σ (fun r σ' => r = b01 (inB loq hiq vq_) ∧ σ' = σ) := by
  refine CtI.of (by decide +kernel) (Nat.le_of_ble_eq_true rfl) (fun X o q => ?_)
  show WS X G 3 σ 0 [(0, .int vq_), (1, .int loq), (2, .int hiq)] []
  refine r_iload_n o dX9_isWithin_0 0 rfl ?_
  refine r_iload_n o dX9_isWithin_1 1 rfl ?_
  refine r_icmp_lt o (tgt := 14) dX9_isWithin_2 (by decide) (fun hb2 => ?_) (fun hb2 => ?_)
  · skip
    refine r_iconst o (v := nI 0) dX9_isWithin_14 (by decide) ?_
    exact r_zreturn o q (by decide) dX9_isWithin_15 (⟨by first | (rw [inB_t hb2 hb7]; rfl) | (rw [inB_f2 hb7]; rfl) | (rw [inB_f1 hb2]; rfl), rfl⟩)
  · skip
    refine r_iload_n o dX9_isWithin_5 0 rfl ?_
    refine r_iload_n o dX9_isWithin_6 2 rfl ?_
    refine r_icmp_gt o (tgt := 14) dX9_isWithin_7 (by decide) (fun hb7 => ?_) (fun hb7 => ?_)
    · skip
      refine r_iconst o (v := nI 0) dX9_isWithin_14 (by decide) ?_
      exact r_zreturn o q (by decide) dX9_isWithin_15 (⟨by first | (rw [inB_t hb2 hb7]; rfl) | (rw [inB_f2 hb7]; rfl) | (rw [inB_f1 hb2]; rfl), rfl⟩)
    · skip
      refine r_iconst o (v := nI 1) dX9_isWithin_10 (by decide) ?_
      refine r_goto o (tgt := 15) dX9_isWithin_11 (by decide) ?_
      exact r_zreturn o q (by decide) dX9_isWithin_15 (⟨by first | (rw [inB_t hb2 hb7]; rfl) | (rw [inB_f2 hb7]; rfl) | (rw [inB_f1 hb2]; rfl), rfl⟩)
set_option maxHeartbeats 4000000 in
set_option maxRecDepth 100000 in
theorem c_X9_isRow (l : Launch) (G : Gl) (σ : Sto) (vq_ : Int32) : CtI l G yX9_isRow cX9_isRow 1 (some .boolean) 1 22 [.int vq_] σ (fun r σ' => r = b01 (inB (nI 0) (nI 5) vq_) ∧ σ' = σ) := by
  refine CtI.of (by decide +kernel) (Nat.le_of_ble_eq_true rfl) (fun X o q => ?_)
  show WS X G 1 σ 0 [(0, .int vq_)] []
  refine r_iload_n o dX9_isRow_0 0 rfl ?_
  refine r_iconst o (v := nI 0) dX9_isRow_1 (by decide) ?_
  refine r_iconst o (v := nI 5) dX9_isRow_2 (by decide) ?_
  refine r_callSI o (As := [.int vq_, .int (nI 0), .int (nI 5)]) (st := []) (c_X9_isWithin (xl X) G σ vq_ (nI 0) (nI 5)) om_X9_isWithin mw_278 mw_277 (by decide) rfl rfl (Nat.le_of_ble_eq_true rfl) dX9_isRow_3 (fun rr3 σσ3 hp3 => ?_)
  obtain ⟨hp3, hp3b⟩ := hp3; replace hp3 := Eq.symm hp3; replace hp3b := Eq.symm hp3b; subst hp3; subst hp3b
  exact r_zreturn o q (b01_n _) dX9_isRow_6 (⟨rfl, rfl⟩)
set_option maxHeartbeats 4000000 in
set_option maxRecDepth 100000 in
theorem c_X9_isYear (l : Launch) (G : Gl) (σ : Sto) (vq_ : Int32) : CtI l G yX9_isYear cX9_isYear 1 (some .boolean) 1 22 [.int vq_] σ (fun r σ' => r = b01 (inB (nI 0) (nI 23) vq_) ∧ σ' = σ) := by
  refine CtI.of (by decide +kernel) (Nat.le_of_ble_eq_true rfl) (fun X o q => ?_)
  show WS X G 1 σ 0 [(0, .int vq_)] []
  refine r_iload_n o dX9_isYear_0 0 rfl ?_
  refine r_iconst o (v := nI 0) dX9_isYear_1 (by decide) ?_
  refine r_bipush o (v := nI 23) dX9_isYear_2 (by decide) ?_
  refine r_callSI o (As := [.int vq_, .int (nI 0), .int (nI 23)]) (st := []) (c_X9_isWithin (xl X) G σ vq_ (nI 0) (nI 23)) om_X9_isWithin mw_278 mw_277 (by decide) rfl rfl (Nat.le_of_ble_eq_true rfl) dX9_isYear_4 (fun rr4 σσ4 hp4 => ?_)
  obtain ⟨hp4, hp4b⟩ := hp4; replace hp4 := Eq.symm hp4; replace hp4b := Eq.symm hp4b; subst hp4; subst hp4b
  exact r_zreturn o q (b01_n _) dX9_isYear_7 (⟨rfl, rfl⟩)
set_option maxHeartbeats 4000000 in
set_option maxRecDepth 100000 in
theorem c_X9_isDivide (l : Launch) (G : Gl) (σ : Sto) (vq_ : Int32) : CtI l G yX9_isDivide cX9_isDivide 1 (some .boolean) 1 22 [.int vq_] σ (fun r σ' => r = b01 (inB (nI 4) (nI 22) vq_) ∧ σ' = σ) := by
  refine CtI.of (by decide +kernel) (Nat.le_of_ble_eq_true rfl) (fun X o q => ?_)
  show WS X G 1 σ 0 [(0, .int vq_)] []
  refine r_iload_n o dX9_isDivide_0 0 rfl ?_
  refine r_iconst o (v := nI 4) dX9_isDivide_1 (by decide) ?_
  refine r_bipush o (v := nI 22) dX9_isDivide_2 (by decide) ?_
  refine r_callSI o (As := [.int vq_, .int (nI 4), .int (nI 22)]) (st := []) (c_X9_isWithin (xl X) G σ vq_ (nI 4) (nI 22)) om_X9_isWithin mw_278 mw_277 (by decide) rfl rfl (Nat.le_of_ble_eq_true rfl) dX9_isDivide_4 (fun rr4 σσ4 hp4 => ?_)
  obtain ⟨hp4, hp4b⟩ := hp4; replace hp4 := Eq.symm hp4; replace hp4b := Eq.symm hp4b; subst hp4; subst hp4b
  exact r_zreturn o q (b01_n _) dX9_isDivide_7 (⟨rfl, rfl⟩)
set_option maxHeartbeats 4000000 in
set_option maxRecDepth 100000 in
theorem c_X9_isLength (l : Launch) (G : Gl) (σ : Sto) (vq_ : Int32) : CtI l G yX9_isLength cX9_isLength 1 (some .boolean) 1 22 [.int vq_] σ (fun r σ' => r = b01 (inB (nI 2) (nI 12) vq_) ∧ σ' = σ) := by
  refine CtI.of (by decide +kernel) (Nat.le_of_ble_eq_true rfl) (fun X o q => ?_)
  show WS X G 1 σ 0 [(0, .int vq_)] []
  refine r_iload_n o dX9_isLength_0 0 rfl ?_
  refine r_iconst o (v := nI 2) dX9_isLength_1 (by decide) ?_
  refine r_bipush o (v := nI 12) dX9_isLength_2 (by decide) ?_
  refine r_callSI o (As := [.int vq_, .int (nI 2), .int (nI 12)]) (st := []) (c_X9_isWithin (xl X) G σ vq_ (nI 2) (nI 12)) om_X9_isWithin mw_278 mw_277 (by decide) rfl rfl (Nat.le_of_ble_eq_true rfl) dX9_isLength_4 (fun rr4 σσ4 hp4 => ?_)
  obtain ⟨hp4, hp4b⟩ := hp4; replace hp4 := Eq.symm hp4; replace hp4b := Eq.symm hp4b; subst hp4; subst hp4b
  exact r_zreturn o q (b01_n _) dX9_isLength_7 (⟨rfl, rfl⟩)
set_option maxHeartbeats 4000000 in
set_option maxRecDepth 100000 in
theorem c_X9_isPart (l : Launch) (G : Gl) (σ : Sto) (vq_ : Int32) : CtI l G yX9_isPart cX9_isPart 1 (some .boolean) 1 22 [.int vq_] σ (fun r σ' => r = b01 (inB (nI 0) (nI 1) vq_) ∧ σ' = σ) := by
  refine CtI.of (by decide +kernel) (Nat.le_of_ble_eq_true rfl) (fun X o q => ?_)
  show WS X G 1 σ 0 [(0, .int vq_)] []
  refine r_iload_n o dX9_isPart_0 0 rfl ?_
  refine r_iconst o (v := nI 0) dX9_isPart_1 (by decide) ?_
  refine r_iconst o (v := nI 1) dX9_isPart_2 (by decide) ?_
  refine r_callSI o (As := [.int vq_, .int (nI 0), .int (nI 1)]) (st := []) (c_X9_isWithin (xl X) G σ vq_ (nI 0) (nI 1)) om_X9_isWithin mw_278 mw_277 (by decide) rfl rfl (Nat.le_of_ble_eq_true rfl) dX9_isPart_3 (fun rr3 σσ3 hp3 => ?_)
  obtain ⟨hp3, hp3b⟩ := hp3; replace hp3 := Eq.symm hp3; replace hp3b := Eq.symm hp3b; subst hp3; subst hp3b
  exact r_zreturn o q (b01_n _) dX9_isPart_6 (⟨rfl, rfl⟩)
set_option maxHeartbeats 4000000 in
set_option maxRecDepth 100000 in
theorem c_X9_isNumberOrNone (l : Launch) (G : Gl) (σ : Sto) (vq_ : Int32) : CtI l G yX9_isNumberOrNone cX9_isNumberOrNone 1 (some .boolean) 1 22 [.int vq_] σ (fun r σ' => r = b01 (nonB vq_) ∧ σ' = σ) := by
  refine CtI.of (by decide +kernel) (Nat.le_of_ble_eq_true rfl) (fun X o q => ?_)
  show WS X G 1 σ 0 [(0, .int vq_)] []
  refine r_iload_n o dX9_isNumberOrNone_0 0 rfl ?_
  refine r_ldc o mw_235 dX9_isNumberOrNone_1 ?_
  refine r_icmp_eq o (tgt := 17) dX9_isNumberOrNone_3 (by decide) (fun hb3 => ?_) (fun hb3 => ?_)
  · skip
    refine r_iconst o (v := nI 1) dX9_isNumberOrNone_17 (by decide) ?_
    refine r_goto o (tgt := 22) dX9_isNumberOrNone_18 (by decide) ?_
    exact r_zreturn o q (by decide) dX9_isNumberOrNone_22 (⟨by first | (unfold nonB; rw [hb3]; rfl) | (unfold nonB; rw [hb14, if_neg hb3]; rfl), rfl⟩)
  · skip
    refine r_iload_n o dX9_isNumberOrNone_6 0 rfl ?_
    refine r_bipush o (v := (-99)) dX9_isNumberOrNone_7 (by decide) ?_
    refine r_bipush o (v := nI 99) dX9_isNumberOrNone_9 (by decide) ?_
    refine r_callSI o (As := [.int vq_, .int (-99), .int (nI 99)]) (st := []) (c_X9_isWithin (xl X) G σ vq_ (-99) (nI 99)) om_X9_isWithin mw_278 mw_277 (by decide) rfl rfl (Nat.le_of_ble_eq_true rfl) dX9_isNumberOrNone_11 (fun rr11 σσ11 hp11 => ?_)
    obtain ⟨hp11, hp11b⟩ := hp11; replace hp11 := Eq.symm hp11; replace hp11b := Eq.symm hp11b; subst hp11; subst hp11b
    refine r_if_eq o (tgt := 21) dX9_isNumberOrNone_14 (by decide) (fun hb14 => ?_) (fun hb14 => ?_)
    · skip
      rw [b01_eq0] at hb14
      refine r_iconst o (v := nI 0) dX9_isNumberOrNone_21 (by decide) ?_
      exact r_zreturn o q (by decide) dX9_isNumberOrNone_22 (⟨by first | (unfold nonB; rw [hb3]; rfl) | (unfold nonB; rw [hb14, if_neg hb3]; rfl), rfl⟩)
    · skip
      rw [b01_ne0] at hb14
      refine r_iconst o (v := nI 1) dX9_isNumberOrNone_17 (by decide) ?_
      refine r_goto o (tgt := 22) dX9_isNumberOrNone_18 (by decide) ?_
      exact r_zreturn o q (by decide) dX9_isNumberOrNone_22 (⟨by first | (unfold nonB; rw [hb3]; rfl) | (unfold nonB; rw [hb14, if_neg hb3]; rfl), rfl⟩)
