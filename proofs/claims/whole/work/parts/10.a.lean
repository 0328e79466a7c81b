def nonB (v : Int32) : Bool := if v = -1000000 then true else inB (-99) (nI 99) v
set_option maxHeartbeats 4000000 in
set_option maxRecDepth 100000 in
theorem c_X9_isWithin (l : Launch) (G : Gl) (σ : Sto) (v : Int32) (lo : Int32) (hi : Int32) : CtI l G yX9_isWithin cX9_isWithin 3 (some .boolean) 0 0 [.int v, .int lo, .int hi] σ (fun r σ' => r = b01 (inB lo hi v) ∧ σ' = σ) := by
  refine CtI.of (by decide +kernel) (Nat.le_of_ble_eq_true rfl) (fun X o q => ?_)
  show WS X G 3 σ 0 [(0, .int v), (1, .int lo), (2, .int hi)] []
  refine r_iload_n o dX9_isWithin_0 0 rfl ?_
  refine r_iload_n o dX9_isWithin_1 1 rfl ?_
  refine r_icmp_lt o (tgt := 14) dX9_isWithin_2 (by decide) (fun h2 => ?_) (fun h2 => ?_)
  · skip
    refine r_iconst o (v := nI 0) dX9_isWithin_14 (by decide) ?_
    exact r_zreturn o q (by decide) dX9_isWithin_15 (⟨by first | (rw [inB_t h2 h7]; rfl) | (rw [inB_f2 h7]; rfl) | (rw [inB_f1 h2]; rfl), rfl⟩)
  · skip
    refine r_iload_n o dX9_isWithin_5 0 rfl ?_
    refine r_iload_n o dX9_isWithin_6 2 rfl ?_
    refine r_icmp_gt o (tgt := 14) dX9_isWithin_7 (by decide) (fun h7 => ?_) (fun h7 => ?_)
    · skip
      refine r_iconst o (v := nI 0) dX9_isWithin_14 (by decide) ?_
      exact r_zreturn o q (by decide) dX9_isWithin_15 (⟨by first | (rw [inB_t h2 h7]; rfl) | (rw [inB_f2 h7]; rfl) | (rw [inB_f1 h2]; rfl), rfl⟩)
    · skip
      refine r_iconst o (v := nI 1) dX9_isWithin_10 (by decide) ?_
      refine r_goto o (tgt := 15) dX9_isWithin_11 (by decide) ?_
      exact r_zreturn o q (by decide) dX9_isWithin_15 (⟨by first | (rw [inB_t h2 h7]; rfl) | (rw [inB_f2 h7]; rfl) | (rw [inB_f1 h2]; rfl), rfl⟩)
set_option maxHeartbeats 4000000 in
set_option maxRecDepth 100000 in
theorem c_X9_isRow (l : Launch) (G : Gl) (σ : Sto) (v : Int32) : CtI l G yX9_isRow cX9_isRow 1 (some .boolean) 1 22 [.int v] σ (fun r σ' => r = b01 (inB (nI 0) (nI 5) v) ∧ σ' = σ) := by
  refine CtI.of (by decide +kernel) (Nat.le_of_ble_eq_true rfl) (fun X o q => ?_)
  show WS X G 1 σ 0 [(0, .int v)] []
  refine r_iload_n o dX9_isRow_0 0 rfl ?_
  refine r_iconst o (v := nI 0) dX9_isRow_1 (by decide) ?_
  refine r_iconst o (v := nI 5) dX9_isRow_2 (by decide) ?_
  refine r_callSI o (As := [.int v, .int (nI 0), .int (nI 5)]) (st := []) (c_X9_isWithin (xl X) G σ v (nI 0) (nI 5)) om_X9_isWithin mw_278 mw_277 (by decide) rfl rfl (by decide) dX9_isRow_3 (fun r3 σ3 hp3 => ?_)
  obtain ⟨rfl, rfl⟩ := hp3
  exact r_zreturn o q (b01_n _) dX9_isRow_6 (⟨rfl, rfl⟩)
set_option maxHeartbeats 4000000 in
set_option maxRecDepth 100000 in
theorem c_X9_isYear (l : Launch) (G : Gl) (σ : Sto) (v : Int32) : CtI l G yX9_isYear cX9_isYear 1 (some .boolean) 1 22 [.int v] σ (fun r σ' => r = b01 (inB (nI 0) (nI 23) v) ∧ σ' = σ) := by
  refine CtI.of (by decide +kernel) (Nat.le_of_ble_eq_true rfl) (fun X o q => ?_)
  show WS X G 1 σ 0 [(0, .int v)] []
  refine r_iload_n o dX9_isYear_0 0 rfl ?_
  refine r_iconst o (v := nI 0) dX9_isYear_1 (by decide) ?_
  refine r_bipush o (v := nI 23) dX9_isYear_2 (by decide) ?_
  refine r_callSI o (As := [.int v, .int (nI 0), .int (nI 23)]) (st := []) (c_X9_isWithin (xl X) G σ v (nI 0) (nI 23)) om_X9_isWithin mw_278 mw_277 (by decide) rfl rfl (by decide) dX9_isYear_4 (fun r4 σ4 hp4 => ?_)
  obtain ⟨rfl, rfl⟩ := hp4
  exact r_zreturn o q (b01_n _) dX9_isYear_7 (⟨rfl, rfl⟩)
set_option maxHeartbeats 4000000 in
set_option maxRecDepth 100000 in
theorem c_X9_isDivide (l : Launch) (G : Gl) (σ : Sto) (v : Int32) : CtI l G yX9_isDivide cX9_isDivide 1 (some .boolean) 1 22 [.int v] σ (fun r σ' => r = b01 (inB (nI 4) (nI 22) v) ∧ σ' = σ) := by
  refine CtI.of (by decide +kernel) (Nat.le_of_ble_eq_true rfl) (fun X o q => ?_)
  show WS X G 1 σ 0 [(0, .int v)] []
  refine r_iload_n o dX9_isDivide_0 0 rfl ?_
  refine r_iconst o (v := nI 4) dX9_isDivide_1 (by decide) ?_
  refine r_bipush o (v := nI 22) dX9_isDivide_2 (by decide) ?_
  refine r_callSI o (As := [.int v, .int (nI 4), .int (nI 22)]) (st := []) (c_X9_isWithin (xl X) G σ v (nI 4) (nI 22)) om_X9_isWithin mw_278 mw_277 (by decide) rfl rfl (by decide) dX9_isDivide_4 (fun r4 σ4 hp4 => ?_)
  obtain ⟨rfl, rfl⟩ := hp4
  exact r_zreturn o q (b01_n _) dX9_isDivide_7 (⟨rfl, rfl⟩)
set_option maxHeartbeats 4000000 in
set_option maxRecDepth 100000 in
theorem c_X9_isLength (l : Launch) (G : Gl) (σ : Sto) (v : Int32) : CtI l G yX9_isLength cX9_isLength 1 (some .boolean) 1 22 [.int v] σ (fun r σ' => r = b01 (inB (nI 2) (nI 12) v) ∧ σ' = σ) := by
  refine CtI.of (by decide +kernel) (Nat.le_of_ble_eq_true rfl) (fun X o q => ?_)
  show WS X G 1 σ 0 [(0, .int v)] []
  refine r_iload_n o dX9_isLength_0 0 rfl ?_
  refine r_iconst o (v := nI 2) dX9_isLength_1 (by decide) ?_
  refine r_bipush o (v := nI 12) dX9_isLength_2 (by decide) ?_
  refine r_callSI o (As := [.int v, .int (nI 2), .int (nI 12)]) (st := []) (c_X9_isWithin (xl X) G σ v (nI 2) (nI 12)) om_X9_isWithin mw_278 mw_277 (by decide) rfl rfl (by decide) dX9_isLength_4 (fun r4 σ4 hp4 => ?_)
  obtain ⟨rfl, rfl⟩ := hp4
  exact r_zreturn o q (b01_n _) dX9_isLength_7 (⟨rfl, rfl⟩)
set_option maxHeartbeats 4000000 in
set_option maxRecDepth 100000 in
theorem c_X9_isPart (l : Launch) (G : Gl) (σ : Sto) (v : Int32) : CtI l G yX9_isPart cX9_isPart 1 (some .boolean) 1 22 [.int v] σ (fun r σ' => r = b01 (inB (nI 0) (nI 1) v) ∧ σ' = σ) := by
  refine CtI.of (by decide +kernel) (Nat.le_of_ble_eq_true rfl) (fun X o q => ?_)
  show WS X G 1 σ 0 [(0, .int v)] []
  refine r_iload_n o dX9_isPart_0 0 rfl ?_
  refine r_iconst o (v := nI 0) dX9_isPart_1 (by decide) ?_
  refine r_iconst o (v := nI 1) dX9_isPart_2 (by decide) ?_
  refine r_callSI o (As := [.int v, .int (nI 0), .int (nI 1)]) (st := []) (c_X9_isWithin (xl X) G σ v (nI 0) (nI 1)) om_X9_isWithin mw_278 mw_277 (by decide) rfl rfl (by decide) dX9_isPart_3 (fun r3 σ3 hp3 => ?_)
  obtain ⟨rfl, rfl⟩ := hp3
  exact r_zreturn o q (b01_n _) dX9_isPart_6 (⟨rfl, rfl⟩)
set_option maxHeartbeats 4000000 in
set_option maxRecDepth 100000 in
theorem c_X9_isNumberOrNone (l : Launch) (G : Gl) (σ : Sto) (v : Int32) : CtI l G yX9_isNumberOrNone cX9_isNumberOrNone 1 (some .boolean) 1 22 [.int v] σ (fun r σ' => r = b01 (nonB v) ∧ σ' = σ) := by
  refine CtI.of (by decide +kernel) (Nat.le_of_ble_eq_true rfl) (fun X o q => ?_)
  show WS X G 1 σ 0 [(0, .int v)] []
  refine r_iload_n o dX9_isNumberOrNone_0 0 rfl ?_
  refine r_ldc o mw_235 dX9_isNumberOrNone_1 ?_
  refine r_icmp_eq o (tgt := 17) dX9_isNumberOrNone_3 (by decide) (fun h3 => ?_) (fun h3 => ?_)
  · skip
    refine r_iconst o (v := nI 1) dX9_isNumberOrNone_17 (by decide) ?_
    refine r_goto o (tgt := 22) dX9_isNumberOrNone_18 (by decide) ?_
    exact r_zreturn o q (by decide) dX9_isNumberOrNone_22 (⟨by first | (unfold nonB; rw [h3]; rfl) | (unfold nonB; rw [h14, if_neg h3]; rfl), rfl⟩)
  · skip
    refine r_iload_n o dX9_isNumberOrNone_6 0 rfl ?_
    refine r_bipush o (v := (-99)) dX9_isNumberOrNone_7 (by decide) ?_
    refine r_bipush o (v := nI 99) dX9_isNumberOrNone_9 (by decide) ?_
    refine r_callSI o (As := [.int v, .int (-99), .int (nI 99)]) (st := []) (c_X9_isWithin (xl X) G σ v (-99) (nI 99)) om_X9_isWithin mw_278 mw_277 (by decide) rfl rfl (by decide) dX9_isNumberOrNone_11 (fun r11 σ11 hp11 => ?_)
    obtain ⟨rfl, rfl⟩ := hp11
    refine r_if_eq o (tgt := 21) dX9_isNumberOrNone_14 (by decide) (fun h14 => ?_) (fun h14 => ?_)
    · skip
      rw [b01_eq0] at h14
      refine r_iconst o (v := nI 0) dX9_isNumberOrNone_21 (by decide) ?_
      exact r_zreturn o q (by decide) dX9_isNumberOrNone_22 (⟨by first | (unfold nonB; rw [h3]; rfl) | (unfold nonB; rw [h14, if_neg h3]; rfl), rfl⟩)
    · skip
      rw [b01_ne0] at h14
      refine r_iconst o (v := nI 1) dX9_isNumberOrNone_17 (by decide) ?_
      refine r_goto o (tgt := 22) dX9_isNumberOrNone_18 (by decide) ?_
      exact r_zreturn o q (by decide) dX9_isNumberOrNone_22 (⟨by first | (unfold nonB; rw [h3]; rfl) | (unfold nonB; rw [h14, if_neg h3]; rfl), rfl⟩)
