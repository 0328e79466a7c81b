set_option maxHeartbeats 4000000 in
set_option maxRecDepth 100000 in
theorem c_X9_putTogether_8 (l : Launch) (G : Gl) (σ : Sto) (af : Nat → Int32) (haf : (σ 20).1 = af) (bf : Nat → Int32) (hbf : (σ 23).1 = bf) (kq : Nat) (hkq : kq < 24) : CtV l G yX9_putTogether cX9_putTogether 20 none 2 56 [.ref (gad G 0), .int (nI kq), .ref (gad G 8)] σ (fun σ' => σ' = stl (stl σ 8 0 (fU (tgU af bf kq) (tgD af bf kq))) 8 1 (fL (tgU af bf kq) (tgD af bf kq))) := by
  refine CtV.of (by decide +kernel) (Nat.le_of_ble_eq_true rfl) (fun X o q => ?_)
  show WS X G 20 σ 0 [(0, .ref (gad G 0)), (1, .int (nI kq)), (2, .ref (gad G 8))] []
  refine r_lconst o (v := 0) dX9_putTogether_0 rfl ?_
  refine r_lstore_n o (lv' := [(3, .long 0), (0, .ref (gad G 0)), (1, .int (nI kq)), (2, .ref (gad G 8))]) dX9_putTogether_1 (by decide) rfl ?_
  refine r_lconst o (v := 0) dX9_putTogether_2 rfl ?_
  refine r_lstore o (lv' := [(5, .long 0), (3, .long 0), (0, .ref (gad G 0)), (1, .int (nI kq)), (2, .ref (gad G 8))]) dX9_putTogether_3 (by decide) rfl ?_
  refine r_lconst o (v := 0) dX9_putTogether_5 rfl ?_
  refine r_lstore o (lv' := [(7, .long 0), (5, .long 0), (3, .long 0), (0, .ref (gad G 0)), (1, .int (nI kq)), (2, .ref (gad G 8))]) dX9_putTogether_6 (by decide) rfl ?_
  refine r_lconst o (v := 0) dX9_putTogether_8 rfl ?_
  refine r_lstore o (lv' := [(9, .long 0), (7, .long 0), (5, .long 0), (3, .long 0), (0, .ref (gad G 0)), (1, .int (nI kq)), (2, .ref (gad G 8))]) dX9_putTogether_9 (by decide) rfl ?_
  refine r_lconst o (v := 0) dX9_putTogether_11 rfl ?_
  refine r_lstore o (lv' := [(11, .long 0), (9, .long 0), (7, .long 0), (5, .long 0), (3, .long 0), (0, .ref (gad G 0)), (1, .int (nI kq)), (2, .ref (gad G 8))]) dX9_putTogether_12 (by decide) rfl ?_
  refine r_lconst o (v := 0) dX9_putTogether_14 rfl ?_
  refine r_lstore o (lv' := [(13, .long 0), (11, .long 0), (9, .long 0), (7, .long 0), (5, .long 0), (3, .long 0), (0, .ref (gad G 0)), (1, .int (nI kq)), (2, .ref (gad G 8))]) dX9_putTogether_15 (by decide) rfl ?_
  refine r_iconst o (v := nI 0) dX9_putTogether_17 (by decide) ?_
  refine r_istore o (lv' := [(15, .int (nI 0)), (13, .long 0), (11, .long 0), (9, .long 0), (7, .long 0), (5, .long 0), (3, .long 0), (0, .ref (gad G 0)), (1, .int (nI kq)), (2, .ref (gad G 8))]) dX9_putTogether_18 (by decide) rfl ?_
  have L20 : ∀ (n : Nat) (yq : Nat) (hyq : yq ≤ 24), 24 - yq < n → WS X G 20 σ 20 [(0, .ref (gad G 0)), (1, .int (nI kq)), (2, .ref (gad G 8)), (3, .long (tgs (tgc af bf kq) (fun _ => 1) yq)), (5, .long (tgs (tgc af bf kq) (tga af) yq)), (7, .long (tgs (tgc af bf kq) (tgb bf kq) yq)), (9, .long (tgs (tgc af bf kq) (fun zy => tga af zy * tga af zy) yq)), (11, .long (tgs (tgc af bf kq) (fun zy => tgb bf kq zy * tgb bf kq zy) yq)), (13, .long (tgs (tgc af bf kq) (fun zy => tga af zy * tgb bf kq zy) yq)), (15, .int (nI yq))] [] := by
    intro n
    induction n with
    | zero => intro yq hyq hm; exact absurd hm (Nat.not_lt_zero _)
    | succ n ih20 =>
      intro yq hyq hm
      refine r_iload o dX9_putTogether_20 9 rfl ?_
      refine r_bipush o (v := nI 24) dX9_putTogether_22 (by decide) ?_
      refine r_icmp_ge o (tgt := 133) dX9_putTogether_24 (by decide) (fun hb24 => ?_) (fun hb24 => ?_)
      · skip
        rw [nI_leI (by omega) (by omega)] at hb24
        obtain rfl : yq = 24 := by omega
        refine r_lv (lv' := [(0, .ref (gad G 0)), (1, .int (nI kq)), (2, .ref (gad G 8)), (3, .long (tgN af bf kq)), (5, .long (tgs (tgc af bf kq) (tga af) 24)), (7, .long (tgs (tgc af bf kq) (tgb bf kq) 24)), (9, .long (tgs (tgc af bf kq) (fun zy => tga af zy * tga af zy) 24)), (11, .long (tgs (tgc af bf kq) (fun zy => tgb bf kq zy * tgb bf kq zy) 24)), (13, .long (tgs (tgc af bf kq) (fun zy => tga af zy * tgb bf kq zy) 24)), (15, .int (nI 24))]) (congrArg (fun zz => ([(0, .ref (gad G 0)), (1, .int (nI kq)), (2, .ref (gad G 8)), (3, .long zz), (5, .long (tgs (tgc af bf kq) (tga af) 24)), (7, .long (tgs (tgc af bf kq) (tgb bf kq) 24)), (9, .long (tgs (tgc af bf kq) (fun zy => tga af zy * tga af zy) 24)), (11, .long (tgs (tgc af bf kq) (fun zy => tgb bf kq zy * tgb bf kq zy) 24)), (13, .long (tgs (tgc af bf kq) (fun zy => tga af zy * tgb bf kq zy) 24)), (15, .int (nI 24))] : List (Nat × Value))) (show tgs (tgc af bf kq) (fun _ => 1) 24 = tgN af bf kq from rfl)) ?_
        refine r_lv (lv' := [(0, .ref (gad G 0)), (1, .int (nI kq)), (2, .ref (gad G 8)), (3, .long (tgN af bf kq)), (5, .long (tgA af bf kq)), (7, .long (tgs (tgc af bf kq) (tgb bf kq) 24)), (9, .long (tgs (tgc af bf kq) (fun zy => tga af zy * tga af zy) 24)), (11, .long (tgs (tgc af bf kq) (fun zy => tgb bf kq zy * tgb bf kq zy) 24)), (13, .long (tgs (tgc af bf kq) (fun zy => tga af zy * tgb bf kq zy) 24)), (15, .int (nI 24))]) (congrArg (fun zz => ([(0, .ref (gad G 0)), (1, .int (nI kq)), (2, .ref (gad G 8)), (3, .long (tgN af bf kq)), (5, .long zz), (7, .long (tgs (tgc af bf kq) (tgb bf kq) 24)), (9, .long (tgs (tgc af bf kq) (fun zy => tga af zy * tga af zy) 24)), (11, .long (tgs (tgc af bf kq) (fun zy => tgb bf kq zy * tgb bf kq zy) 24)), (13, .long (tgs (tgc af bf kq) (fun zy => tga af zy * tgb bf kq zy) 24)), (15, .int (nI 24))] : List (Nat × Value))) (show tgs (tgc af bf kq) (tga af) 24 = tgA af bf kq from rfl)) ?_
        refine r_lv (lv' := [(0, .ref (gad G 0)), (1, .int (nI kq)), (2, .ref (gad G 8)), (3, .long (tgN af bf kq)), (5, .long (tgA af bf kq)), (7, .long (tgB af bf kq)), (9, .long (tgs (tgc af bf kq) (fun zy => tga af zy * tga af zy) 24)), (11, .long (tgs (tgc af bf kq) (fun zy => tgb bf kq zy * tgb bf kq zy) 24)), (13, .long (tgs (tgc af bf kq) (fun zy => tga af zy * tgb bf kq zy) 24)), (15, .int (nI 24))]) (congrArg (fun zz => ([(0, .ref (gad G 0)), (1, .int (nI kq)), (2, .ref (gad G 8)), (3, .long (tgN af bf kq)), (5, .long (tgA af bf kq)), (7, .long zz), (9, .long (tgs (tgc af bf kq) (fun zy => tga af zy * tga af zy) 24)), (11, .long (tgs (tgc af bf kq) (fun zy => tgb bf kq zy * tgb bf kq zy) 24)), (13, .long (tgs (tgc af bf kq) (fun zy => tga af zy * tgb bf kq zy) 24)), (15, .int (nI 24))] : List (Nat × Value))) (show tgs (tgc af bf kq) (tgb bf kq) 24 = tgB af bf kq from rfl)) ?_
        refine r_lv (lv' := [(0, .ref (gad G 0)), (1, .int (nI kq)), (2, .ref (gad G 8)), (3, .long (tgN af bf kq)), (5, .long (tgA af bf kq)), (7, .long (tgB af bf kq)), (9, .long (tgAA af bf kq)), (11, .long (tgs (tgc af bf kq) (fun zy => tgb bf kq zy * tgb bf kq zy) 24)), (13, .long (tgs (tgc af bf kq) (fun zy => tga af zy * tgb bf kq zy) 24)), (15, .int (nI 24))]) (congrArg (fun zz => ([(0, .ref (gad G 0)), (1, .int (nI kq)), (2, .ref (gad G 8)), (3, .long (tgN af bf kq)), (5, .long (tgA af bf kq)), (7, .long (tgB af bf kq)), (9, .long zz), (11, .long (tgs (tgc af bf kq) (fun zy => tgb bf kq zy * tgb bf kq zy) 24)), (13, .long (tgs (tgc af bf kq) (fun zy => tga af zy * tgb bf kq zy) 24)), (15, .int (nI 24))] : List (Nat × Value))) (show tgs (tgc af bf kq) (fun zy => tga af zy * tga af zy) 24 = tgAA af bf kq from rfl)) ?_
        refine r_lv (lv' := [(0, .ref (gad G 0)), (1, .int (nI kq)), (2, .ref (gad G 8)), (3, .long (tgN af bf kq)), (5, .long (tgA af bf kq)), (7, .long (tgB af bf kq)), (9, .long (tgAA af bf kq)), (11, .long (tgBB af bf kq)), (13, .long (tgs (tgc af bf kq) (fun zy => tga af zy * tgb bf kq zy) 24)), (15, .int (nI 24))]) (congrArg (fun zz => ([(0, .ref (gad G 0)), (1, .int (nI kq)), (2, .ref (gad G 8)), (3, .long (tgN af bf kq)), (5, .long (tgA af bf kq)), (7, .long (tgB af bf kq)), (9, .long (tgAA af bf kq)), (11, .long zz), (13, .long (tgs (tgc af bf kq) (fun zy => tga af zy * tgb bf kq zy) 24)), (15, .int (nI 24))] : List (Nat × Value))) (show tgs (tgc af bf kq) (fun zy => tgb bf kq zy * tgb bf kq zy) 24 = tgBB af bf kq from rfl)) ?_
        refine r_lv (lv' := [(0, .ref (gad G 0)), (1, .int (nI kq)), (2, .ref (gad G 8)), (3, .long (tgN af bf kq)), (5, .long (tgA af bf kq)), (7, .long (tgB af bf kq)), (9, .long (tgAA af bf kq)), (11, .long (tgBB af bf kq)), (13, .long (tgAB af bf kq)), (15, .int (nI 24))]) (congrArg (fun zz => ([(0, .ref (gad G 0)), (1, .int (nI kq)), (2, .ref (gad G 8)), (3, .long (tgN af bf kq)), (5, .long (tgA af bf kq)), (7, .long (tgB af bf kq)), (9, .long (tgAA af bf kq)), (11, .long (tgBB af bf kq)), (13, .long zz), (15, .int (nI 24))] : List (Nat × Value))) (show tgs (tgc af bf kq) (fun zy => tga af zy * tgb bf kq zy) 24 = tgAB af bf kq from rfl)) ?_
        refine r_lload_n o dX9_putTogether_133 3 rfl ?_
        refine r_lload o dX9_putTogether_134 8 rfl ?_
        refine r_lmul o dX9_putTogether_136 ?_
        refine r_lload o dX9_putTogether_137 4 rfl ?_
        refine r_lload o dX9_putTogether_139 5 rfl ?_
        refine r_lmul o dX9_putTogether_141 ?_
        refine r_lsub o dX9_putTogether_142 ?_
        refine r_lstore o (lv' := [(15, .long (((tgN af bf kq) * (tgAB af bf kq)) - ((tgA af bf kq) * (tgB af bf kq)))), (0, .ref (gad G 0)), (1, .int (nI kq)), (2, .ref (gad G 8)), (3, .long (tgN af bf kq)), (5, .long (tgA af bf kq)), (7, .long (tgB af bf kq)), (9, .long (tgAA af bf kq)), (11, .long (tgBB af bf kq)), (13, .long (tgAB af bf kq))]) dX9_putTogether_143 (by decide) rfl ?_
        refine r_aload_n o dX9_putTogether_145 3 rfl ?_
        refine r_lload o dX9_putTogether_146 0 rfl ?_
        refine r_lload o dX9_putTogether_148 0 rfl ?_
        refine r_lmul o dX9_putTogether_150 ?_
        refine r_topl (y := tgU af bf kq) rfl ?_
        refine r_lload_n o dX9_putTogether_151 4 rfl ?_
        refine r_lload o dX9_putTogether_152 7 rfl ?_
        refine r_lmul o dX9_putTogether_154 ?_
        refine r_lload o dX9_putTogether_155 5 rfl ?_
        refine r_lload o dX9_putTogether_157 5 rfl ?_
        refine r_lmul o dX9_putTogether_159 ?_
        refine r_lsub o dX9_putTogether_160 ?_
        refine r_lload_n o dX9_putTogether_161 4 rfl ?_
        refine r_lload o dX9_putTogether_162 8 rfl ?_
        refine r_lmul o dX9_putTogether_164 ?_
        refine r_lload o dX9_putTogether_165 6 rfl ?_
        refine r_lload o dX9_putTogether_167 6 rfl ?_
        refine r_lmul o dX9_putTogether_169 ?_
        refine r_lsub o dX9_putTogether_170 ?_
        refine r_lmul o dX9_putTogether_171 ?_
        refine r_topl (y := tgD af bf kq) rfl ?_
        refine r_callVV o (As := [.long (tgU af bf kq), .long (tgD af bf kq)]) (st := []) (c_X2_put_8 (xl X) G σ (tgU af bf kq) (tgD af bf kq)) om_X2_put mw_438 mw_439 mw_437 (by decide) rfl rfl rfl (by decide) rfl rfl (Nat.le_of_ble_eq_true rfl) dX9_putTogether_172 (fun σσ172 hp172 => ?_)
        replace hp172 := Eq.symm hp172; subst hp172
        exact r_return o q dX9_putTogether_175 rfl
      · skip
        rw [nI_leI (by omega) (by omega)] at hb24
        refine r_aload_n o dX9_putTogether_27 0 rfl ?_
        refine gf_0_2 o mw_238 dX9_putTogether_28 ?_
        refine gfN_2_0 o mw_83 dX9_putTogether_31 ?_
        refine r_iload o dX9_putTogether_34 9 rfl ?_
        refine r_ia o (by decide) ia_20 (f := af) haf yq rfl (by omega) (by decide) dX9_putTogether_36 ?_
        refine r_i2l o dX9_putTogether_37 rfl ?_
        refine r_lstore o (lv' := [(16, .long ((af yq).toInt64)), (0, .ref (gad G 0)), (1, .int (nI kq)), (2, .ref (gad G 8)), (3, .long (tgs (tgc af bf kq) (fun _ => 1) yq)), (5, .long (tgs (tgc af bf kq) (tga af) yq)), (7, .long (tgs (tgc af bf kq) (tgb bf kq) yq)), (9, .long (tgs (tgc af bf kq) (fun zy => tga af zy * tga af zy) yq)), (11, .long (tgs (tgc af bf kq) (fun zy => tgb bf kq zy * tgb bf kq zy) yq)), (13, .long (tgs (tgc af bf kq) (fun zy => tga af zy * tgb bf kq zy) yq)), (15, .int (nI yq))]) dX9_putTogether_38 (by decide) rfl ?_
        refine r_aload_n o dX9_putTogether_40 1 rfl ?_
        refine gf_0_3 o mw_239 dX9_putTogether_41 ?_
        refine gfN_3_0 o mw_83 dX9_putTogether_44 ?_
        refine r_iload o dX9_putTogether_47 10 rfl ?_
        refine r_bipush o (v := nI 24) dX9_putTogether_49 (by decide) ?_
        refine r_iadd o dX9_putTogether_51 ?_
        refine r_topi (y := nI (yq + 24)) (nI_add' _ _) ?_
        refine r_iload_n o dX9_putTogether_52 2 rfl ?_
        refine r_isub o dX9_putTogether_53 ?_
        refine r_topi (y := nI (yq + 24 - kq)) (nI_sub' (by omega)) ?_
        refine r_bipush o (v := nI 24) dX9_putTogether_54 (by decide) ?_
        refine r_irem o dX9_putTogether_56 (nI_z (by omega) (by omega)) ?_
        refine r_topi (y := nI ((yq + 24 - kq) % 24)) (nI_rem' (by omega) (by omega) (by omega)) ?_
        refine r_ia o (by decide) ia_23 (f := bf) hbf ((yq + 24 - kq) % 24) rfl (Nat.mod_lt _ (by decide)) (by decide) dX9_putTogether_57 ?_
        refine r_i2l o dX9_putTogether_58 rfl ?_
        refine r_lstore o (lv' := [(18, .long ((bf ((yq + 24 - kq) % 24)).toInt64)), (16, .long ((af yq).toInt64)), (0, .ref (gad G 0)), (1, .int (nI kq)), (2, .ref (gad G 8)), (3, .long (tgs (tgc af bf kq) (fun _ => 1) yq)), (5, .long (tgs (tgc af bf kq) (tga af) yq)), (7, .long (tgs (tgc af bf kq) (tgb bf kq) yq)), (9, .long (tgs (tgc af bf kq) (fun zy => tga af zy * tga af zy) yq)), (11, .long (tgs (tgc af bf kq) (fun zy => tgb bf kq zy * tgb bf kq zy) yq)), (13, .long (tgs (tgc af bf kq) (fun zy => tga af zy * tgb bf kq zy) yq)), (15, .int (nI yq))]) dX9_putTogether_59 (by decide) rfl ?_
        refine r_lload o dX9_putTogether_61 1 rfl ?_
        refine r_ldc2_w o mw_511 dX9_putTogether_63 ?_
        refine r_lcmp o dX9_putTogether_66 ?_
        refine r_if_eq o (tgt := 127) dX9_putTogether_67 (by decide) (fun hb67 => ?_) (fun hb67 => ?_)
        · skip
          rw [lg_cmp_eq] at hb67
          rw [gapL] at hb67
          have hcb : tgc af bf kq yq = false := by unfold tgc; rw [decide_eq_true hb67]; rfl
          refine r_lv (lv' := [(18, .long ((bf ((yq + 24 - kq) % 24)).toInt64)), (16, .long ((af yq).toInt64)), (0, .ref (gad G 0)), (1, .int (nI kq)), (2, .ref (gad G 8)), (3, .long (tgs (tgc af bf kq) (fun _ => 1) (yq + 1))), (5, .long (tgs (tgc af bf kq) (tga af) yq)), (7, .long (tgs (tgc af bf kq) (tgb bf kq) yq)), (9, .long (tgs (tgc af bf kq) (fun zy => tga af zy * tga af zy) yq)), (11, .long (tgs (tgc af bf kq) (fun zy => tgb bf kq zy * tgb bf kq zy) yq)), (13, .long (tgs (tgc af bf kq) (fun zy => tga af zy * tgb bf kq zy) yq)), (15, .int (nI yq))]) (congrArg (fun zz => ([(18, .long ((bf ((yq + 24 - kq) % 24)).toInt64)), (16, .long ((af yq).toInt64)), (0, .ref (gad G 0)), (1, .int (nI kq)), (2, .ref (gad G 8)), (3, .long zz), (5, .long (tgs (tgc af bf kq) (tga af) yq)), (7, .long (tgs (tgc af bf kq) (tgb bf kq) yq)), (9, .long (tgs (tgc af bf kq) (fun zy => tga af zy * tga af zy) yq)), (11, .long (tgs (tgc af bf kq) (fun zy => tgb bf kq zy * tgb bf kq zy) yq)), (13, .long (tgs (tgc af bf kq) (fun zy => tga af zy * tgb bf kq zy) yq)), (15, .int (nI yq))] : List (Nat × Value))) (tgs_n hcb)) ?_
          refine r_lv (lv' := [(18, .long ((bf ((yq + 24 - kq) % 24)).toInt64)), (16, .long ((af yq).toInt64)), (0, .ref (gad G 0)), (1, .int (nI kq)), (2, .ref (gad G 8)), (3, .long (tgs (tgc af bf kq) (fun _ => 1) (yq + 1))), (5, .long (tgs (tgc af bf kq) (tga af) (yq + 1))), (7, .long (tgs (tgc af bf kq) (tgb bf kq) yq)), (9, .long (tgs (tgc af bf kq) (fun zy => tga af zy * tga af zy) yq)), (11, .long (tgs (tgc af bf kq) (fun zy => tgb bf kq zy * tgb bf kq zy) yq)), (13, .long (tgs (tgc af bf kq) (fun zy => tga af zy * tgb bf kq zy) yq)), (15, .int (nI yq))]) (congrArg (fun zz => ([(18, .long ((bf ((yq + 24 - kq) % 24)).toInt64)), (16, .long ((af yq).toInt64)), (0, .ref (gad G 0)), (1, .int (nI kq)), (2, .ref (gad G 8)), (3, .long (tgs (tgc af bf kq) (fun _ => 1) (yq + 1))), (5, .long zz), (7, .long (tgs (tgc af bf kq) (tgb bf kq) yq)), (9, .long (tgs (tgc af bf kq) (fun zy => tga af zy * tga af zy) yq)), (11, .long (tgs (tgc af bf kq) (fun zy => tgb bf kq zy * tgb bf kq zy) yq)), (13, .long (tgs (tgc af bf kq) (fun zy => tga af zy * tgb bf kq zy) yq)), (15, .int (nI yq))] : List (Nat × Value))) (tgs_n hcb)) ?_
          refine r_lv (lv' := [(18, .long ((bf ((yq + 24 - kq) % 24)).toInt64)), (16, .long ((af yq).toInt64)), (0, .ref (gad G 0)), (1, .int (nI kq)), (2, .ref (gad G 8)), (3, .long (tgs (tgc af bf kq) (fun _ => 1) (yq + 1))), (5, .long (tgs (tgc af bf kq) (tga af) (yq + 1))), (7, .long (tgs (tgc af bf kq) (tgb bf kq) (yq + 1))), (9, .long (tgs (tgc af bf kq) (fun zy => tga af zy * tga af zy) yq)), (11, .long (tgs (tgc af bf kq) (fun zy => tgb bf kq zy * tgb bf kq zy) yq)), (13, .long (tgs (tgc af bf kq) (fun zy => tga af zy * tgb bf kq zy) yq)), (15, .int (nI yq))]) (congrArg (fun zz => ([(18, .long ((bf ((yq + 24 - kq) % 24)).toInt64)), (16, .long ((af yq).toInt64)), (0, .ref (gad G 0)), (1, .int (nI kq)), (2, .ref (gad G 8)), (3, .long (tgs (tgc af bf kq) (fun _ => 1) (yq + 1))), (5, .long (tgs (tgc af bf kq) (tga af) (yq + 1))), (7, .long zz), (9, .long (tgs (tgc af bf kq) (fun zy => tga af zy * tga af zy) yq)), (11, .long (tgs (tgc af bf kq) (fun zy => tgb bf kq zy * tgb bf kq zy) yq)), (13, .long (tgs (tgc af bf kq) (fun zy => tga af zy * tgb bf kq zy) yq)), (15, .int (nI yq))] : List (Nat × Value))) (tgs_n hcb)) ?_
          refine r_lv (lv' := [(18, .long ((bf ((yq + 24 - kq) % 24)).toInt64)), (16, .long ((af yq).toInt64)), (0, .ref (gad G 0)), (1, .int (nI kq)), (2, .ref (gad G 8)), (3, .long (tgs (tgc af bf kq) (fun _ => 1) (yq + 1))), (5, .long (tgs (tgc af bf kq) (tga af) (yq + 1))), (7, .long (tgs (tgc af bf kq) (tgb bf kq) (yq + 1))), (9, .long (tgs (tgc af bf kq) (fun zy => tga af zy * tga af zy) (yq + 1))), (11, .long (tgs (tgc af bf kq) (fun zy => tgb bf kq zy * tgb bf kq zy) yq)), (13, .long (tgs (tgc af bf kq) (fun zy => tga af zy * tgb bf kq zy) yq)), (15, .int (nI yq))]) (congrArg (fun zz => ([(18, .long ((bf ((yq + 24 - kq) % 24)).toInt64)), (16, .long ((af yq).toInt64)), (0, .ref (gad G 0)), (1, .int (nI kq)), (2, .ref (gad G 8)), (3, .long (tgs (tgc af bf kq) (fun _ => 1) (yq + 1))), (5, .long (tgs (tgc af bf kq) (tga af) (yq + 1))), (7, .long (tgs (tgc af bf kq) (tgb bf kq) (yq + 1))), (9, .long zz), (11, .long (tgs (tgc af bf kq) (fun zy => tgb bf kq zy * tgb bf kq zy) yq)), (13, .long (tgs (tgc af bf kq) (fun zy => tga af zy * tgb bf kq zy) yq)), (15, .int (nI yq))] : List (Nat × Value))) (tgs_n hcb)) ?_
          refine r_lv (lv' := [(18, .long ((bf ((yq + 24 - kq) % 24)).toInt64)), (16, .long ((af yq).toInt64)), (0, .ref (gad G 0)), (1, .int (nI kq)), (2, .ref (gad G 8)), (3, .long (tgs (tgc af bf kq) (fun _ => 1) (yq + 1))), (5, .long (tgs (tgc af bf kq) (tga af) (yq + 1))), (7, .long (tgs (tgc af bf kq) (tgb bf kq) (yq + 1))), (9, .long (tgs (tgc af bf kq) (fun zy => tga af zy * tga af zy) (yq + 1))), (11, .long (tgs (tgc af bf kq) (fun zy => tgb bf kq zy * tgb bf kq zy) (yq + 1))), (13, .long (tgs (tgc af bf kq) (fun zy => tga af zy * tgb bf kq zy) yq)), (15, .int (nI yq))]) (congrArg (fun zz => ([(18, .long ((bf ((yq + 24 - kq) % 24)).toInt64)), (16, .long ((af yq).toInt64)), (0, .ref (gad G 0)), (1, .int (nI kq)), (2, .ref (gad G 8)), (3, .long (tgs (tgc af bf kq) (fun _ => 1) (yq + 1))), (5, .long (tgs (tgc af bf kq) (tga af) (yq + 1))), (7, .long (tgs (tgc af bf kq) (tgb bf kq) (yq + 1))), (9, .long (tgs (tgc af bf kq) (fun zy => tga af zy * tga af zy) (yq + 1))), (11, .long zz), (13, .long (tgs (tgc af bf kq) (fun zy => tga af zy * tgb bf kq zy) yq)), (15, .int (nI yq))] : List (Nat × Value))) (tgs_n hcb)) ?_
          refine r_lv (lv' := [(18, .long ((bf ((yq + 24 - kq) % 24)).toInt64)), (16, .long ((af yq).toInt64)), (0, .ref (gad G 0)), (1, .int (nI kq)), (2, .ref (gad G 8)), (3, .long (tgs (tgc af bf kq) (fun _ => 1) (yq + 1))), (5, .long (tgs (tgc af bf kq) (tga af) (yq + 1))), (7, .long (tgs (tgc af bf kq) (tgb bf kq) (yq + 1))), (9, .long (tgs (tgc af bf kq) (fun zy => tga af zy * tga af zy) (yq + 1))), (11, .long (tgs (tgc af bf kq) (fun zy => tgb bf kq zy * tgb bf kq zy) (yq + 1))), (13, .long (tgs (tgc af bf kq) (fun zy => tga af zy * tgb bf kq zy) (yq + 1))), (15, .int (nI yq))]) (congrArg (fun zz => ([(18, .long ((bf ((yq + 24 - kq) % 24)).toInt64)), (16, .long ((af yq).toInt64)), (0, .ref (gad G 0)), (1, .int (nI kq)), (2, .ref (gad G 8)), (3, .long (tgs (tgc af bf kq) (fun _ => 1) (yq + 1))), (5, .long (tgs (tgc af bf kq) (tga af) (yq + 1))), (7, .long (tgs (tgc af bf kq) (tgb bf kq) (yq + 1))), (9, .long (tgs (tgc af bf kq) (fun zy => tga af zy * tga af zy) (yq + 1))), (11, .long (tgs (tgc af bf kq) (fun zy => tgb bf kq zy * tgb bf kq zy) (yq + 1))), (13, .long zz), (15, .int (nI yq))] : List (Nat × Value))) (tgs_n hcb)) ?_
          refine r_iinc o (v := nI (yq + 1)) (lv' := [(15, .int (nI (yq + 1))), (18, .long ((bf ((yq + 24 - kq) % 24)).toInt64)), (16, .long ((af yq).toInt64)), (0, .ref (gad G 0)), (1, .int (nI kq)), (2, .ref (gad G 8)), (3, .long (tgs (tgc af bf kq) (fun _ => 1) (yq + 1))), (5, .long (tgs (tgc af bf kq) (tga af) (yq + 1))), (7, .long (tgs (tgc af bf kq) (tgb bf kq) (yq + 1))), (9, .long (tgs (tgc af bf kq) (fun zy => tga af zy * tga af zy) (yq + 1))), (11, .long (tgs (tgc af bf kq) (fun zy => tgb bf kq zy * tgb bf kq zy) (yq + 1))), (13, .long (tgs (tgc af bf kq) (fun zy => tga af zy * tgb bf kq zy) (yq + 1)))]) dX9_putTogether_127 11 rfl (nI_inc _) (by decide) rfl ?_
          refine r_goto o (tgt := 20) dX9_putTogether_130 (by decide) ?_
          exact r_to rfl [3, 4, 5, 6, 7, 8, 9, 10, 11, 0] rfl (ih20 (yq + 1) (by omega) (by omega))
        · skip
          rw [lg_cmp_eq] at hb67
          rw [gapL] at hb67
          refine r_lload o dX9_putTogether_70 0 rfl ?_
          refine r_ldc2_w o mw_511 dX9_putTogether_72 ?_
          refine r_lcmp o dX9_putTogether_75 ?_
          refine r_if_eq o (tgt := 127) dX9_putTogether_76 (by decide) (fun hb76 => ?_) (fun hb76 => ?_)
          · skip
            rw [lg_cmp_eq] at hb76
            rw [gapL] at hb76
            have hcb : tgc af bf kq yq = false := by unfold tgc; rw [decide_eq_true hb76]; simp
            refine r_lv (lv' := [(18, .long ((bf ((yq + 24 - kq) % 24)).toInt64)), (16, .long ((af yq).toInt64)), (0, .ref (gad G 0)), (1, .int (nI kq)), (2, .ref (gad G 8)), (3, .long (tgs (tgc af bf kq) (fun _ => 1) (yq + 1))), (5, .long (tgs (tgc af bf kq) (tga af) yq)), (7, .long (tgs (tgc af bf kq) (tgb bf kq) yq)), (9, .long (tgs (tgc af bf kq) (fun zy => tga af zy * tga af zy) yq)), (11, .long (tgs (tgc af bf kq) (fun zy => tgb bf kq zy * tgb bf kq zy) yq)), (13, .long (tgs (tgc af bf kq) (fun zy => tga af zy * tgb bf kq zy) yq)), (15, .int (nI yq))]) (congrArg (fun zz => ([(18, .long ((bf ((yq + 24 - kq) % 24)).toInt64)), (16, .long ((af yq).toInt64)), (0, .ref (gad G 0)), (1, .int (nI kq)), (2, .ref (gad G 8)), (3, .long zz), (5, .long (tgs (tgc af bf kq) (tga af) yq)), (7, .long (tgs (tgc af bf kq) (tgb bf kq) yq)), (9, .long (tgs (tgc af bf kq) (fun zy => tga af zy * tga af zy) yq)), (11, .long (tgs (tgc af bf kq) (fun zy => tgb bf kq zy * tgb bf kq zy) yq)), (13, .long (tgs (tgc af bf kq) (fun zy => tga af zy * tgb bf kq zy) yq)), (15, .int (nI yq))] : List (Nat × Value))) (tgs_n hcb)) ?_
            refine r_lv (lv' := [(18, .long ((bf ((yq + 24 - kq) % 24)).toInt64)), (16, .long ((af yq).toInt64)), (0, .ref (gad G 0)), (1, .int (nI kq)), (2, .ref (gad G 8)), (3, .long (tgs (tgc af bf kq) (fun _ => 1) (yq + 1))), (5, .long (tgs (tgc af bf kq) (tga af) (yq + 1))), (7, .long (tgs (tgc af bf kq) (tgb bf kq) yq)), (9, .long (tgs (tgc af bf kq) (fun zy => tga af zy * tga af zy) yq)), (11, .long (tgs (tgc af bf kq) (fun zy => tgb bf kq zy * tgb bf kq zy) yq)), (13, .long (tgs (tgc af bf kq) (fun zy => tga af zy * tgb bf kq zy) yq)), (15, .int (nI yq))]) (congrArg (fun zz => ([(18, .long ((bf ((yq + 24 - kq) % 24)).toInt64)), (16, .long ((af yq).toInt64)), (0, .ref (gad G 0)), (1, .int (nI kq)), (2, .ref (gad G 8)), (3, .long (tgs (tgc af bf kq) (fun _ => 1) (yq + 1))), (5, .long zz), (7, .long (tgs (tgc af bf kq) (tgb bf kq) yq)), (9, .long (tgs (tgc af bf kq) (fun zy => tga af zy * tga af zy) yq)), (11, .long (tgs (tgc af bf kq) (fun zy => tgb bf kq zy * tgb bf kq zy) yq)), (13, .long (tgs (tgc af bf kq) (fun zy => tga af zy * tgb bf kq zy) yq)), (15, .int (nI yq))] : List (Nat × Value))) (tgs_n hcb)) ?_
            refine r_lv (lv' := [(18, .long ((bf ((yq + 24 - kq) % 24)).toInt64)), (16, .long ((af yq).toInt64)), (0, .ref (gad G 0)), (1, .int (nI kq)), (2, .ref (gad G 8)), (3, .long (tgs (tgc af bf kq) (fun _ => 1) (yq + 1))), (5, .long (tgs (tgc af bf kq) (tga af) (yq + 1))), (7, .long (tgs (tgc af bf kq) (tgb bf kq) (yq + 1))), (9, .long (tgs (tgc af bf kq) (fun zy => tga af zy * tga af zy) yq)), (11, .long (tgs (tgc af bf kq) (fun zy => tgb bf kq zy * tgb bf kq zy) yq)), (13, .long (tgs (tgc af bf kq) (fun zy => tga af zy * tgb bf kq zy) yq)), (15, .int (nI yq))]) (congrArg (fun zz => ([(18, .long ((bf ((yq + 24 - kq) % 24)).toInt64)), (16, .long ((af yq).toInt64)), (0, .ref (gad G 0)), (1, .int (nI kq)), (2, .ref (gad G 8)), (3, .long (tgs (tgc af bf kq) (fun _ => 1) (yq + 1))), (5, .long (tgs (tgc af bf kq) (tga af) (yq + 1))), (7, .long zz), (9, .long (tgs (tgc af bf kq) (fun zy => tga af zy * tga af zy) yq)), (11, .long (tgs (tgc af bf kq) (fun zy => tgb bf kq zy * tgb bf kq zy) yq)), (13, .long (tgs (tgc af bf kq) (fun zy => tga af zy * tgb bf kq zy) yq)), (15, .int (nI yq))] : List (Nat × Value))) (tgs_n hcb)) ?_
            refine r_lv (lv' := [(18, .long ((bf ((yq + 24 - kq) % 24)).toInt64)), (16, .long ((af yq).toInt64)), (0, .ref (gad G 0)), (1, .int (nI kq)), (2, .ref (gad G 8)), (3, .long (tgs (tgc af bf kq) (fun _ => 1) (yq + 1))), (5, .long (tgs (tgc af bf kq) (tga af) (yq + 1))), (7, .long (tgs (tgc af bf kq) (tgb bf kq) (yq + 1))), (9, .long (tgs (tgc af bf kq) (fun zy => tga af zy * tga af zy) (yq + 1))), (11, .long (tgs (tgc af bf kq) (fun zy => tgb bf kq zy * tgb bf kq zy) yq)), (13, .long (tgs (tgc af bf kq) (fun zy => tga af zy * tgb bf kq zy) yq)), (15, .int (nI yq))]) (congrArg (fun zz => ([(18, .long ((bf ((yq + 24 - kq) % 24)).toInt64)), (16, .long ((af yq).toInt64)), (0, .ref (gad G 0)), (1, .int (nI kq)), (2, .ref (gad G 8)), (3, .long (tgs (tgc af bf kq) (fun _ => 1) (yq + 1))), (5, .long (tgs (tgc af bf kq) (tga af) (yq + 1))), (7, .long (tgs (tgc af bf kq) (tgb bf kq) (yq + 1))), (9, .long zz), (11, .long (tgs (tgc af bf kq) (fun zy => tgb bf kq zy * tgb bf kq zy) yq)), (13, .long (tgs (tgc af bf kq) (fun zy => tga af zy * tgb bf kq zy) yq)), (15, .int (nI yq))] : List (Nat × Value))) (tgs_n hcb)) ?_
            refine r_lv (lv' := [(18, .long ((bf ((yq + 24 - kq) % 24)).toInt64)), (16, .long ((af yq).toInt64)), (0, .ref (gad G 0)), (1, .int (nI kq)), (2, .ref (gad G 8)), (3, .long (tgs (tgc af bf kq) (fun _ => 1) (yq + 1))), (5, .long (tgs (tgc af bf kq) (tga af) (yq + 1))), (7, .long (tgs (tgc af bf kq) (tgb bf kq) (yq + 1))), (9, .long (tgs (tgc af bf kq) (fun zy => tga af zy * tga af zy) (yq + 1))), (11, .long (tgs (tgc af bf kq) (fun zy => tgb bf kq zy * tgb bf kq zy) (yq + 1))), (13, .long (tgs (tgc af bf kq) (fun zy => tga af zy * tgb bf kq zy) yq)), (15, .int (nI yq))]) (congrArg (fun zz => ([(18, .long ((bf ((yq + 24 - kq) % 24)).toInt64)), (16, .long ((af yq).toInt64)), (0, .ref (gad G 0)), (1, .int (nI kq)), (2, .ref (gad G 8)), (3, .long (tgs (tgc af bf kq) (fun _ => 1) (yq + 1))), (5, .long (tgs (tgc af bf kq) (tga af) (yq + 1))), (7, .long (tgs (tgc af bf kq) (tgb bf kq) (yq + 1))), (9, .long (tgs (tgc af bf kq) (fun zy => tga af zy * tga af zy) (yq + 1))), (11, .long zz), (13, .long (tgs (tgc af bf kq) (fun zy => tga af zy * tgb bf kq zy) yq)), (15, .int (nI yq))] : List (Nat × Value))) (tgs_n hcb)) ?_
            refine r_lv (lv' := [(18, .long ((bf ((yq + 24 - kq) % 24)).toInt64)), (16, .long ((af yq).toInt64)), (0, .ref (gad G 0)), (1, .int (nI kq)), (2, .ref (gad G 8)), (3, .long (tgs (tgc af bf kq) (fun _ => 1) (yq + 1))), (5, .long (tgs (tgc af bf kq) (tga af) (yq + 1))), (7, .long (tgs (tgc af bf kq) (tgb bf kq) (yq + 1))), (9, .long (tgs (tgc af bf kq) (fun zy => tga af zy * tga af zy) (yq + 1))), (11, .long (tgs (tgc af bf kq) (fun zy => tgb bf kq zy * tgb bf kq zy) (yq + 1))), (13, .long (tgs (tgc af bf kq) (fun zy => tga af zy * tgb bf kq zy) (yq + 1))), (15, .int (nI yq))]) (congrArg (fun zz => ([(18, .long ((bf ((yq + 24 - kq) % 24)).toInt64)), (16, .long ((af yq).toInt64)), (0, .ref (gad G 0)), (1, .int (nI kq)), (2, .ref (gad G 8)), (3, .long (tgs (tgc af bf kq) (fun _ => 1) (yq + 1))), (5, .long (tgs (tgc af bf kq) (tga af) (yq + 1))), (7, .long (tgs (tgc af bf kq) (tgb bf kq) (yq + 1))), (9, .long (tgs (tgc af bf kq) (fun zy => tga af zy * tga af zy) (yq + 1))), (11, .long (tgs (tgc af bf kq) (fun zy => tgb bf kq zy * tgb bf kq zy) (yq + 1))), (13, .long zz), (15, .int (nI yq))] : List (Nat × Value))) (tgs_n hcb)) ?_
            refine r_iinc o (v := nI (yq + 1)) (lv' := [(15, .int (nI (yq + 1))), (18, .long ((bf ((yq + 24 - kq) % 24)).toInt64)), (16, .long ((af yq).toInt64)), (0, .ref (gad G 0)), (1, .int (nI kq)), (2, .ref (gad G 8)), (3, .long (tgs (tgc af bf kq) (fun _ => 1) (yq + 1))), (5, .long (tgs (tgc af bf kq) (tga af) (yq + 1))), (7, .long (tgs (tgc af bf kq) (tgb bf kq) (yq + 1))), (9, .long (tgs (tgc af bf kq) (fun zy => tga af zy * tga af zy) (yq + 1))), (11, .long (tgs (tgc af bf kq) (fun zy => tgb bf kq zy * tgb bf kq zy) (yq + 1))), (13, .long (tgs (tgc af bf kq) (fun zy => tga af zy * tgb bf kq zy) (yq + 1)))]) dX9_putTogether_127 11 rfl (nI_inc _) (by decide) rfl ?_
            refine r_goto o (tgt := 20) dX9_putTogether_130 (by decide) ?_
            exact r_to rfl [3, 4, 5, 6, 7, 8, 9, 10, 11, 0] rfl (ih20 (yq + 1) (by omega) (by omega))
          · skip
            rw [lg_cmp_eq] at hb76
            rw [gapL] at hb76
            have hcb : tgc af bf kq yq = true := by unfold tgc; rw [decide_eq_false hb67, decide_eq_false hb76]; rfl
            refine r_lload_n o dX9_putTogether_79 5 rfl ?_
            refine r_lconst o (v := 1) dX9_putTogether_80 rfl ?_
            refine r_ladd o dX9_putTogether_81 ?_
            refine r_lstore_n o (lv' := [(3, .long ((tgs (tgc af bf kq) (fun _ => 1) yq) + 1)), (18, .long ((bf ((yq + 24 - kq) % 24)).toInt64)), (16, .long ((af yq).toInt64)), (0, .ref (gad G 0)), (1, .int (nI kq)), (2, .ref (gad G 8)), (5, .long (tgs (tgc af bf kq) (tga af) yq)), (7, .long (tgs (tgc af bf kq) (tgb bf kq) yq)), (9, .long (tgs (tgc af bf kq) (fun zy => tga af zy * tga af zy) yq)), (11, .long (tgs (tgc af bf kq) (fun zy => tgb bf kq zy * tgb bf kq zy) yq)), (13, .long (tgs (tgc af bf kq) (fun zy => tga af zy * tgb bf kq zy) yq)), (15, .int (nI yq))]) dX9_putTogether_82 (by decide) rfl ?_
            refine r_lload o dX9_putTogether_83 6 rfl ?_
            refine r_lload o dX9_putTogether_85 2 rfl ?_
            refine r_ladd o dX9_putTogether_87 ?_
            refine r_lstore o (lv' := [(5, .long ((tgs (tgc af bf kq) (tga af) yq) + ((af yq).toInt64))), (3, .long ((tgs (tgc af bf kq) (fun _ => 1) yq) + 1)), (18, .long ((bf ((yq + 24 - kq) % 24)).toInt64)), (16, .long ((af yq).toInt64)), (0, .ref (gad G 0)), (1, .int (nI kq)), (2, .ref (gad G 8)), (7, .long (tgs (tgc af bf kq) (tgb bf kq) yq)), (9, .long (tgs (tgc af bf kq) (fun zy => tga af zy * tga af zy) yq)), (11, .long (tgs (tgc af bf kq) (fun zy => tgb bf kq zy * tgb bf kq zy) yq)), (13, .long (tgs (tgc af bf kq) (fun zy => tga af zy * tgb bf kq zy) yq)), (15, .int (nI yq))]) dX9_putTogether_88 (by decide) rfl ?_
            refine r_lload o dX9_putTogether_90 7 rfl ?_
            refine r_lload o dX9_putTogether_92 2 rfl ?_
            refine r_ladd o dX9_putTogether_94 ?_
            refine r_lstore o (lv' := [(7, .long ((tgs (tgc af bf kq) (tgb bf kq) yq) + ((bf ((yq + 24 - kq) % 24)).toInt64))), (5, .long ((tgs (tgc af bf kq) (tga af) yq) + ((af yq).toInt64))), (3, .long ((tgs (tgc af bf kq) (fun _ => 1) yq) + 1)), (18, .long ((bf ((yq + 24 - kq) % 24)).toInt64)), (16, .long ((af yq).toInt64)), (0, .ref (gad G 0)), (1, .int (nI kq)), (2, .ref (gad G 8)), (9, .long (tgs (tgc af bf kq) (fun zy => tga af zy * tga af zy) yq)), (11, .long (tgs (tgc af bf kq) (fun zy => tgb bf kq zy * tgb bf kq zy) yq)), (13, .long (tgs (tgc af bf kq) (fun zy => tga af zy * tgb bf kq zy) yq)), (15, .int (nI yq))]) dX9_putTogether_95 (by decide) rfl ?_
            refine r_lload o dX9_putTogether_97 8 rfl ?_
            refine r_lload o dX9_putTogether_99 4 rfl ?_
            refine r_lload o dX9_putTogether_101 4 rfl ?_
            refine r_lmul o dX9_putTogether_103 ?_
            refine r_ladd o dX9_putTogether_104 ?_
            refine r_lstore o (lv' := [(9, .long ((tgs (tgc af bf kq) (fun zy => tga af zy * tga af zy) yq) + (((af yq).toInt64) * ((af yq).toInt64)))), (7, .long ((tgs (tgc af bf kq) (tgb bf kq) yq) + ((bf ((yq + 24 - kq) % 24)).toInt64))), (5, .long ((tgs (tgc af bf kq) (tga af) yq) + ((af yq).toInt64))), (3, .long ((tgs (tgc af bf kq) (fun _ => 1) yq) + 1)), (18, .long ((bf ((yq + 24 - kq) % 24)).toInt64)), (16, .long ((af yq).toInt64)), (0, .ref (gad G 0)), (1, .int (nI kq)), (2, .ref (gad G 8)), (11, .long (tgs (tgc af bf kq) (fun zy => tgb bf kq zy * tgb bf kq zy) yq)), (13, .long (tgs (tgc af bf kq) (fun zy => tga af zy * tgb bf kq zy) yq)), (15, .int (nI yq))]) dX9_putTogether_105 (by decide) rfl ?_
            refine r_lload o dX9_putTogether_107 9 rfl ?_
            refine r_lload o dX9_putTogether_109 4 rfl ?_
            refine r_lload o dX9_putTogether_111 4 rfl ?_
            refine r_lmul o dX9_putTogether_113 ?_
            refine r_ladd o dX9_putTogether_114 ?_
            refine r_lstore o (lv' := [(11, .long ((tgs (tgc af bf kq) (fun zy => tgb bf kq zy * tgb bf kq zy) yq) + (((bf ((yq + 24 - kq) % 24)).toInt64) * ((bf ((yq + 24 - kq) % 24)).toInt64)))), (9, .long ((tgs (tgc af bf kq) (fun zy => tga af zy * tga af zy) yq) + (((af yq).toInt64) * ((af yq).toInt64)))), (7, .long ((tgs (tgc af bf kq) (tgb bf kq) yq) + ((bf ((yq + 24 - kq) % 24)).toInt64))), (5, .long ((tgs (tgc af bf kq) (tga af) yq) + ((af yq).toInt64))), (3, .long ((tgs (tgc af bf kq) (fun _ => 1) yq) + 1)), (18, .long ((bf ((yq + 24 - kq) % 24)).toInt64)), (16, .long ((af yq).toInt64)), (0, .ref (gad G 0)), (1, .int (nI kq)), (2, .ref (gad G 8)), (13, .long (tgs (tgc af bf kq) (fun zy => tga af zy * tgb bf kq zy) yq)), (15, .int (nI yq))]) dX9_putTogether_115 (by decide) rfl ?_
            refine r_lload o dX9_putTogether_117 10 rfl ?_
            refine r_lload o dX9_putTogether_119 6 rfl ?_
            refine r_lload o dX9_putTogether_121 5 rfl ?_
            refine r_lmul o dX9_putTogether_123 ?_
            refine r_ladd o dX9_putTogether_124 ?_
            refine r_lstore o (lv' := [(13, .long ((tgs (tgc af bf kq) (fun zy => tga af zy * tgb bf kq zy) yq) + (((af yq).toInt64) * ((bf ((yq + 24 - kq) % 24)).toInt64)))), (11, .long ((tgs (tgc af bf kq) (fun zy => tgb bf kq zy * tgb bf kq zy) yq) + (((bf ((yq + 24 - kq) % 24)).toInt64) * ((bf ((yq + 24 - kq) % 24)).toInt64)))), (9, .long ((tgs (tgc af bf kq) (fun zy => tga af zy * tga af zy) yq) + (((af yq).toInt64) * ((af yq).toInt64)))), (7, .long ((tgs (tgc af bf kq) (tgb bf kq) yq) + ((bf ((yq + 24 - kq) % 24)).toInt64))), (5, .long ((tgs (tgc af bf kq) (tga af) yq) + ((af yq).toInt64))), (3, .long ((tgs (tgc af bf kq) (fun _ => 1) yq) + 1)), (18, .long ((bf ((yq + 24 - kq) % 24)).toInt64)), (16, .long ((af yq).toInt64)), (0, .ref (gad G 0)), (1, .int (nI kq)), (2, .ref (gad G 8)), (15, .int (nI yq))]) dX9_putTogether_125 (by decide) rfl ?_
            refine r_lv (lv' := [(13, .long ((tgs (tgc af bf kq) (fun zy => tga af zy * tgb bf kq zy) yq) + (((af yq).toInt64) * ((bf ((yq + 24 - kq) % 24)).toInt64)))), (11, .long ((tgs (tgc af bf kq) (fun zy => tgb bf kq zy * tgb bf kq zy) yq) + (((bf ((yq + 24 - kq) % 24)).toInt64) * ((bf ((yq + 24 - kq) % 24)).toInt64)))), (9, .long ((tgs (tgc af bf kq) (fun zy => tga af zy * tga af zy) yq) + (((af yq).toInt64) * ((af yq).toInt64)))), (7, .long ((tgs (tgc af bf kq) (tgb bf kq) yq) + ((bf ((yq + 24 - kq) % 24)).toInt64))), (5, .long ((tgs (tgc af bf kq) (tga af) yq) + ((af yq).toInt64))), (3, .long (tgs (tgc af bf kq) (fun _ => 1) (yq + 1))), (18, .long ((bf ((yq + 24 - kq) % 24)).toInt64)), (16, .long ((af yq).toInt64)), (0, .ref (gad G 0)), (1, .int (nI kq)), (2, .ref (gad G 8)), (15, .int (nI yq))]) (congrArg (fun zz => ([(13, .long ((tgs (tgc af bf kq) (fun zy => tga af zy * tgb bf kq zy) yq) + (((af yq).toInt64) * ((bf ((yq + 24 - kq) % 24)).toInt64)))), (11, .long ((tgs (tgc af bf kq) (fun zy => tgb bf kq zy * tgb bf kq zy) yq) + (((bf ((yq + 24 - kq) % 24)).toInt64) * ((bf ((yq + 24 - kq) % 24)).toInt64)))), (9, .long ((tgs (tgc af bf kq) (fun zy => tga af zy * tga af zy) yq) + (((af yq).toInt64) * ((af yq).toInt64)))), (7, .long ((tgs (tgc af bf kq) (tgb bf kq) yq) + ((bf ((yq + 24 - kq) % 24)).toInt64))), (5, .long ((tgs (tgc af bf kq) (tga af) yq) + ((af yq).toInt64))), (3, .long zz), (18, .long ((bf ((yq + 24 - kq) % 24)).toInt64)), (16, .long ((af yq).toInt64)), (0, .ref (gad G 0)), (1, .int (nI kq)), (2, .ref (gad G 8)), (15, .int (nI yq))] : List (Nat × Value))) (tgs_y hcb)) ?_
            refine r_lv (lv' := [(13, .long ((tgs (tgc af bf kq) (fun zy => tga af zy * tgb bf kq zy) yq) + (((af yq).toInt64) * ((bf ((yq + 24 - kq) % 24)).toInt64)))), (11, .long ((tgs (tgc af bf kq) (fun zy => tgb bf kq zy * tgb bf kq zy) yq) + (((bf ((yq + 24 - kq) % 24)).toInt64) * ((bf ((yq + 24 - kq) % 24)).toInt64)))), (9, .long ((tgs (tgc af bf kq) (fun zy => tga af zy * tga af zy) yq) + (((af yq).toInt64) * ((af yq).toInt64)))), (7, .long ((tgs (tgc af bf kq) (tgb bf kq) yq) + ((bf ((yq + 24 - kq) % 24)).toInt64))), (5, .long (tgs (tgc af bf kq) (tga af) (yq + 1))), (3, .long (tgs (tgc af bf kq) (fun _ => 1) (yq + 1))), (18, .long ((bf ((yq + 24 - kq) % 24)).toInt64)), (16, .long ((af yq).toInt64)), (0, .ref (gad G 0)), (1, .int (nI kq)), (2, .ref (gad G 8)), (15, .int (nI yq))]) (congrArg (fun zz => ([(13, .long ((tgs (tgc af bf kq) (fun zy => tga af zy * tgb bf kq zy) yq) + (((af yq).toInt64) * ((bf ((yq + 24 - kq) % 24)).toInt64)))), (11, .long ((tgs (tgc af bf kq) (fun zy => tgb bf kq zy * tgb bf kq zy) yq) + (((bf ((yq + 24 - kq) % 24)).toInt64) * ((bf ((yq + 24 - kq) % 24)).toInt64)))), (9, .long ((tgs (tgc af bf kq) (fun zy => tga af zy * tga af zy) yq) + (((af yq).toInt64) * ((af yq).toInt64)))), (7, .long ((tgs (tgc af bf kq) (tgb bf kq) yq) + ((bf ((yq + 24 - kq) % 24)).toInt64))), (5, .long zz), (3, .long (tgs (tgc af bf kq) (fun _ => 1) (yq + 1))), (18, .long ((bf ((yq + 24 - kq) % 24)).toInt64)), (16, .long ((af yq).toInt64)), (0, .ref (gad G 0)), (1, .int (nI kq)), (2, .ref (gad G 8)), (15, .int (nI yq))] : List (Nat × Value))) (tgs_y hcb)) ?_
            refine r_lv (lv' := [(13, .long ((tgs (tgc af bf kq) (fun zy => tga af zy * tgb bf kq zy) yq) + (((af yq).toInt64) * ((bf ((yq + 24 - kq) % 24)).toInt64)))), (11, .long ((tgs (tgc af bf kq) (fun zy => tgb bf kq zy * tgb bf kq zy) yq) + (((bf ((yq + 24 - kq) % 24)).toInt64) * ((bf ((yq + 24 - kq) % 24)).toInt64)))), (9, .long ((tgs (tgc af bf kq) (fun zy => tga af zy * tga af zy) yq) + (((af yq).toInt64) * ((af yq).toInt64)))), (7, .long (tgs (tgc af bf kq) (tgb bf kq) (yq + 1))), (5, .long (tgs (tgc af bf kq) (tga af) (yq + 1))), (3, .long (tgs (tgc af bf kq) (fun _ => 1) (yq + 1))), (18, .long ((bf ((yq + 24 - kq) % 24)).toInt64)), (16, .long ((af yq).toInt64)), (0, .ref (gad G 0)), (1, .int (nI kq)), (2, .ref (gad G 8)), (15, .int (nI yq))]) (congrArg (fun zz => ([(13, .long ((tgs (tgc af bf kq) (fun zy => tga af zy * tgb bf kq zy) yq) + (((af yq).toInt64) * ((bf ((yq + 24 - kq) % 24)).toInt64)))), (11, .long ((tgs (tgc af bf kq) (fun zy => tgb bf kq zy * tgb bf kq zy) yq) + (((bf ((yq + 24 - kq) % 24)).toInt64) * ((bf ((yq + 24 - kq) % 24)).toInt64)))), (9, .long ((tgs (tgc af bf kq) (fun zy => tga af zy * tga af zy) yq) + (((af yq).toInt64) * ((af yq).toInt64)))), (7, .long zz), (5, .long (tgs (tgc af bf kq) (tga af) (yq + 1))), (3, .long (tgs (tgc af bf kq) (fun _ => 1) (yq + 1))), (18, .long ((bf ((yq + 24 - kq) % 24)).toInt64)), (16, .long ((af yq).toInt64)), (0, .ref (gad G 0)), (1, .int (nI kq)), (2, .ref (gad G 8)), (15, .int (nI yq))] : List (Nat × Value))) (tgs_y hcb)) ?_
            refine r_lv (lv' := [(13, .long ((tgs (tgc af bf kq) (fun zy => tga af zy * tgb bf kq zy) yq) + (((af yq).toInt64) * ((bf ((yq + 24 - kq) % 24)).toInt64)))), (11, .long ((tgs (tgc af bf kq) (fun zy => tgb bf kq zy * tgb bf kq zy) yq) + (((bf ((yq + 24 - kq) % 24)).toInt64) * ((bf ((yq + 24 - kq) % 24)).toInt64)))), (9, .long (tgs (tgc af bf kq) (fun zy => tga af zy * tga af zy) (yq + 1))), (7, .long (tgs (tgc af bf kq) (tgb bf kq) (yq + 1))), (5, .long (tgs (tgc af bf kq) (tga af) (yq + 1))), (3, .long (tgs (tgc af bf kq) (fun _ => 1) (yq + 1))), (18, .long ((bf ((yq + 24 - kq) % 24)).toInt64)), (16, .long ((af yq).toInt64)), (0, .ref (gad G 0)), (1, .int (nI kq)), (2, .ref (gad G 8)), (15, .int (nI yq))]) (congrArg (fun zz => ([(13, .long ((tgs (tgc af bf kq) (fun zy => tga af zy * tgb bf kq zy) yq) + (((af yq).toInt64) * ((bf ((yq + 24 - kq) % 24)).toInt64)))), (11, .long ((tgs (tgc af bf kq) (fun zy => tgb bf kq zy * tgb bf kq zy) yq) + (((bf ((yq + 24 - kq) % 24)).toInt64) * ((bf ((yq + 24 - kq) % 24)).toInt64)))), (9, .long zz), (7, .long (tgs (tgc af bf kq) (tgb bf kq) (yq + 1))), (5, .long (tgs (tgc af bf kq) (tga af) (yq + 1))), (3, .long (tgs (tgc af bf kq) (fun _ => 1) (yq + 1))), (18, .long ((bf ((yq + 24 - kq) % 24)).toInt64)), (16, .long ((af yq).toInt64)), (0, .ref (gad G 0)), (1, .int (nI kq)), (2, .ref (gad G 8)), (15, .int (nI yq))] : List (Nat × Value))) (tgs_y hcb)) ?_
            refine r_lv (lv' := [(13, .long ((tgs (tgc af bf kq) (fun zy => tga af zy * tgb bf kq zy) yq) + (((af yq).toInt64) * ((bf ((yq + 24 - kq) % 24)).toInt64)))), (11, .long (tgs (tgc af bf kq) (fun zy => tgb bf kq zy * tgb bf kq zy) (yq + 1))), (9, .long (tgs (tgc af bf kq) (fun zy => tga af zy * tga af zy) (yq + 1))), (7, .long (tgs (tgc af bf kq) (tgb bf kq) (yq + 1))), (5, .long (tgs (tgc af bf kq) (tga af) (yq + 1))), (3, .long (tgs (tgc af bf kq) (fun _ => 1) (yq + 1))), (18, .long ((bf ((yq + 24 - kq) % 24)).toInt64)), (16, .long ((af yq).toInt64)), (0, .ref (gad G 0)), (1, .int (nI kq)), (2, .ref (gad G 8)), (15, .int (nI yq))]) (congrArg (fun zz => ([(13, .long ((tgs (tgc af bf kq) (fun zy => tga af zy * tgb bf kq zy) yq) + (((af yq).toInt64) * ((bf ((yq + 24 - kq) % 24)).toInt64)))), (11, .long zz), (9, .long (tgs (tgc af bf kq) (fun zy => tga af zy * tga af zy) (yq + 1))), (7, .long (tgs (tgc af bf kq) (tgb bf kq) (yq + 1))), (5, .long (tgs (tgc af bf kq) (tga af) (yq + 1))), (3, .long (tgs (tgc af bf kq) (fun _ => 1) (yq + 1))), (18, .long ((bf ((yq + 24 - kq) % 24)).toInt64)), (16, .long ((af yq).toInt64)), (0, .ref (gad G 0)), (1, .int (nI kq)), (2, .ref (gad G 8)), (15, .int (nI yq))] : List (Nat × Value))) (tgs_y hcb)) ?_
            refine r_lv (lv' := [(13, .long (tgs (tgc af bf kq) (fun zy => tga af zy * tgb bf kq zy) (yq + 1))), (11, .long (tgs (tgc af bf kq) (fun zy => tgb bf kq zy * tgb bf kq zy) (yq + 1))), (9, .long (tgs (tgc af bf kq) (fun zy => tga af zy * tga af zy) (yq + 1))), (7, .long (tgs (tgc af bf kq) (tgb bf kq) (yq + 1))), (5, .long (tgs (tgc af bf kq) (tga af) (yq + 1))), (3, .long (tgs (tgc af bf kq) (fun _ => 1) (yq + 1))), (18, .long ((bf ((yq + 24 - kq) % 24)).toInt64)), (16, .long ((af yq).toInt64)), (0, .ref (gad G 0)), (1, .int (nI kq)), (2, .ref (gad G 8)), (15, .int (nI yq))]) (congrArg (fun zz => ([(13, .long zz), (11, .long (tgs (tgc af bf kq) (fun zy => tgb bf kq zy * tgb bf kq zy) (yq + 1))), (9, .long (tgs (tgc af bf kq) (fun zy => tga af zy * tga af zy) (yq + 1))), (7, .long (tgs (tgc af bf kq) (tgb bf kq) (yq + 1))), (5, .long (tgs (tgc af bf kq) (tga af) (yq + 1))), (3, .long (tgs (tgc af bf kq) (fun _ => 1) (yq + 1))), (18, .long ((bf ((yq + 24 - kq) % 24)).toInt64)), (16, .long ((af yq).toInt64)), (0, .ref (gad G 0)), (1, .int (nI kq)), (2, .ref (gad G 8)), (15, .int (nI yq))] : List (Nat × Value))) (tgs_y hcb)) ?_
            refine r_iinc o (v := nI (yq + 1)) (lv' := [(15, .int (nI (yq + 1))), (13, .long (tgs (tgc af bf kq) (fun zy => tga af zy * tgb bf kq zy) (yq + 1))), (11, .long (tgs (tgc af bf kq) (fun zy => tgb bf kq zy * tgb bf kq zy) (yq + 1))), (9, .long (tgs (tgc af bf kq) (fun zy => tga af zy * tga af zy) (yq + 1))), (7, .long (tgs (tgc af bf kq) (tgb bf kq) (yq + 1))), (5, .long (tgs (tgc af bf kq) (tga af) (yq + 1))), (3, .long (tgs (tgc af bf kq) (fun _ => 1) (yq + 1))), (18, .long ((bf ((yq + 24 - kq) % 24)).toInt64)), (16, .long ((af yq).toInt64)), (0, .ref (gad G 0)), (1, .int (nI kq)), (2, .ref (gad G 8))]) dX9_putTogether_127 11 rfl (nI_inc _) (by decide) rfl ?_
            refine r_goto o (tgt := 20) dX9_putTogether_130 (by decide) ?_
            exact r_to rfl [9, 10, 11, 6, 5, 4, 3, 2, 1, 0] rfl (ih20 (yq + 1) (by omega) (by omega))
  exact r_to rfl [7, 8, 9, 6, 5, 4, 3, 2, 1, 0] rfl (L20 _ 0 (by omega) (Nat.lt_succ_self _))
set_option maxHeartbeats 4000000 in
set_option maxRecDepth 100000 in
theorem c_X9_together (l : Launch) (G : Gl) (σ : Sto) (sn : Nat → Nat) (cntq : Nat) (hp : PadO σ sn cntq) (rz : Int32) (s2z : Int32) (kz : Int32) (pz : Int32) : CtL l G yX9_together cX9_together 6 (some .long) 6 134 [.ref (gad G 0), .int rz, .int s2z, .int kz, .int pz] σ (fun r σ' => r = (if refI (inB (nI 0) (nI 5) rz && inB (nI 0) (nI 5) s2z) (inB (nI 0) (nI 23) kz && inB (nI 0) (nI 1) pz) (fltF sn cntq 21 0) = 0 then (if pz = 0 then fU (tgU (dlF σ sn cntq rz.toNatClampNeg) (dlF σ sn cntq s2z.toNatClampNeg) kz.toNatClampNeg) (tgD (dlF σ sn cntq rz.toNatClampNeg) (dlF σ sn cntq s2z.toNatClampNeg) kz.toNatClampNeg) else fL (tgU (dlF σ sn cntq rz.toNatClampNeg) (dlF σ sn cntq s2z.toNatClampNeg) kz.toNatClampNeg) (tgD (dlF σ sn cntq rz.toNatClampNeg) (dlF σ sn cntq s2z.toNatClampNeg) kz.toNatClampNeg)) else LOSTq + (refI (inB (nI 0) (nI 5) rz && inB (nI 0) (nI 5) s2z) (inB (nI 0) (nI 23) kz && inB (nI 0) (nI 1) pz) (fltF sn cntq 21 0)).toInt64) ∧ keepC σ σ') := by
  refine CtL.of (by decide +kernel) (Nat.le_of_ble_eq_true rfl) (fun X o q => ?_)
  show WS X G 6 σ 0 [(0, .ref (gad G 0)), (1, .int rz), (2, .int s2z), (3, .int kz), (4, .int pz)] []
  obtain ⟨hcq, hcnt, hsg, hsn⟩ := id hp
  refine r_aload_n o dX9_together_0 0 rfl ?_
  refine r_iload_n o dX9_together_1 1 rfl ?_
  refine r_callSI o (As := [.int rz]) (st := [.ref (gad G 0)]) (c_X9_isRow (xl X) G σ rz) om_X9_isRow mw_275 mw_274 (by decide) rfl rfl (Nat.le_of_ble_eq_true rfl) dX9_together_2 (fun rr2 σσ2 hp2 => ?_)
  obtain ⟨hp2, hp2b⟩ := hp2; replace hp2 := Eq.symm hp2; replace hp2b := Eq.symm hp2b; subst hp2; subst hp2b
  refine r_if_eq o (tgt := 19) dX9_together_5 (by decide) (fun hb5 => ?_) (fun hb5 => ?_)
  · skip
    rw [b01_eq0] at hb5
    refine r_iconst o (v := nI 0) dX9_together_19 (by decide) ?_
    refine r_topi (y := b01 (inB (nI 0) (nI 5) rz && inB (nI 0) (nI 5) s2z)) (by first | (rw [hb5]; rfl) | (rw [hb12, Bool.and_false]; rfl) | (rw [hb5, hb12]; rfl)) ?_
    refine r_iload_n o dX9_together_20 3 rfl ?_
    refine r_callSI o (As := [.int kz]) (st := [.int (b01 (inB (nI 0) (nI 5) rz && inB (nI 0) (nI 5) s2z)), .ref (gad G 0)]) (c_X9_isYear (xl X) G σ kz) om_X9_isYear mw_282 mw_281 (by decide) rfl rfl (Nat.le_of_ble_eq_true rfl) dX9_together_21 (fun rr21 σσ21 hp21 => ?_)
    obtain ⟨hp21, hp21b⟩ := hp21; replace hp21 := Eq.symm hp21; replace hp21b := Eq.symm hp21b; subst hp21; subst hp21b
    refine r_if_eq o (tgt := 39) dX9_together_24 (by decide) (fun hb24 => ?_) (fun hb24 => ?_)
    · skip
      rw [b01_eq0] at hb24
      refine r_iconst o (v := nI 0) dX9_together_39 (by decide) ?_
      refine r_topi (y := b01 (inB (nI 0) (nI 23) kz && inB (nI 0) (nI 1) pz)) (by first | (rw [hb24]; rfl) | (rw [hb32, Bool.and_false]; rfl) | (rw [hb24, hb32]; rfl)) ?_
      refine r_callVI o (As := [.int (b01 (inB (nI 0) (nI 5) rz && inB (nI 0) (nI 5) s2z)), .int (b01 (inB (nI 0) (nI 23) kz && inB (nI 0) (nI 1) pz))]) (st := []) (c_X9_refusalOf (xl X) G σ sn cntq hp (inB (nI 0) (nI 5) rz && inB (nI 0) (nI 5) s2z) (inB (nI 0) (nI 23) kz && inB (nI 0) (nI 1) pz)) om_X9_refusalOf mw_343 mw_4 mw_341 (by decide) rfl rfl rfl (by decide) rfl rfl (Nat.le_of_ble_eq_true rfl) dX9_together_40 (fun rr40 σσ40 hp40 => ?_)
      obtain ⟨hp40, hp40b⟩ := hp40; replace hp40 := Eq.symm hp40; replace hp40b := Eq.symm hp40b; subst hp40; subst hp40b
      refine r_istore o (lv' := [(5, .int (refI (inB (nI 0) (nI 5) rz && inB (nI 0) (nI 5) s2z) (inB (nI 0) (nI 23) kz && inB (nI 0) (nI 1) pz) (fltF sn cntq 21 0))), (0, .ref (gad G 0)), (1, .int rz), (2, .int s2z), (3, .int kz), (4, .int pz)]) dX9_together_43 (by decide) rfl ?_
      refine r_iload o dX9_together_45 0 rfl ?_
      refine r_if_eq o (tgt := 58) dX9_together_47 (by decide) (fun hb47 => ?_) (fun hb47 => ?_)
      · skip
        obtain ⟨hk1, hk2, hno⟩ := refI_z hb47
        rw [Bool.and_eq_true] at hk1
        obtain ⟨hr1, hr2⟩ := inB_nI (n := 5) (by decide) hk1.1
        obtain ⟨hs1, hs2⟩ := inB_nI (n := 5) (by decide) hk1.2
        rw [Bool.and_eq_true] at hk2
        obtain ⟨ht1, ht2⟩ := inB_nI (n := 23) (by decide) hk2.1
        refine r_lv (lv' := [(5, .int (refI (inB (nI 0) (nI 5) rz && inB (nI 0) (nI 5) s2z) (inB (nI 0) (nI 23) kz && inB (nI 0) (nI 1) pz) (fltF sn cntq 21 0))), (0, .ref (gad G 0)), (1, .int (nI rz.toNatClampNeg)), (2, .int s2z), (3, .int kz), (4, .int pz)]) (congrArg (fun zz => ([(5, .int (refI (inB (nI 0) (nI 5) rz && inB (nI 0) (nI 5) s2z) (inB (nI 0) (nI 23) kz && inB (nI 0) (nI 1) pz) (fltF sn cntq 21 0))), (0, .ref (gad G 0)), (1, .int zz), (2, .int s2z), (3, .int kz), (4, .int pz)] : List (Nat × Value))) (hr1)) ?_
        refine r_lv (lv' := [(5, .int (refI (inB (nI 0) (nI 5) rz && inB (nI 0) (nI 5) s2z) (inB (nI 0) (nI 23) kz && inB (nI 0) (nI 1) pz) (fltF sn cntq 21 0))), (0, .ref (gad G 0)), (1, .int (nI rz.toNatClampNeg)), (2, .int (nI s2z.toNatClampNeg)), (3, .int kz), (4, .int pz)]) (congrArg (fun zz => ([(5, .int (refI (inB (nI 0) (nI 5) rz && inB (nI 0) (nI 5) s2z) (inB (nI 0) (nI 23) kz && inB (nI 0) (nI 1) pz) (fltF sn cntq 21 0))), (0, .ref (gad G 0)), (1, .int (nI rz.toNatClampNeg)), (2, .int zz), (3, .int kz), (4, .int pz)] : List (Nat × Value))) (hs1)) ?_
        refine r_lv (lv' := [(5, .int (refI (inB (nI 0) (nI 5) rz && inB (nI 0) (nI 5) s2z) (inB (nI 0) (nI 23) kz && inB (nI 0) (nI 1) pz) (fltF sn cntq 21 0))), (0, .ref (gad G 0)), (1, .int (nI rz.toNatClampNeg)), (2, .int (nI s2z.toNatClampNeg)), (3, .int (nI kz.toNatClampNeg)), (4, .int pz)]) (congrArg (fun zz => ([(5, .int (refI (inB (nI 0) (nI 5) rz && inB (nI 0) (nI 5) s2z) (inB (nI 0) (nI 23) kz && inB (nI 0) (nI 1) pz) (fltF sn cntq 21 0))), (0, .ref (gad G 0)), (1, .int (nI rz.toNatClampNeg)), (2, .int (nI s2z.toNatClampNeg)), (3, .int zz), (4, .int pz)] : List (Nat × Value))) (ht1)) ?_
        refine r_aload_n o dX9_together_58 1 rfl ?_
        refine r_iload_n o dX9_together_59 2 rfl ?_
        refine r_iload_n o dX9_together_60 3 rfl ?_
        refine r_callVV o (As := [.int (nI rz.toNatClampNeg), .int (nI s2z.toNatClampNeg)]) (st := []) (c_X9_takeTwo (xl X) G σ sn cntq hp rz.toNatClampNeg (by omega) s2z.toNatClampNeg (by omega) hno) om_X9_takeTwo mw_505 mw_11 mw_503 (by decide) rfl rfl rfl (by decide) rfl rfl (Nat.le_of_ble_eq_true rfl) dX9_together_61 (fun σσ61 hp61 => ?_)
        obtain ⟨ha20, hb23, hkp⟩ := hp61
        refine r_aload_n o dX9_together_64 1 rfl ?_
        refine r_iload_n o dX9_together_65 4 rfl ?_
        refine r_aload_n o dX9_together_66 1 rfl ?_
        refine gf_0_7 o mw_243 dX9_together_67 ?_
        refine r_callVV o (As := [.int (nI kz.toNatClampNeg), .ref (gad G 7)]) (st := []) (c_X9_putTogether_7 (xl X) G σσ61 ((σσ61 20).1) rfl ((σσ61 23).1) rfl kz.toNatClampNeg (by omega)) om_X9_putTogether mw_509 mw_12 mw_507 (by decide) rfl rfl rfl (by decide) rfl rfl (Nat.le_of_ble_eq_true rfl) dX9_together_70 (fun σσ70 hp70 => ?_)
        replace hp70 := Eq.symm hp70; subst hp70
        refine r_aload_n o dX9_together_73 1 rfl ?_
        refine gf_0_7 o mw_243 dX9_together_74 ?_
        refine r_iload o dX9_together_77 5 rfl ?_
        refine r_callVL o (As := [.int pz]) (st := []) (c_X2_partOf (xl X) G (stl (stl σσ61 7 0 (fU (tgU ((σσ61 20).1) ((σσ61 23).1) kz.toNatClampNeg) (tgD ((σσ61 20).1) ((σσ61 23).1) kz.toNatClampNeg))) 7 1 (fL (tgU ((σσ61 20).1) ((σσ61 23).1) kz.toNatClampNeg) (tgD ((σσ61 20).1) ((σσ61 23).1) kz.toNatClampNeg))) (fU (tgU (σσ61 20).1 (σσ61 23).1 kz.toNatClampNeg) (tgD (σσ61 20).1 (σσ61 23).1 kz.toNatClampNeg)) rfl (fL (tgU (σσ61 20).1 (σσ61 23).1 kz.toNatClampNeg) (tgD (σσ61 20).1 (σσ61 23).1 kz.toNatClampNeg)) rfl pz) om_X2_partOf mw_448 mw_449 mw_447 (by decide) rfl rfl rfl (by decide) rfl rfl (Nat.le_of_ble_eq_true rfl) dX9_together_79 (fun rr79 σσ79 hp79 => ?_)
        obtain ⟨hp79, hp79b⟩ := hp79; replace hp79 := Eq.symm hp79; replace hp79b := Eq.symm hp79b; subst hp79; subst hp79b
        refine r_topl (y := if pz = 0 then fU (tgU (dlF σ sn cntq rz.toNatClampNeg) (dlF σ sn cntq s2z.toNatClampNeg) kz.toNatClampNeg) (tgD (dlF σ sn cntq rz.toNatClampNeg) (dlF σ sn cntq s2z.toNatClampNeg) kz.toNatClampNeg) else fL (tgU (dlF σ sn cntq rz.toNatClampNeg) (dlF σ sn cntq s2z.toNatClampNeg) kz.toNatClampNeg) (tgD (dlF σ sn cntq rz.toNatClampNeg) (dlF σ sn cntq s2z.toNatClampNeg) kz.toNatClampNeg)) (by rw [(tg_ag ha20 hb23 _).1, (tg_ag ha20 hb23 _).2]) ?_
        exact r_lreturn o q dX9_together_82 (⟨by rw [if_pos hb47], fun cz hcz => by unfold scrC at hcz; rw [stl_ne (by omega), stl_ne (by omega)]; exact hkp cz (by unfold scrC; omega)⟩)
      · skip
        refine r_ldc2_w o mw_391 dX9_together_50 ?_
        refine r_iload o dX9_together_53 0 rfl ?_
        refine r_i2l o dX9_together_55 rfl ?_
        refine r_ladd o dX9_together_56 ?_
        exact r_lreturn o q dX9_together_57 (⟨by rw [if_neg hb47]; rfl, fun _ _ => rfl⟩)
    · skip
      rw [b01_ne0] at hb24
      refine r_iload o dX9_together_27 4 rfl ?_
      refine r_callSI o (As := [.int pz]) (st := [.int (b01 (inB (nI 0) (nI 5) rz && inB (nI 0) (nI 5) s2z)), .ref (gad G 0)]) (c_X9_isPart (xl X) G σ pz) om_X9_isPart mw_389 mw_388 (by decide) rfl rfl (Nat.le_of_ble_eq_true rfl) dX9_together_29 (fun rr29 σσ29 hp29 => ?_)
      obtain ⟨hp29, hp29b⟩ := hp29; replace hp29 := Eq.symm hp29; replace hp29b := Eq.symm hp29b; subst hp29; subst hp29b
      refine r_if_eq o (tgt := 39) dX9_together_32 (by decide) (fun hb32 => ?_) (fun hb32 => ?_)
      · skip
        rw [b01_eq0] at hb32
        refine r_iconst o (v := nI 0) dX9_together_39 (by decide) ?_
        refine r_topi (y := b01 (inB (nI 0) (nI 23) kz && inB (nI 0) (nI 1) pz)) (by first | (rw [hb24]; rfl) | (rw [hb32, Bool.and_false]; rfl) | (rw [hb24, hb32]; rfl)) ?_
        refine r_callVI o (As := [.int (b01 (inB (nI 0) (nI 5) rz && inB (nI 0) (nI 5) s2z)), .int (b01 (inB (nI 0) (nI 23) kz && inB (nI 0) (nI 1) pz))]) (st := []) (c_X9_refusalOf (xl X) G σ sn cntq hp (inB (nI 0) (nI 5) rz && inB (nI 0) (nI 5) s2z) (inB (nI 0) (nI 23) kz && inB (nI 0) (nI 1) pz)) om_X9_refusalOf mw_343 mw_4 mw_341 (by decide) rfl rfl rfl (by decide) rfl rfl (Nat.le_of_ble_eq_true rfl) dX9_together_40 (fun rr40 σσ40 hp40 => ?_)
        obtain ⟨hp40, hp40b⟩ := hp40; replace hp40 := Eq.symm hp40; replace hp40b := Eq.symm hp40b; subst hp40; subst hp40b
        refine r_istore o (lv' := [(5, .int (refI (inB (nI 0) (nI 5) rz && inB (nI 0) (nI 5) s2z) (inB (nI 0) (nI 23) kz && inB (nI 0) (nI 1) pz) (fltF sn cntq 21 0))), (0, .ref (gad G 0)), (1, .int rz), (2, .int s2z), (3, .int kz), (4, .int pz)]) dX9_together_43 (by decide) rfl ?_
        refine r_iload o dX9_together_45 0 rfl ?_
        refine r_if_eq o (tgt := 58) dX9_together_47 (by decide) (fun hb47 => ?_) (fun hb47 => ?_)
        · skip
          obtain ⟨hk1, hk2, hno⟩ := refI_z hb47
          rw [Bool.and_eq_true] at hk1
          obtain ⟨hr1, hr2⟩ := inB_nI (n := 5) (by decide) hk1.1
          obtain ⟨hs1, hs2⟩ := inB_nI (n := 5) (by decide) hk1.2
          rw [Bool.and_eq_true] at hk2
          obtain ⟨ht1, ht2⟩ := inB_nI (n := 23) (by decide) hk2.1
          refine r_lv (lv' := [(5, .int (refI (inB (nI 0) (nI 5) rz && inB (nI 0) (nI 5) s2z) (inB (nI 0) (nI 23) kz && inB (nI 0) (nI 1) pz) (fltF sn cntq 21 0))), (0, .ref (gad G 0)), (1, .int (nI rz.toNatClampNeg)), (2, .int s2z), (3, .int kz), (4, .int pz)]) (congrArg (fun zz => ([(5, .int (refI (inB (nI 0) (nI 5) rz && inB (nI 0) (nI 5) s2z) (inB (nI 0) (nI 23) kz && inB (nI 0) (nI 1) pz) (fltF sn cntq 21 0))), (0, .ref (gad G 0)), (1, .int zz), (2, .int s2z), (3, .int kz), (4, .int pz)] : List (Nat × Value))) (hr1)) ?_
          refine r_lv (lv' := [(5, .int (refI (inB (nI 0) (nI 5) rz && inB (nI 0) (nI 5) s2z) (inB (nI 0) (nI 23) kz && inB (nI 0) (nI 1) pz) (fltF sn cntq 21 0))), (0, .ref (gad G 0)), (1, .int (nI rz.toNatClampNeg)), (2, .int (nI s2z.toNatClampNeg)), (3, .int kz), (4, .int pz)]) (congrArg (fun zz => ([(5, .int (refI (inB (nI 0) (nI 5) rz && inB (nI 0) (nI 5) s2z) (inB (nI 0) (nI 23) kz && inB (nI 0) (nI 1) pz) (fltF sn cntq 21 0))), (0, .ref (gad G 0)), (1, .int (nI rz.toNatClampNeg)), (2, .int zz), (3, .int kz), (4, .int pz)] : List (Nat × Value))) (hs1)) ?_
          refine r_lv (lv' := [(5, .int (refI (inB (nI 0) (nI 5) rz && inB (nI 0) (nI 5) s2z) (inB (nI 0) (nI 23) kz && inB (nI 0) (nI 1) pz) (fltF sn cntq 21 0))), (0, .ref (gad G 0)), (1, .int (nI rz.toNatClampNeg)), (2, .int (nI s2z.toNatClampNeg)), (3, .int (nI kz.toNatClampNeg)), (4, .int pz)]) (congrArg (fun zz => ([(5, .int (refI (inB (nI 0) (nI 5) rz && inB (nI 0) (nI 5) s2z) (inB (nI 0) (nI 23) kz && inB (nI 0) (nI 1) pz) (fltF sn cntq 21 0))), (0, .ref (gad G 0)), (1, .int (nI rz.toNatClampNeg)), (2, .int (nI s2z.toNatClampNeg)), (3, .int zz), (4, .int pz)] : List (Nat × Value))) (ht1)) ?_
          refine r_aload_n o dX9_together_58 1 rfl ?_
          refine r_iload_n o dX9_together_59 2 rfl ?_
          refine r_iload_n o dX9_together_60 3 rfl ?_
          refine r_callVV o (As := [.int (nI rz.toNatClampNeg), .int (nI s2z.toNatClampNeg)]) (st := []) (c_X9_takeTwo (xl X) G σ sn cntq hp rz.toNatClampNeg (by omega) s2z.toNatClampNeg (by omega) hno) om_X9_takeTwo mw_505 mw_11 mw_503 (by decide) rfl rfl rfl (by decide) rfl rfl (Nat.le_of_ble_eq_true rfl) dX9_together_61 (fun σσ61 hp61 => ?_)
          obtain ⟨ha20, hb23, hkp⟩ := hp61
          refine r_aload_n o dX9_together_64 1 rfl ?_
          refine r_iload_n o dX9_together_65 4 rfl ?_
          refine r_aload_n o dX9_together_66 1 rfl ?_
          refine gf_0_7 o mw_243 dX9_together_67 ?_
          refine r_callVV o (As := [.int (nI kz.toNatClampNeg), .ref (gad G 7)]) (st := []) (c_X9_putTogether_7 (xl X) G σσ61 ((σσ61 20).1) rfl ((σσ61 23).1) rfl kz.toNatClampNeg (by omega)) om_X9_putTogether mw_509 mw_12 mw_507 (by decide) rfl rfl rfl (by decide) rfl rfl (Nat.le_of_ble_eq_true rfl) dX9_together_70 (fun σσ70 hp70 => ?_)
          replace hp70 := Eq.symm hp70; subst hp70
          refine r_aload_n o dX9_together_73 1 rfl ?_
          refine gf_0_7 o mw_243 dX9_together_74 ?_
          refine r_iload o dX9_together_77 5 rfl ?_
          refine r_callVL o (As := [.int pz]) (st := []) (c_X2_partOf (xl X) G (stl (stl σσ61 7 0 (fU (tgU ((σσ61 20).1) ((σσ61 23).1) kz.toNatClampNeg) (tgD ((σσ61 20).1) ((σσ61 23).1) kz.toNatClampNeg))) 7 1 (fL (tgU ((σσ61 20).1) ((σσ61 23).1) kz.toNatClampNeg) (tgD ((σσ61 20).1) ((σσ61 23).1) kz.toNatClampNeg))) (fU (tgU (σσ61 20).1 (σσ61 23).1 kz.toNatClampNeg) (tgD (σσ61 20).1 (σσ61 23).1 kz.toNatClampNeg)) rfl (fL (tgU (σσ61 20).1 (σσ61 23).1 kz.toNatClampNeg) (tgD (σσ61 20).1 (σσ61 23).1 kz.toNatClampNeg)) rfl pz) om_X2_partOf mw_448 mw_449 mw_447 (by decide) rfl rfl rfl (by decide) rfl rfl (Nat.le_of_ble_eq_true rfl) dX9_together_79 (fun rr79 σσ79 hp79 => ?_)
          obtain ⟨hp79, hp79b⟩ := hp79; replace hp79 := Eq.symm hp79; replace hp79b := Eq.symm hp79b; subst hp79; subst hp79b
          refine r_topl (y := if pz = 0 then fU (tgU (dlF σ sn cntq rz.toNatClampNeg) (dlF σ sn cntq s2z.toNatClampNeg) kz.toNatClampNeg) (tgD (dlF σ sn cntq rz.toNatClampNeg) (dlF σ sn cntq s2z.toNatClampNeg) kz.toNatClampNeg) else fL (tgU (dlF σ sn cntq rz.toNatClampNeg) (dlF σ sn cntq s2z.toNatClampNeg) kz.toNatClampNeg) (tgD (dlF σ sn cntq rz.toNatClampNeg) (dlF σ sn cntq s2z.toNatClampNeg) kz.toNatClampNeg)) (by rw [(tg_ag ha20 hb23 _).1, (tg_ag ha20 hb23 _).2]) ?_
          exact r_lreturn o q dX9_together_82 (⟨by rw [if_pos hb47], fun cz hcz => by unfold scrC at hcz; rw [stl_ne (by omega), stl_ne (by omega)]; exact hkp cz (by unfold scrC; omega)⟩)
        · skip
          refine r_ldc2_w o mw_391 dX9_together_50 ?_
          refine r_iload o dX9_together_53 0 rfl ?_
          refine r_i2l o dX9_together_55 rfl ?_
          refine r_ladd o dX9_together_56 ?_
          exact r_lreturn o q dX9_together_57 (⟨by rw [if_neg hb47]; rfl, fun _ _ => rfl⟩)
      · skip
        rw [b01_ne0] at hb32
        refine r_iconst o (v := nI 1) dX9_together_35 (by decide) ?_
        refine r_goto o (tgt := 40) dX9_together_36 (by decide) ?_
        refine r_topi (y := b01 (inB (nI 0) (nI 23) kz && inB (nI 0) (nI 1) pz)) (by first | (rw [hb24]; rfl) | (rw [hb32, Bool.and_false]; rfl) | (rw [hb24, hb32]; rfl)) ?_
        refine r_callVI o (As := [.int (b01 (inB (nI 0) (nI 5) rz && inB (nI 0) (nI 5) s2z)), .int (b01 (inB (nI 0) (nI 23) kz && inB (nI 0) (nI 1) pz))]) (st := []) (c_X9_refusalOf (xl X) G σ sn cntq hp (inB (nI 0) (nI 5) rz && inB (nI 0) (nI 5) s2z) (inB (nI 0) (nI 23) kz && inB (nI 0) (nI 1) pz)) om_X9_refusalOf mw_343 mw_4 mw_341 (by decide) rfl rfl rfl (by decide) rfl rfl (Nat.le_of_ble_eq_true rfl) dX9_together_40 (fun rr40 σσ40 hp40 => ?_)
        obtain ⟨hp40, hp40b⟩ := hp40; replace hp40 := Eq.symm hp40; replace hp40b := Eq.symm hp40b; subst hp40; subst hp40b
        refine r_istore o (lv' := [(5, .int (refI (inB (nI 0) (nI 5) rz && inB (nI 0) (nI 5) s2z) (inB (nI 0) (nI 23) kz && inB (nI 0) (nI 1) pz) (fltF sn cntq 21 0))), (0, .ref (gad G 0)), (1, .int rz), (2, .int s2z), (3, .int kz), (4, .int pz)]) dX9_together_43 (by decide) rfl ?_
        refine r_iload o dX9_together_45 0 rfl ?_
        refine r_if_eq o (tgt := 58) dX9_together_47 (by decide) (fun hb47 => ?_) (fun hb47 => ?_)
        · skip
          obtain ⟨hk1, hk2, hno⟩ := refI_z hb47
          rw [Bool.and_eq_true] at hk1
          obtain ⟨hr1, hr2⟩ := inB_nI (n := 5) (by decide) hk1.1
          obtain ⟨hs1, hs2⟩ := inB_nI (n := 5) (by decide) hk1.2
          rw [Bool.and_eq_true] at hk2
          obtain ⟨ht1, ht2⟩ := inB_nI (n := 23) (by decide) hk2.1
          refine r_lv (lv' := [(5, .int (refI (inB (nI 0) (nI 5) rz && inB (nI 0) (nI 5) s2z) (inB (nI 0) (nI 23) kz && inB (nI 0) (nI 1) pz) (fltF sn cntq 21 0))), (0, .ref (gad G 0)), (1, .int (nI rz.toNatClampNeg)), (2, .int s2z), (3, .int kz), (4, .int pz)]) (congrArg (fun zz => ([(5, .int (refI (inB (nI 0) (nI 5) rz && inB (nI 0) (nI 5) s2z) (inB (nI 0) (nI 23) kz && inB (nI 0) (nI 1) pz) (fltF sn cntq 21 0))), (0, .ref (gad G 0)), (1, .int zz), (2, .int s2z), (3, .int kz), (4, .int pz)] : List (Nat × Value))) (hr1)) ?_
          refine r_lv (lv' := [(5, .int (refI (inB (nI 0) (nI 5) rz && inB (nI 0) (nI 5) s2z) (inB (nI 0) (nI 23) kz && inB (nI 0) (nI 1) pz) (fltF sn cntq 21 0))), (0, .ref (gad G 0)), (1, .int (nI rz.toNatClampNeg)), (2, .int (nI s2z.toNatClampNeg)), (3, .int kz), (4, .int pz)]) (congrArg (fun zz => ([(5, .int (refI (inB (nI 0) (nI 5) rz && inB (nI 0) (nI 5) s2z) (inB (nI 0) (nI 23) kz && inB (nI 0) (nI 1) pz) (fltF sn cntq 21 0))), (0, .ref (gad G 0)), (1, .int (nI rz.toNatClampNeg)), (2, .int zz), (3, .int kz), (4, .int pz)] : List (Nat × Value))) (hs1)) ?_
          refine r_lv (lv' := [(5, .int (refI (inB (nI 0) (nI 5) rz && inB (nI 0) (nI 5) s2z) (inB (nI 0) (nI 23) kz && inB (nI 0) (nI 1) pz) (fltF sn cntq 21 0))), (0, .ref (gad G 0)), (1, .int (nI rz.toNatClampNeg)), (2, .int (nI s2z.toNatClampNeg)), (3, .int (nI kz.toNatClampNeg)), (4, .int pz)]) (congrArg (fun zz => ([(5, .int (refI (inB (nI 0) (nI 5) rz && inB (nI 0) (nI 5) s2z) (inB (nI 0) (nI 23) kz && inB (nI 0) (nI 1) pz) (fltF sn cntq 21 0))), (0, .ref (gad G 0)), (1, .int (nI rz.toNatClampNeg)), (2, .int (nI s2z.toNatClampNeg)), (3, .int zz), (4, .int pz)] : List (Nat × Value))) (ht1)) ?_
          refine r_aload_n o dX9_together_58 1 rfl ?_
          refine r_iload_n o dX9_together_59 2 rfl ?_
          refine r_iload_n o dX9_together_60 3 rfl ?_
          refine r_callVV o (As := [.int (nI rz.toNatClampNeg), .int (nI s2z.toNatClampNeg)]) (st := []) (c_X9_takeTwo (xl X) G σ sn cntq hp rz.toNatClampNeg (by omega) s2z.toNatClampNeg (by omega) hno) om_X9_takeTwo mw_505 mw_11 mw_503 (by decide) rfl rfl rfl (by decide) rfl rfl (Nat.le_of_ble_eq_true rfl) dX9_together_61 (fun σσ61 hp61 => ?_)
          obtain ⟨ha20, hb23, hkp⟩ := hp61
          refine r_aload_n o dX9_together_64 1 rfl ?_
          refine r_iload_n o dX9_together_65 4 rfl ?_
          refine r_aload_n o dX9_together_66 1 rfl ?_
          refine gf_0_7 o mw_243 dX9_together_67 ?_
          refine r_callVV o (As := [.int (nI kz.toNatClampNeg), .ref (gad G 7)]) (st := []) (c_X9_putTogether_7 (xl X) G σσ61 ((σσ61 20).1) rfl ((σσ61 23).1) rfl kz.toNatClampNeg (by omega)) om_X9_putTogether mw_509 mw_12 mw_507 (by decide) rfl rfl rfl (by decide) rfl rfl (Nat.le_of_ble_eq_true rfl) dX9_together_70 (fun σσ70 hp70 => ?_)
          replace hp70 := Eq.symm hp70; subst hp70
          refine r_aload_n o dX9_together_73 1 rfl ?_
          refine gf_0_7 o mw_243 dX9_together_74 ?_
          refine r_iload o dX9_together_77 5 rfl ?_
          refine r_callVL o (As := [.int pz]) (st := []) (c_X2_partOf (xl X) G (stl (stl σσ61 7 0 (fU (tgU ((σσ61 20).1) ((σσ61 23).1) kz.toNatClampNeg) (tgD ((σσ61 20).1) ((σσ61 23).1) kz.toNatClampNeg))) 7 1 (fL (tgU ((σσ61 20).1) ((σσ61 23).1) kz.toNatClampNeg) (tgD ((σσ61 20).1) ((σσ61 23).1) kz.toNatClampNeg))) (fU (tgU (σσ61 20).1 (σσ61 23).1 kz.toNatClampNeg) (tgD (σσ61 20).1 (σσ61 23).1 kz.toNatClampNeg)) rfl (fL (tgU (σσ61 20).1 (σσ61 23).1 kz.toNatClampNeg) (tgD (σσ61 20).1 (σσ61 23).1 kz.toNatClampNeg)) rfl pz) om_X2_partOf mw_448 mw_449 mw_447 (by decide) rfl rfl rfl (by decide) rfl rfl (Nat.le_of_ble_eq_true rfl) dX9_together_79 (fun rr79 σσ79 hp79 => ?_)
          obtain ⟨hp79, hp79b⟩ := hp79; replace hp79 := Eq.symm hp79; replace hp79b := Eq.symm hp79b; subst hp79; subst hp79b
          refine r_topl (y := if pz = 0 then fU (tgU (dlF σ sn cntq rz.toNatClampNeg) (dlF σ sn cntq s2z.toNatClampNeg) kz.toNatClampNeg) (tgD (dlF σ sn cntq rz.toNatClampNeg) (dlF σ sn cntq s2z.toNatClampNeg) kz.toNatClampNeg) else fL (tgU (dlF σ sn cntq rz.toNatClampNeg) (dlF σ sn cntq s2z.toNatClampNeg) kz.toNatClampNeg) (tgD (dlF σ sn cntq rz.toNatClampNeg) (dlF σ sn cntq s2z.toNatClampNeg) kz.toNatClampNeg)) (by rw [(tg_ag ha20 hb23 _).1, (tg_ag ha20 hb23 _).2]) ?_
          exact r_lreturn o q dX9_together_82 (⟨by rw [if_pos hb47], fun cz hcz => by unfold scrC at hcz; rw [stl_ne (by omega), stl_ne (by omega)]; exact hkp cz (by unfold scrC; omega)⟩)
        · skip
          refine r_ldc2_w o mw_391 dX9_together_50 ?_
          refine r_iload o dX9_together_53 0 rfl ?_
          refine r_i2l o dX9_together_55 rfl ?_
          refine r_ladd o dX9_together_56 ?_
          exact r_lreturn o q dX9_together_57 (⟨by rw [if_neg hb47]; rfl, fun _ _ => rfl⟩)
  · skip
    rw [b01_ne0] at hb5
    refine r_iload_n o dX9_together_8 2 rfl ?_
    refine r_callSI o (As := [.int s2z]) (st := [.ref (gad G 0)]) (c_X9_isRow (xl X) G σ s2z) om_X9_isRow mw_275 mw_274 (by decide) rfl rfl (Nat.le_of_ble_eq_true rfl) dX9_together_9 (fun rr9 σσ9 hp9 => ?_)
    obtain ⟨hp9, hp9b⟩ := hp9; replace hp9 := Eq.symm hp9; replace hp9b := Eq.symm hp9b; subst hp9; subst hp9b
    refine r_if_eq o (tgt := 19) dX9_together_12 (by decide) (fun hb12 => ?_) (fun hb12 => ?_)
    · skip
      rw [b01_eq0] at hb12
      refine r_iconst o (v := nI 0) dX9_together_19 (by decide) ?_
      refine r_topi (y := b01 (inB (nI 0) (nI 5) rz && inB (nI 0) (nI 5) s2z)) (by first | (rw [hb5]; rfl) | (rw [hb12, Bool.and_false]; rfl) | (rw [hb5, hb12]; rfl)) ?_
      refine r_iload_n o dX9_together_20 3 rfl ?_
      refine r_callSI o (As := [.int kz]) (st := [.int (b01 (inB (nI 0) (nI 5) rz && inB (nI 0) (nI 5) s2z)), .ref (gad G 0)]) (c_X9_isYear (xl X) G σ kz) om_X9_isYear mw_282 mw_281 (by decide) rfl rfl (Nat.le_of_ble_eq_true rfl) dX9_together_21 (fun rr21 σσ21 hp21 => ?_)
      obtain ⟨hp21, hp21b⟩ := hp21; replace hp21 := Eq.symm hp21; replace hp21b := Eq.symm hp21b; subst hp21; subst hp21b
      refine r_if_eq o (tgt := 39) dX9_together_24 (by decide) (fun hb24 => ?_) (fun hb24 => ?_)
      · skip
        rw [b01_eq0] at hb24
        refine r_iconst o (v := nI 0) dX9_together_39 (by decide) ?_
        refine r_topi (y := b01 (inB (nI 0) (nI 23) kz && inB (nI 0) (nI 1) pz)) (by first | (rw [hb24]; rfl) | (rw [hb32, Bool.and_false]; rfl) | (rw [hb24, hb32]; rfl)) ?_
        refine r_callVI o (As := [.int (b01 (inB (nI 0) (nI 5) rz && inB (nI 0) (nI 5) s2z)), .int (b01 (inB (nI 0) (nI 23) kz && inB (nI 0) (nI 1) pz))]) (st := []) (c_X9_refusalOf (xl X) G σ sn cntq hp (inB (nI 0) (nI 5) rz && inB (nI 0) (nI 5) s2z) (inB (nI 0) (nI 23) kz && inB (nI 0) (nI 1) pz)) om_X9_refusalOf mw_343 mw_4 mw_341 (by decide) rfl rfl rfl (by decide) rfl rfl (Nat.le_of_ble_eq_true rfl) dX9_together_40 (fun rr40 σσ40 hp40 => ?_)
        obtain ⟨hp40, hp40b⟩ := hp40; replace hp40 := Eq.symm hp40; replace hp40b := Eq.symm hp40b; subst hp40; subst hp40b
        refine r_istore o (lv' := [(5, .int (refI (inB (nI 0) (nI 5) rz && inB (nI 0) (nI 5) s2z) (inB (nI 0) (nI 23) kz && inB (nI 0) (nI 1) pz) (fltF sn cntq 21 0))), (0, .ref (gad G 0)), (1, .int rz), (2, .int s2z), (3, .int kz), (4, .int pz)]) dX9_together_43 (by decide) rfl ?_
        refine r_iload o dX9_together_45 0 rfl ?_
        refine r_if_eq o (tgt := 58) dX9_together_47 (by decide) (fun hb47 => ?_) (fun hb47 => ?_)
        · skip
          obtain ⟨hk1, hk2, hno⟩ := refI_z hb47
          rw [Bool.and_eq_true] at hk1
          obtain ⟨hr1, hr2⟩ := inB_nI (n := 5) (by decide) hk1.1
          obtain ⟨hs1, hs2⟩ := inB_nI (n := 5) (by decide) hk1.2
          rw [Bool.and_eq_true] at hk2
          obtain ⟨ht1, ht2⟩ := inB_nI (n := 23) (by decide) hk2.1
          refine r_lv (lv' := [(5, .int (refI (inB (nI 0) (nI 5) rz && inB (nI 0) (nI 5) s2z) (inB (nI 0) (nI 23) kz && inB (nI 0) (nI 1) pz) (fltF sn cntq 21 0))), (0, .ref (gad G 0)), (1, .int (nI rz.toNatClampNeg)), (2, .int s2z), (3, .int kz), (4, .int pz)]) (congrArg (fun zz => ([(5, .int (refI (inB (nI 0) (nI 5) rz && inB (nI 0) (nI 5) s2z) (inB (nI 0) (nI 23) kz && inB (nI 0) (nI 1) pz) (fltF sn cntq 21 0))), (0, .ref (gad G 0)), (1, .int zz), (2, .int s2z), (3, .int kz), (4, .int pz)] : List (Nat × Value))) (hr1)) ?_
          refine r_lv (lv' := [(5, .int (refI (inB (nI 0) (nI 5) rz && inB (nI 0) (nI 5) s2z) (inB (nI 0) (nI 23) kz && inB (nI 0) (nI 1) pz) (fltF sn cntq 21 0))), (0, .ref (gad G 0)), (1, .int (nI rz.toNatClampNeg)), (2, .int (nI s2z.toNatClampNeg)), (3, .int kz), (4, .int pz)]) (congrArg (fun zz => ([(5, .int (refI (inB (nI 0) (nI 5) rz && inB (nI 0) (nI 5) s2z) (inB (nI 0) (nI 23) kz && inB (nI 0) (nI 1) pz) (fltF sn cntq 21 0))), (0, .ref (gad G 0)), (1, .int (nI rz.toNatClampNeg)), (2, .int zz), (3, .int kz), (4, .int pz)] : List (Nat × Value))) (hs1)) ?_
          refine r_lv (lv' := [(5, .int (refI (inB (nI 0) (nI 5) rz && inB (nI 0) (nI 5) s2z) (inB (nI 0) (nI 23) kz && inB (nI 0) (nI 1) pz) (fltF sn cntq 21 0))), (0, .ref (gad G 0)), (1, .int (nI rz.toNatClampNeg)), (2, .int (nI s2z.toNatClampNeg)), (3, .int (nI kz.toNatClampNeg)), (4, .int pz)]) (congrArg (fun zz => ([(5, .int (refI (inB (nI 0) (nI 5) rz && inB (nI 0) (nI 5) s2z) (inB (nI 0) (nI 23) kz && inB (nI 0) (nI 1) pz) (fltF sn cntq 21 0))), (0, .ref (gad G 0)), (1, .int (nI rz.toNatClampNeg)), (2, .int (nI s2z.toNatClampNeg)), (3, .int zz), (4, .int pz)] : List (Nat × Value))) (ht1)) ?_
          refine r_aload_n o dX9_together_58 1 rfl ?_
          refine r_iload_n o dX9_together_59 2 rfl ?_
          refine r_iload_n o dX9_together_60 3 rfl ?_
          refine r_callVV o (As := [.int (nI rz.toNatClampNeg), .int (nI s2z.toNatClampNeg)]) (st := []) (c_X9_takeTwo (xl X) G σ sn cntq hp rz.toNatClampNeg (by omega) s2z.toNatClampNeg (by omega) hno) om_X9_takeTwo mw_505 mw_11 mw_503 (by decide) rfl rfl rfl (by decide) rfl rfl (Nat.le_of_ble_eq_true rfl) dX9_together_61 (fun σσ61 hp61 => ?_)
          obtain ⟨ha20, hb23, hkp⟩ := hp61
          refine r_aload_n o dX9_together_64 1 rfl ?_
          refine r_iload_n o dX9_together_65 4 rfl ?_
          refine r_aload_n o dX9_together_66 1 rfl ?_
          refine gf_0_7 o mw_243 dX9_together_67 ?_
          refine r_callVV o (As := [.int (nI kz.toNatClampNeg), .ref (gad G 7)]) (st := []) (c_X9_putTogether_7 (xl X) G σσ61 ((σσ61 20).1) rfl ((σσ61 23).1) rfl kz.toNatClampNeg (by omega)) om_X9_putTogether mw_509 mw_12 mw_507 (by decide) rfl rfl rfl (by decide) rfl rfl (Nat.le_of_ble_eq_true rfl) dX9_together_70 (fun σσ70 hp70 => ?_)
          replace hp70 := Eq.symm hp70; subst hp70
          refine r_aload_n o dX9_together_73 1 rfl ?_
          refine gf_0_7 o mw_243 dX9_together_74 ?_
          refine r_iload o dX9_together_77 5 rfl ?_
          refine r_callVL o (As := [.int pz]) (st := []) (c_X2_partOf (xl X) G (stl (stl σσ61 7 0 (fU (tgU ((σσ61 20).1) ((σσ61 23).1) kz.toNatClampNeg) (tgD ((σσ61 20).1) ((σσ61 23).1) kz.toNatClampNeg))) 7 1 (fL (tgU ((σσ61 20).1) ((σσ61 23).1) kz.toNatClampNeg) (tgD ((σσ61 20).1) ((σσ61 23).1) kz.toNatClampNeg))) (fU (tgU (σσ61 20).1 (σσ61 23).1 kz.toNatClampNeg) (tgD (σσ61 20).1 (σσ61 23).1 kz.toNatClampNeg)) rfl (fL (tgU (σσ61 20).1 (σσ61 23).1 kz.toNatClampNeg) (tgD (σσ61 20).1 (σσ61 23).1 kz.toNatClampNeg)) rfl pz) om_X2_partOf mw_448 mw_449 mw_447 (by decide) rfl rfl rfl (by decide) rfl rfl (Nat.le_of_ble_eq_true rfl) dX9_together_79 (fun rr79 σσ79 hp79 => ?_)
          obtain ⟨hp79, hp79b⟩ := hp79; replace hp79 := Eq.symm hp79; replace hp79b := Eq.symm hp79b; subst hp79; subst hp79b
          refine r_topl (y := if pz = 0 then fU (tgU (dlF σ sn cntq rz.toNatClampNeg) (dlF σ sn cntq s2z.toNatClampNeg) kz.toNatClampNeg) (tgD (dlF σ sn cntq rz.toNatClampNeg) (dlF σ sn cntq s2z.toNatClampNeg) kz.toNatClampNeg) else fL (tgU (dlF σ sn cntq rz.toNatClampNeg) (dlF σ sn cntq s2z.toNatClampNeg) kz.toNatClampNeg) (tgD (dlF σ sn cntq rz.toNatClampNeg) (dlF σ sn cntq s2z.toNatClampNeg) kz.toNatClampNeg)) (by rw [(tg_ag ha20 hb23 _).1, (tg_ag ha20 hb23 _).2]) ?_
          exact r_lreturn o q dX9_together_82 (⟨by rw [if_pos hb47], fun cz hcz => by unfold scrC at hcz; rw [stl_ne (by omega), stl_ne (by omega)]; exact hkp cz (by unfold scrC; omega)⟩)
        · skip
          refine r_ldc2_w o mw_391 dX9_together_50 ?_
          refine r_iload o dX9_together_53 0 rfl ?_
          refine r_i2l o dX9_together_55 rfl ?_
          refine r_ladd o dX9_together_56 ?_
          exact r_lreturn o q dX9_together_57 (⟨by rw [if_neg hb47]; rfl, fun _ _ => rfl⟩)
      · skip
        rw [b01_ne0] at hb24
        refine r_iload o dX9_together_27 4 rfl ?_
        refine r_callSI o (As := [.int pz]) (st := [.int (b01 (inB (nI 0) (nI 5) rz && inB (nI 0) (nI 5) s2z)), .ref (gad G 0)]) (c_X9_isPart (xl X) G σ pz) om_X9_isPart mw_389 mw_388 (by decide) rfl rfl (Nat.le_of_ble_eq_true rfl) dX9_together_29 (fun rr29 σσ29 hp29 => ?_)
        obtain ⟨hp29, hp29b⟩ := hp29; replace hp29 := Eq.symm hp29; replace hp29b := Eq.symm hp29b; subst hp29; subst hp29b
        refine r_if_eq o (tgt := 39) dX9_together_32 (by decide) (fun hb32 => ?_) (fun hb32 => ?_)
        · skip
          rw [b01_eq0] at hb32
          refine r_iconst o (v := nI 0) dX9_together_39 (by decide) ?_
          refine r_topi (y := b01 (inB (nI 0) (nI 23) kz && inB (nI 0) (nI 1) pz)) (by first | (rw [hb24]; rfl) | (rw [hb32, Bool.and_false]; rfl) | (rw [hb24, hb32]; rfl)) ?_
          refine r_callVI o (As := [.int (b01 (inB (nI 0) (nI 5) rz && inB (nI 0) (nI 5) s2z)), .int (b01 (inB (nI 0) (nI 23) kz && inB (nI 0) (nI 1) pz))]) (st := []) (c_X9_refusalOf (xl X) G σ sn cntq hp (inB (nI 0) (nI 5) rz && inB (nI 0) (nI 5) s2z) (inB (nI 0) (nI 23) kz && inB (nI 0) (nI 1) pz)) om_X9_refusalOf mw_343 mw_4 mw_341 (by decide) rfl rfl rfl (by decide) rfl rfl (Nat.le_of_ble_eq_true rfl) dX9_together_40 (fun rr40 σσ40 hp40 => ?_)
          obtain ⟨hp40, hp40b⟩ := hp40; replace hp40 := Eq.symm hp40; replace hp40b := Eq.symm hp40b; subst hp40; subst hp40b
          refine r_istore o (lv' := [(5, .int (refI (inB (nI 0) (nI 5) rz && inB (nI 0) (nI 5) s2z) (inB (nI 0) (nI 23) kz && inB (nI 0) (nI 1) pz) (fltF sn cntq 21 0))), (0, .ref (gad G 0)), (1, .int rz), (2, .int s2z), (3, .int kz), (4, .int pz)]) dX9_together_43 (by decide) rfl ?_
          refine r_iload o dX9_together_45 0 rfl ?_
          refine r_if_eq o (tgt := 58) dX9_together_47 (by decide) (fun hb47 => ?_) (fun hb47 => ?_)
          · skip
            obtain ⟨hk1, hk2, hno⟩ := refI_z hb47
            rw [Bool.and_eq_true] at hk1
            obtain ⟨hr1, hr2⟩ := inB_nI (n := 5) (by decide) hk1.1
            obtain ⟨hs1, hs2⟩ := inB_nI (n := 5) (by decide) hk1.2
            rw [Bool.and_eq_true] at hk2
            obtain ⟨ht1, ht2⟩ := inB_nI (n := 23) (by decide) hk2.1
            refine r_lv (lv' := [(5, .int (refI (inB (nI 0) (nI 5) rz && inB (nI 0) (nI 5) s2z) (inB (nI 0) (nI 23) kz && inB (nI 0) (nI 1) pz) (fltF sn cntq 21 0))), (0, .ref (gad G 0)), (1, .int (nI rz.toNatClampNeg)), (2, .int s2z), (3, .int kz), (4, .int pz)]) (congrArg (fun zz => ([(5, .int (refI (inB (nI 0) (nI 5) rz && inB (nI 0) (nI 5) s2z) (inB (nI 0) (nI 23) kz && inB (nI 0) (nI 1) pz) (fltF sn cntq 21 0))), (0, .ref (gad G 0)), (1, .int zz), (2, .int s2z), (3, .int kz), (4, .int pz)] : List (Nat × Value))) (hr1)) ?_
            refine r_lv (lv' := [(5, .int (refI (inB (nI 0) (nI 5) rz && inB (nI 0) (nI 5) s2z) (inB (nI 0) (nI 23) kz && inB (nI 0) (nI 1) pz) (fltF sn cntq 21 0))), (0, .ref (gad G 0)), (1, .int (nI rz.toNatClampNeg)), (2, .int (nI s2z.toNatClampNeg)), (3, .int kz), (4, .int pz)]) (congrArg (fun zz => ([(5, .int (refI (inB (nI 0) (nI 5) rz && inB (nI 0) (nI 5) s2z) (inB (nI 0) (nI 23) kz && inB (nI 0) (nI 1) pz) (fltF sn cntq 21 0))), (0, .ref (gad G 0)), (1, .int (nI rz.toNatClampNeg)), (2, .int zz), (3, .int kz), (4, .int pz)] : List (Nat × Value))) (hs1)) ?_
            refine r_lv (lv' := [(5, .int (refI (inB (nI 0) (nI 5) rz && inB (nI 0) (nI 5) s2z) (inB (nI 0) (nI 23) kz && inB (nI 0) (nI 1) pz) (fltF sn cntq 21 0))), (0, .ref (gad G 0)), (1, .int (nI rz.toNatClampNeg)), (2, .int (nI s2z.toNatClampNeg)), (3, .int (nI kz.toNatClampNeg)), (4, .int pz)]) (congrArg (fun zz => ([(5, .int (refI (inB (nI 0) (nI 5) rz && inB (nI 0) (nI 5) s2z) (inB (nI 0) (nI 23) kz && inB (nI 0) (nI 1) pz) (fltF sn cntq 21 0))), (0, .ref (gad G 0)), (1, .int (nI rz.toNatClampNeg)), (2, .int (nI s2z.toNatClampNeg)), (3, .int zz), (4, .int pz)] : List (Nat × Value))) (ht1)) ?_
            refine r_aload_n o dX9_together_58 1 rfl ?_
            refine r_iload_n o dX9_together_59 2 rfl ?_
            refine r_iload_n o dX9_together_60 3 rfl ?_
            refine r_callVV o (As := [.int (nI rz.toNatClampNeg), .int (nI s2z.toNatClampNeg)]) (st := []) (c_X9_takeTwo (xl X) G σ sn cntq hp rz.toNatClampNeg (by omega) s2z.toNatClampNeg (by omega) hno) om_X9_takeTwo mw_505 mw_11 mw_503 (by decide) rfl rfl rfl (by decide) rfl rfl (Nat.le_of_ble_eq_true rfl) dX9_together_61 (fun σσ61 hp61 => ?_)
            obtain ⟨ha20, hb23, hkp⟩ := hp61
            refine r_aload_n o dX9_together_64 1 rfl ?_
            refine r_iload_n o dX9_together_65 4 rfl ?_
            refine r_aload_n o dX9_together_66 1 rfl ?_
            refine gf_0_7 o mw_243 dX9_together_67 ?_
            refine r_callVV o (As := [.int (nI kz.toNatClampNeg), .ref (gad G 7)]) (st := []) (c_X9_putTogether_7 (xl X) G σσ61 ((σσ61 20).1) rfl ((σσ61 23).1) rfl kz.toNatClampNeg (by omega)) om_X9_putTogether mw_509 mw_12 mw_507 (by decide) rfl rfl rfl (by decide) rfl rfl (Nat.le_of_ble_eq_true rfl) dX9_together_70 (fun σσ70 hp70 => ?_)
            replace hp70 := Eq.symm hp70; subst hp70
            refine r_aload_n o dX9_together_73 1 rfl ?_
            refine gf_0_7 o mw_243 dX9_together_74 ?_
            refine r_iload o dX9_together_77 5 rfl ?_
            refine r_callVL o (As := [.int pz]) (st := []) (c_X2_partOf (xl X) G (stl (stl σσ61 7 0 (fU (tgU ((σσ61 20).1) ((σσ61 23).1) kz.toNatClampNeg) (tgD ((σσ61 20).1) ((σσ61 23).1) kz.toNatClampNeg))) 7 1 (fL (tgU ((σσ61 20).1) ((σσ61 23).1) kz.toNatClampNeg) (tgD ((σσ61 20).1) ((σσ61 23).1) kz.toNatClampNeg))) (fU (tgU (σσ61 20).1 (σσ61 23).1 kz.toNatClampNeg) (tgD (σσ61 20).1 (σσ61 23).1 kz.toNatClampNeg)) rfl (fL (tgU (σσ61 20).1 (σσ61 23).1 kz.toNatClampNeg) (tgD (σσ61 20).1 (σσ61 23).1 kz.toNatClampNeg)) rfl pz) om_X2_partOf mw_448 mw_449 mw_447 (by decide) rfl rfl rfl (by decide) rfl rfl (Nat.le_of_ble_eq_true rfl) dX9_together_79 (fun rr79 σσ79 hp79 => ?_)
            obtain ⟨hp79, hp79b⟩ := hp79; replace hp79 := Eq.symm hp79; replace hp79b := Eq.symm hp79b; subst hp79; subst hp79b
            refine r_topl (y := if pz = 0 then fU (tgU (dlF σ sn cntq rz.toNatClampNeg) (dlF σ sn cntq s2z.toNatClampNeg) kz.toNatClampNeg) (tgD (dlF σ sn cntq rz.toNatClampNeg) (dlF σ sn cntq s2z.toNatClampNeg) kz.toNatClampNeg) else fL (tgU (dlF σ sn cntq rz.toNatClampNeg) (dlF σ sn cntq s2z.toNatClampNeg) kz.toNatClampNeg) (tgD (dlF σ sn cntq rz.toNatClampNeg) (dlF σ sn cntq s2z.toNatClampNeg) kz.toNatClampNeg)) (by rw [(tg_ag ha20 hb23 _).1, (tg_ag ha20 hb23 _).2]) ?_
            exact r_lreturn o q dX9_together_82 (⟨by rw [if_pos hb47], fun cz hcz => by unfold scrC at hcz; rw [stl_ne (by omega), stl_ne (by omega)]; exact hkp cz (by unfold scrC; omega)⟩)
          · skip
            refine r_ldc2_w o mw_391 dX9_together_50 ?_
            refine r_iload o dX9_together_53 0 rfl ?_
            refine r_i2l o dX9_together_55 rfl ?_
            refine r_ladd o dX9_together_56 ?_
            exact r_lreturn o q dX9_together_57 (⟨by rw [if_neg hb47]; rfl, fun _ _ => rfl⟩)
        · skip
          rw [b01_ne0] at hb32
          refine r_iconst o (v := nI 1) dX9_together_35 (by decide) ?_
          refine r_goto o (tgt := 40) dX9_together_36 (by decide) ?_
          refine r_topi (y := b01 (inB (nI 0) (nI 23) kz && inB (nI 0) (nI 1) pz)) (by first | (rw [hb24]; rfl) | (rw [hb32, Bool.and_false]; rfl) | (rw [hb24, hb32]; rfl)) ?_
          refine r_callVI o (As := [.int (b01 (inB (nI 0) (nI 5) rz && inB (nI 0) (nI 5) s2z)), .int (b01 (inB (nI 0) (nI 23) kz && inB (nI 0) (nI 1) pz))]) (st := []) (c_X9_refusalOf (xl X) G σ sn cntq hp (inB (nI 0) (nI 5) rz && inB (nI 0) (nI 5) s2z) (inB (nI 0) (nI 23) kz && inB (nI 0) (nI 1) pz)) om_X9_refusalOf mw_343 mw_4 mw_341 (by decide) rfl rfl rfl (by decide) rfl rfl (Nat.le_of_ble_eq_true rfl) dX9_together_40 (fun rr40 σσ40 hp40 => ?_)
          obtain ⟨hp40, hp40b⟩ := hp40; replace hp40 := Eq.symm hp40; replace hp40b := Eq.symm hp40b; subst hp40; subst hp40b
          refine r_istore o (lv' := [(5, .int (refI (inB (nI 0) (nI 5) rz && inB (nI 0) (nI 5) s2z) (inB (nI 0) (nI 23) kz && inB (nI 0) (nI 1) pz) (fltF sn cntq 21 0))), (0, .ref (gad G 0)), (1, .int rz), (2, .int s2z), (3, .int kz), (4, .int pz)]) dX9_together_43 (by decide) rfl ?_
          refine r_iload o dX9_together_45 0 rfl ?_
          refine r_if_eq o (tgt := 58) dX9_together_47 (by decide) (fun hb47 => ?_) (fun hb47 => ?_)
          · skip
            obtain ⟨hk1, hk2, hno⟩ := refI_z hb47
            rw [Bool.and_eq_true] at hk1
            obtain ⟨hr1, hr2⟩ := inB_nI (n := 5) (by decide) hk1.1
            obtain ⟨hs1, hs2⟩ := inB_nI (n := 5) (by decide) hk1.2
            rw [Bool.and_eq_true] at hk2
            obtain ⟨ht1, ht2⟩ := inB_nI (n := 23) (by decide) hk2.1
            refine r_lv (lv' := [(5, .int (refI (inB (nI 0) (nI 5) rz && inB (nI 0) (nI 5) s2z) (inB (nI 0) (nI 23) kz && inB (nI 0) (nI 1) pz) (fltF sn cntq 21 0))), (0, .ref (gad G 0)), (1, .int (nI rz.toNatClampNeg)), (2, .int s2z), (3, .int kz), (4, .int pz)]) (congrArg (fun zz => ([(5, .int (refI (inB (nI 0) (nI 5) rz && inB (nI 0) (nI 5) s2z) (inB (nI 0) (nI 23) kz && inB (nI 0) (nI 1) pz) (fltF sn cntq 21 0))), (0, .ref (gad G 0)), (1, .int zz), (2, .int s2z), (3, .int kz), (4, .int pz)] : List (Nat × Value))) (hr1)) ?_
            refine r_lv (lv' := [(5, .int (refI (inB (nI 0) (nI 5) rz && inB (nI 0) (nI 5) s2z) (inB (nI 0) (nI 23) kz && inB (nI 0) (nI 1) pz) (fltF sn cntq 21 0))), (0, .ref (gad G 0)), (1, .int (nI rz.toNatClampNeg)), (2, .int (nI s2z.toNatClampNeg)), (3, .int kz), (4, .int pz)]) (congrArg (fun zz => ([(5, .int (refI (inB (nI 0) (nI 5) rz && inB (nI 0) (nI 5) s2z) (inB (nI 0) (nI 23) kz && inB (nI 0) (nI 1) pz) (fltF sn cntq 21 0))), (0, .ref (gad G 0)), (1, .int (nI rz.toNatClampNeg)), (2, .int zz), (3, .int kz), (4, .int pz)] : List (Nat × Value))) (hs1)) ?_
            refine r_lv (lv' := [(5, .int (refI (inB (nI 0) (nI 5) rz && inB (nI 0) (nI 5) s2z) (inB (nI 0) (nI 23) kz && inB (nI 0) (nI 1) pz) (fltF sn cntq 21 0))), (0, .ref (gad G 0)), (1, .int (nI rz.toNatClampNeg)), (2, .int (nI s2z.toNatClampNeg)), (3, .int (nI kz.toNatClampNeg)), (4, .int pz)]) (congrArg (fun zz => ([(5, .int (refI (inB (nI 0) (nI 5) rz && inB (nI 0) (nI 5) s2z) (inB (nI 0) (nI 23) kz && inB (nI 0) (nI 1) pz) (fltF sn cntq 21 0))), (0, .ref (gad G 0)), (1, .int (nI rz.toNatClampNeg)), (2, .int (nI s2z.toNatClampNeg)), (3, .int zz), (4, .int pz)] : List (Nat × Value))) (ht1)) ?_
            refine r_aload_n o dX9_together_58 1 rfl ?_
            refine r_iload_n o dX9_together_59 2 rfl ?_
            refine r_iload_n o dX9_together_60 3 rfl ?_
            refine r_callVV o (As := [.int (nI rz.toNatClampNeg), .int (nI s2z.toNatClampNeg)]) (st := []) (c_X9_takeTwo (xl X) G σ sn cntq hp rz.toNatClampNeg (by omega) s2z.toNatClampNeg (by omega) hno) om_X9_takeTwo mw_505 mw_11 mw_503 (by decide) rfl rfl rfl (by decide) rfl rfl (Nat.le_of_ble_eq_true rfl) dX9_together_61 (fun σσ61 hp61 => ?_)
            obtain ⟨ha20, hb23, hkp⟩ := hp61
            refine r_aload_n o dX9_together_64 1 rfl ?_
            refine r_iload_n o dX9_together_65 4 rfl ?_
            refine r_aload_n o dX9_together_66 1 rfl ?_
            refine gf_0_7 o mw_243 dX9_together_67 ?_
            refine r_callVV o (As := [.int (nI kz.toNatClampNeg), .ref (gad G 7)]) (st := []) (c_X9_putTogether_7 (xl X) G σσ61 ((σσ61 20).1) rfl ((σσ61 23).1) rfl kz.toNatClampNeg (by omega)) om_X9_putTogether mw_509 mw_12 mw_507 (by decide) rfl rfl rfl (by decide) rfl rfl (Nat.le_of_ble_eq_true rfl) dX9_together_70 (fun σσ70 hp70 => ?_)
            replace hp70 := Eq.symm hp70; subst hp70
            refine r_aload_n o dX9_together_73 1 rfl ?_
            refine gf_0_7 o mw_243 dX9_together_74 ?_
            refine r_iload o dX9_together_77 5 rfl ?_
            refine r_callVL o (As := [.int pz]) (st := []) (c_X2_partOf (xl X) G (stl (stl σσ61 7 0 (fU (tgU ((σσ61 20).1) ((σσ61 23).1) kz.toNatClampNeg) (tgD ((σσ61 20).1) ((σσ61 23).1) kz.toNatClampNeg))) 7 1 (fL (tgU ((σσ61 20).1) ((σσ61 23).1) kz.toNatClampNeg) (tgD ((σσ61 20).1) ((σσ61 23).1) kz.toNatClampNeg))) (fU (tgU (σσ61 20).1 (σσ61 23).1 kz.toNatClampNeg) (tgD (σσ61 20).1 (σσ61 23).1 kz.toNatClampNeg)) rfl (fL (tgU (σσ61 20).1 (σσ61 23).1 kz.toNatClampNeg) (tgD (σσ61 20).1 (σσ61 23).1 kz.toNatClampNeg)) rfl pz) om_X2_partOf mw_448 mw_449 mw_447 (by decide) rfl rfl rfl (by decide) rfl rfl (Nat.le_of_ble_eq_true rfl) dX9_together_79 (fun rr79 σσ79 hp79 => ?_)
            obtain ⟨hp79, hp79b⟩ := hp79; replace hp79 := Eq.symm hp79; replace hp79b := Eq.symm hp79b; subst hp79; subst hp79b
            refine r_topl (y := if pz = 0 then fU (tgU (dlF σ sn cntq rz.toNatClampNeg) (dlF σ sn cntq s2z.toNatClampNeg) kz.toNatClampNeg) (tgD (dlF σ sn cntq rz.toNatClampNeg) (dlF σ sn cntq s2z.toNatClampNeg) kz.toNatClampNeg) else fL (tgU (dlF σ sn cntq rz.toNatClampNeg) (dlF σ sn cntq s2z.toNatClampNeg) kz.toNatClampNeg) (tgD (dlF σ sn cntq rz.toNatClampNeg) (dlF σ sn cntq s2z.toNatClampNeg) kz.toNatClampNeg)) (by rw [(tg_ag ha20 hb23 _).1, (tg_ag ha20 hb23 _).2]) ?_
            exact r_lreturn o q dX9_together_82 (⟨by rw [if_pos hb47], fun cz hcz => by unfold scrC at hcz; rw [stl_ne (by omega), stl_ne (by omega)]; exact hkp cz (by unfold scrC; omega)⟩)
          · skip
            refine r_ldc2_w o mw_391 dX9_together_50 ?_
            refine r_iload o dX9_together_53 0 rfl ?_
            refine r_i2l o dX9_together_55 rfl ?_
            refine r_ladd o dX9_together_56 ?_
            exact r_lreturn o q dX9_together_57 (⟨by rw [if_neg hb47]; rfl, fun _ _ => rfl⟩)
    · skip
      rw [b01_ne0] at hb12
      refine r_iconst o (v := nI 1) dX9_together_15 (by decide) ?_
      refine r_goto o (tgt := 20) dX9_together_16 (by decide) ?_
      refine r_topi (y := b01 (inB (nI 0) (nI 5) rz && inB (nI 0) (nI 5) s2z)) (by first | (rw [hb5]; rfl) | (rw [hb12, Bool.and_false]; rfl) | (rw [hb5, hb12]; rfl)) ?_
      refine r_iload_n o dX9_together_20 3 rfl ?_
      refine r_callSI o (As := [.int kz]) (st := [.int (b01 (inB (nI 0) (nI 5) rz && inB (nI 0) (nI 5) s2z)), .ref (gad G 0)]) (c_X9_isYear (xl X) G σ kz) om_X9_isYear mw_282 mw_281 (by decide) rfl rfl (Nat.le_of_ble_eq_true rfl) dX9_together_21 (fun rr21 σσ21 hp21 => ?_)
      obtain ⟨hp21, hp21b⟩ := hp21; replace hp21 := Eq.symm hp21; replace hp21b := Eq.symm hp21b; subst hp21; subst hp21b
      refine r_if_eq o (tgt := 39) dX9_together_24 (by decide) (fun hb24 => ?_) (fun hb24 => ?_)
      · skip
        rw [b01_eq0] at hb24
        refine r_iconst o (v := nI 0) dX9_together_39 (by decide) ?_
        refine r_topi (y := b01 (inB (nI 0) (nI 23) kz && inB (nI 0) (nI 1) pz)) (by first | (rw [hb24]; rfl) | (rw [hb32, Bool.and_false]; rfl) | (rw [hb24, hb32]; rfl)) ?_
        refine r_callVI o (As := [.int (b01 (inB (nI 0) (nI 5) rz && inB (nI 0) (nI 5) s2z)), .int (b01 (inB (nI 0) (nI 23) kz && inB (nI 0) (nI 1) pz))]) (st := []) (c_X9_refusalOf (xl X) G σ sn cntq hp (inB (nI 0) (nI 5) rz && inB (nI 0) (nI 5) s2z) (inB (nI 0) (nI 23) kz && inB (nI 0) (nI 1) pz)) om_X9_refusalOf mw_343 mw_4 mw_341 (by decide) rfl rfl rfl (by decide) rfl rfl (Nat.le_of_ble_eq_true rfl) dX9_together_40 (fun rr40 σσ40 hp40 => ?_)
        obtain ⟨hp40, hp40b⟩ := hp40; replace hp40 := Eq.symm hp40; replace hp40b := Eq.symm hp40b; subst hp40; subst hp40b
        refine r_istore o (lv' := [(5, .int (refI (inB (nI 0) (nI 5) rz && inB (nI 0) (nI 5) s2z) (inB (nI 0) (nI 23) kz && inB (nI 0) (nI 1) pz) (fltF sn cntq 21 0))), (0, .ref (gad G 0)), (1, .int rz), (2, .int s2z), (3, .int kz), (4, .int pz)]) dX9_together_43 (by decide) rfl ?_
        refine r_iload o dX9_together_45 0 rfl ?_
        refine r_if_eq o (tgt := 58) dX9_together_47 (by decide) (fun hb47 => ?_) (fun hb47 => ?_)
        · skip
          obtain ⟨hk1, hk2, hno⟩ := refI_z hb47
          rw [Bool.and_eq_true] at hk1
          obtain ⟨hr1, hr2⟩ := inB_nI (n := 5) (by decide) hk1.1
          obtain ⟨hs1, hs2⟩ := inB_nI (n := 5) (by decide) hk1.2
          rw [Bool.and_eq_true] at hk2
          obtain ⟨ht1, ht2⟩ := inB_nI (n := 23) (by decide) hk2.1
          refine r_lv (lv' := [(5, .int (refI (inB (nI 0) (nI 5) rz && inB (nI 0) (nI 5) s2z) (inB (nI 0) (nI 23) kz && inB (nI 0) (nI 1) pz) (fltF sn cntq 21 0))), (0, .ref (gad G 0)), (1, .int (nI rz.toNatClampNeg)), (2, .int s2z), (3, .int kz), (4, .int pz)]) (congrArg (fun zz => ([(5, .int (refI (inB (nI 0) (nI 5) rz && inB (nI 0) (nI 5) s2z) (inB (nI 0) (nI 23) kz && inB (nI 0) (nI 1) pz) (fltF sn cntq 21 0))), (0, .ref (gad G 0)), (1, .int zz), (2, .int s2z), (3, .int kz), (4, .int pz)] : List (Nat × Value))) (hr1)) ?_
          refine r_lv (lv' := [(5, .int (refI (inB (nI 0) (nI 5) rz && inB (nI 0) (nI 5) s2z) (inB (nI 0) (nI 23) kz && inB (nI 0) (nI 1) pz) (fltF sn cntq 21 0))), (0, .ref (gad G 0)), (1, .int (nI rz.toNatClampNeg)), (2, .int (nI s2z.toNatClampNeg)), (3, .int kz), (4, .int pz)]) (congrArg (fun zz => ([(5, .int (refI (inB (nI 0) (nI 5) rz && inB (nI 0) (nI 5) s2z) (inB (nI 0) (nI 23) kz && inB (nI 0) (nI 1) pz) (fltF sn cntq 21 0))), (0, .ref (gad G 0)), (1, .int (nI rz.toNatClampNeg)), (2, .int zz), (3, .int kz), (4, .int pz)] : List (Nat × Value))) (hs1)) ?_
          refine r_lv (lv' := [(5, .int (refI (inB (nI 0) (nI 5) rz && inB (nI 0) (nI 5) s2z) (inB (nI 0) (nI 23) kz && inB (nI 0) (nI 1) pz) (fltF sn cntq 21 0))), (0, .ref (gad G 0)), (1, .int (nI rz.toNatClampNeg)), (2, .int (nI s2z.toNatClampNeg)), (3, .int (nI kz.toNatClampNeg)), (4, .int pz)]) (congrArg (fun zz => ([(5, .int (refI (inB (nI 0) (nI 5) rz && inB (nI 0) (nI 5) s2z) (inB (nI 0) (nI 23) kz && inB (nI 0) (nI 1) pz) (fltF sn cntq 21 0))), (0, .ref (gad G 0)), (1, .int (nI rz.toNatClampNeg)), (2, .int (nI s2z.toNatClampNeg)), (3, .int zz), (4, .int pz)] : List (Nat × Value))) (ht1)) ?_
          refine r_aload_n o dX9_together_58 1 rfl ?_
          refine r_iload_n o dX9_together_59 2 rfl ?_
          refine r_iload_n o dX9_together_60 3 rfl ?_
          refine r_callVV o (As := [.int (nI rz.toNatClampNeg), .int (nI s2z.toNatClampNeg)]) (st := []) (c_X9_takeTwo (xl X) G σ sn cntq hp rz.toNatClampNeg (by omega) s2z.toNatClampNeg (by omega) hno) om_X9_takeTwo mw_505 mw_11 mw_503 (by decide) rfl rfl rfl (by decide) rfl rfl (Nat.le_of_ble_eq_true rfl) dX9_together_61 (fun σσ61 hp61 => ?_)
          obtain ⟨ha20, hb23, hkp⟩ := hp61
          refine r_aload_n o dX9_together_64 1 rfl ?_
          refine r_iload_n o dX9_together_65 4 rfl ?_
          refine r_aload_n o dX9_together_66 1 rfl ?_
          refine gf_0_7 o mw_243 dX9_together_67 ?_
          refine r_callVV o (As := [.int (nI kz.toNatClampNeg), .ref (gad G 7)]) (st := []) (c_X9_putTogether_7 (xl X) G σσ61 ((σσ61 20).1) rfl ((σσ61 23).1) rfl kz.toNatClampNeg (by omega)) om_X9_putTogether mw_509 mw_12 mw_507 (by decide) rfl rfl rfl (by decide) rfl rfl (Nat.le_of_ble_eq_true rfl) dX9_together_70 (fun σσ70 hp70 => ?_)
          replace hp70 := Eq.symm hp70; subst hp70
          refine r_aload_n o dX9_together_73 1 rfl ?_
          refine gf_0_7 o mw_243 dX9_together_74 ?_
          refine r_iload o dX9_together_77 5 rfl ?_
          refine r_callVL o (As := [.int pz]) (st := []) (c_X2_partOf (xl X) G (stl (stl σσ61 7 0 (fU (tgU ((σσ61 20).1) ((σσ61 23).1) kz.toNatClampNeg) (tgD ((σσ61 20).1) ((σσ61 23).1) kz.toNatClampNeg))) 7 1 (fL (tgU ((σσ61 20).1) ((σσ61 23).1) kz.toNatClampNeg) (tgD ((σσ61 20).1) ((σσ61 23).1) kz.toNatClampNeg))) (fU (tgU (σσ61 20).1 (σσ61 23).1 kz.toNatClampNeg) (tgD (σσ61 20).1 (σσ61 23).1 kz.toNatClampNeg)) rfl (fL (tgU (σσ61 20).1 (σσ61 23).1 kz.toNatClampNeg) (tgD (σσ61 20).1 (σσ61 23).1 kz.toNatClampNeg)) rfl pz) om_X2_partOf mw_448 mw_449 mw_447 (by decide) rfl rfl rfl (by decide) rfl rfl (Nat.le_of_ble_eq_true rfl) dX9_together_79 (fun rr79 σσ79 hp79 => ?_)
          obtain ⟨hp79, hp79b⟩ := hp79; replace hp79 := Eq.symm hp79; replace hp79b := Eq.symm hp79b; subst hp79; subst hp79b
          refine r_topl (y := if pz = 0 then fU (tgU (dlF σ sn cntq rz.toNatClampNeg) (dlF σ sn cntq s2z.toNatClampNeg) kz.toNatClampNeg) (tgD (dlF σ sn cntq rz.toNatClampNeg) (dlF σ sn cntq s2z.toNatClampNeg) kz.toNatClampNeg) else fL (tgU (dlF σ sn cntq rz.toNatClampNeg) (dlF σ sn cntq s2z.toNatClampNeg) kz.toNatClampNeg) (tgD (dlF σ sn cntq rz.toNatClampNeg) (dlF σ sn cntq s2z.toNatClampNeg) kz.toNatClampNeg)) (by rw [(tg_ag ha20 hb23 _).1, (tg_ag ha20 hb23 _).2]) ?_
          exact r_lreturn o q dX9_together_82 (⟨by rw [if_pos hb47], fun cz hcz => by unfold scrC at hcz; rw [stl_ne (by omega), stl_ne (by omega)]; exact hkp cz (by unfold scrC; omega)⟩)
        · skip
          refine r_ldc2_w o mw_391 dX9_together_50 ?_
          refine r_iload o dX9_together_53 0 rfl ?_
          refine r_i2l o dX9_together_55 rfl ?_
          refine r_ladd o dX9_together_56 ?_
          exact r_lreturn o q dX9_together_57 (⟨by rw [if_neg hb47]; rfl, fun _ _ => rfl⟩)
      · skip
        rw [b01_ne0] at hb24
        refine r_iload o dX9_together_27 4 rfl ?_
        refine r_callSI o (As := [.int pz]) (st := [.int (b01 (inB (nI 0) (nI 5) rz && inB (nI 0) (nI 5) s2z)), .ref (gad G 0)]) (c_X9_isPart (xl X) G σ pz) om_X9_isPart mw_389 mw_388 (by decide) rfl rfl (Nat.le_of_ble_eq_true rfl) dX9_together_29 (fun rr29 σσ29 hp29 => ?_)
        obtain ⟨hp29, hp29b⟩ := hp29; replace hp29 := Eq.symm hp29; replace hp29b := Eq.symm hp29b; subst hp29; subst hp29b
        refine r_if_eq o (tgt := 39) dX9_together_32 (by decide) (fun hb32 => ?_) (fun hb32 => ?_)
        · skip
          rw [b01_eq0] at hb32
          refine r_iconst o (v := nI 0) dX9_together_39 (by decide) ?_
          refine r_topi (y := b01 (inB (nI 0) (nI 23) kz && inB (nI 0) (nI 1) pz)) (by first | (rw [hb24]; rfl) | (rw [hb32, Bool.and_false]; rfl) | (rw [hb24, hb32]; rfl)) ?_
          refine r_callVI o (As := [.int (b01 (inB (nI 0) (nI 5) rz && inB (nI 0) (nI 5) s2z)), .int (b01 (inB (nI 0) (nI 23) kz && inB (nI 0) (nI 1) pz))]) (st := []) (c_X9_refusalOf (xl X) G σ sn cntq hp (inB (nI 0) (nI 5) rz && inB (nI 0) (nI 5) s2z) (inB (nI 0) (nI 23) kz && inB (nI 0) (nI 1) pz)) om_X9_refusalOf mw_343 mw_4 mw_341 (by decide) rfl rfl rfl (by decide) rfl rfl (Nat.le_of_ble_eq_true rfl) dX9_together_40 (fun rr40 σσ40 hp40 => ?_)
          obtain ⟨hp40, hp40b⟩ := hp40; replace hp40 := Eq.symm hp40; replace hp40b := Eq.symm hp40b; subst hp40; subst hp40b
          refine r_istore o (lv' := [(5, .int (refI (inB (nI 0) (nI 5) rz && inB (nI 0) (nI 5) s2z) (inB (nI 0) (nI 23) kz && inB (nI 0) (nI 1) pz) (fltF sn cntq 21 0))), (0, .ref (gad G 0)), (1, .int rz), (2, .int s2z), (3, .int kz), (4, .int pz)]) dX9_together_43 (by decide) rfl ?_
          refine r_iload o dX9_together_45 0 rfl ?_
          refine r_if_eq o (tgt := 58) dX9_together_47 (by decide) (fun hb47 => ?_) (fun hb47 => ?_)
          · skip
            obtain ⟨hk1, hk2, hno⟩ := refI_z hb47
            rw [Bool.and_eq_true] at hk1
            obtain ⟨hr1, hr2⟩ := inB_nI (n := 5) (by decide) hk1.1
            obtain ⟨hs1, hs2⟩ := inB_nI (n := 5) (by decide) hk1.2
            rw [Bool.and_eq_true] at hk2
            obtain ⟨ht1, ht2⟩ := inB_nI (n := 23) (by decide) hk2.1
            refine r_lv (lv' := [(5, .int (refI (inB (nI 0) (nI 5) rz && inB (nI 0) (nI 5) s2z) (inB (nI 0) (nI 23) kz && inB (nI 0) (nI 1) pz) (fltF sn cntq 21 0))), (0, .ref (gad G 0)), (1, .int (nI rz.toNatClampNeg)), (2, .int s2z), (3, .int kz), (4, .int pz)]) (congrArg (fun zz => ([(5, .int (refI (inB (nI 0) (nI 5) rz && inB (nI 0) (nI 5) s2z) (inB (nI 0) (nI 23) kz && inB (nI 0) (nI 1) pz) (fltF sn cntq 21 0))), (0, .ref (gad G 0)), (1, .int zz), (2, .int s2z), (3, .int kz), (4, .int pz)] : List (Nat × Value))) (hr1)) ?_
            refine r_lv (lv' := [(5, .int (refI (inB (nI 0) (nI 5) rz && inB (nI 0) (nI 5) s2z) (inB (nI 0) (nI 23) kz && inB (nI 0) (nI 1) pz) (fltF sn cntq 21 0))), (0, .ref (gad G 0)), (1, .int (nI rz.toNatClampNeg)), (2, .int (nI s2z.toNatClampNeg)), (3, .int kz), (4, .int pz)]) (congrArg (fun zz => ([(5, .int (refI (inB (nI 0) (nI 5) rz && inB (nI 0) (nI 5) s2z) (inB (nI 0) (nI 23) kz && inB (nI 0) (nI 1) pz) (fltF sn cntq 21 0))), (0, .ref (gad G 0)), (1, .int (nI rz.toNatClampNeg)), (2, .int zz), (3, .int kz), (4, .int pz)] : List (Nat × Value))) (hs1)) ?_
            refine r_lv (lv' := [(5, .int (refI (inB (nI 0) (nI 5) rz && inB (nI 0) (nI 5) s2z) (inB (nI 0) (nI 23) kz && inB (nI 0) (nI 1) pz) (fltF sn cntq 21 0))), (0, .ref (gad G 0)), (1, .int (nI rz.toNatClampNeg)), (2, .int (nI s2z.toNatClampNeg)), (3, .int (nI kz.toNatClampNeg)), (4, .int pz)]) (congrArg (fun zz => ([(5, .int (refI (inB (nI 0) (nI 5) rz && inB (nI 0) (nI 5) s2z) (inB (nI 0) (nI 23) kz && inB (nI 0) (nI 1) pz) (fltF sn cntq 21 0))), (0, .ref (gad G 0)), (1, .int (nI rz.toNatClampNeg)), (2, .int (nI s2z.toNatClampNeg)), (3, .int zz), (4, .int pz)] : List (Nat × Value))) (ht1)) ?_
            refine r_aload_n o dX9_together_58 1 rfl ?_
            refine r_iload_n o dX9_together_59 2 rfl ?_
            refine r_iload_n o dX9_together_60 3 rfl ?_
            refine r_callVV o (As := [.int (nI rz.toNatClampNeg), .int (nI s2z.toNatClampNeg)]) (st := []) (c_X9_takeTwo (xl X) G σ sn cntq hp rz.toNatClampNeg (by omega) s2z.toNatClampNeg (by omega) hno) om_X9_takeTwo mw_505 mw_11 mw_503 (by decide) rfl rfl rfl (by decide) rfl rfl (Nat.le_of_ble_eq_true rfl) dX9_together_61 (fun σσ61 hp61 => ?_)
            obtain ⟨ha20, hb23, hkp⟩ := hp61
            refine r_aload_n o dX9_together_64 1 rfl ?_
            refine r_iload_n o dX9_together_65 4 rfl ?_
            refine r_aload_n o dX9_together_66 1 rfl ?_
            refine gf_0_7 o mw_243 dX9_together_67 ?_
            refine r_callVV o (As := [.int (nI kz.toNatClampNeg), .ref (gad G 7)]) (st := []) (c_X9_putTogether_7 (xl X) G σσ61 ((σσ61 20).1) rfl ((σσ61 23).1) rfl kz.toNatClampNeg (by omega)) om_X9_putTogether mw_509 mw_12 mw_507 (by decide) rfl rfl rfl (by decide) rfl rfl (Nat.le_of_ble_eq_true rfl) dX9_together_70 (fun σσ70 hp70 => ?_)
            replace hp70 := Eq.symm hp70; subst hp70
            refine r_aload_n o dX9_together_73 1 rfl ?_
            refine gf_0_7 o mw_243 dX9_together_74 ?_
            refine r_iload o dX9_together_77 5 rfl ?_
            refine r_callVL o (As := [.int pz]) (st := []) (c_X2_partOf (xl X) G (stl (stl σσ61 7 0 (fU (tgU ((σσ61 20).1) ((σσ61 23).1) kz.toNatClampNeg) (tgD ((σσ61 20).1) ((σσ61 23).1) kz.toNatClampNeg))) 7 1 (fL (tgU ((σσ61 20).1) ((σσ61 23).1) kz.toNatClampNeg) (tgD ((σσ61 20).1) ((σσ61 23).1) kz.toNatClampNeg))) (fU (tgU (σσ61 20).1 (σσ61 23).1 kz.toNatClampNeg) (tgD (σσ61 20).1 (σσ61 23).1 kz.toNatClampNeg)) rfl (fL (tgU (σσ61 20).1 (σσ61 23).1 kz.toNatClampNeg) (tgD (σσ61 20).1 (σσ61 23).1 kz.toNatClampNeg)) rfl pz) om_X2_partOf mw_448 mw_449 mw_447 (by decide) rfl rfl rfl (by decide) rfl rfl (Nat.le_of_ble_eq_true rfl) dX9_together_79 (fun rr79 σσ79 hp79 => ?_)
            obtain ⟨hp79, hp79b⟩ := hp79; replace hp79 := Eq.symm hp79; replace hp79b := Eq.symm hp79b; subst hp79; subst hp79b
            refine r_topl (y := if pz = 0 then fU (tgU (dlF σ sn cntq rz.toNatClampNeg) (dlF σ sn cntq s2z.toNatClampNeg) kz.toNatClampNeg) (tgD (dlF σ sn cntq rz.toNatClampNeg) (dlF σ sn cntq s2z.toNatClampNeg) kz.toNatClampNeg) else fL (tgU (dlF σ sn cntq rz.toNatClampNeg) (dlF σ sn cntq s2z.toNatClampNeg) kz.toNatClampNeg) (tgD (dlF σ sn cntq rz.toNatClampNeg) (dlF σ sn cntq s2z.toNatClampNeg) kz.toNatClampNeg)) (by rw [(tg_ag ha20 hb23 _).1, (tg_ag ha20 hb23 _).2]) ?_
            exact r_lreturn o q dX9_together_82 (⟨by rw [if_pos hb47], fun cz hcz => by unfold scrC at hcz; rw [stl_ne (by omega), stl_ne (by omega)]; exact hkp cz (by unfold scrC; omega)⟩)
          · skip
            refine r_ldc2_w o mw_391 dX9_together_50 ?_
            refine r_iload o dX9_together_53 0 rfl ?_
            refine r_i2l o dX9_together_55 rfl ?_
            refine r_ladd o dX9_together_56 ?_
            exact r_lreturn o q dX9_together_57 (⟨by rw [if_neg hb47]; rfl, fun _ _ => rfl⟩)
        · skip
          rw [b01_ne0] at hb32
          refine r_iconst o (v := nI 1) dX9_together_35 (by decide) ?_
          refine r_goto o (tgt := 40) dX9_together_36 (by decide) ?_
          refine r_topi (y := b01 (inB (nI 0) (nI 23) kz && inB (nI 0) (nI 1) pz)) (by first | (rw [hb24]; rfl) | (rw [hb32, Bool.and_false]; rfl) | (rw [hb24, hb32]; rfl)) ?_
          refine r_callVI o (As := [.int (b01 (inB (nI 0) (nI 5) rz && inB (nI 0) (nI 5) s2z)), .int (b01 (inB (nI 0) (nI 23) kz && inB (nI 0) (nI 1) pz))]) (st := []) (c_X9_refusalOf (xl X) G σ sn cntq hp (inB (nI 0) (nI 5) rz && inB (nI 0) (nI 5) s2z) (inB (nI 0) (nI 23) kz && inB (nI 0) (nI 1) pz)) om_X9_refusalOf mw_343 mw_4 mw_341 (by decide) rfl rfl rfl (by decide) rfl rfl (Nat.le_of_ble_eq_true rfl) dX9_together_40 (fun rr40 σσ40 hp40 => ?_)
          obtain ⟨hp40, hp40b⟩ := hp40; replace hp40 := Eq.symm hp40; replace hp40b := Eq.symm hp40b; subst hp40; subst hp40b
          refine r_istore o (lv' := [(5, .int (refI (inB (nI 0) (nI 5) rz && inB (nI 0) (nI 5) s2z) (inB (nI 0) (nI 23) kz && inB (nI 0) (nI 1) pz) (fltF sn cntq 21 0))), (0, .ref (gad G 0)), (1, .int rz), (2, .int s2z), (3, .int kz), (4, .int pz)]) dX9_together_43 (by decide) rfl ?_
          refine r_iload o dX9_together_45 0 rfl ?_
          refine r_if_eq o (tgt := 58) dX9_together_47 (by decide) (fun hb47 => ?_) (fun hb47 => ?_)
          · skip
            obtain ⟨hk1, hk2, hno⟩ := refI_z hb47
            rw [Bool.and_eq_true] at hk1
            obtain ⟨hr1, hr2⟩ := inB_nI (n := 5) (by decide) hk1.1
            obtain ⟨hs1, hs2⟩ := inB_nI (n := 5) (by decide) hk1.2
            rw [Bool.and_eq_true] at hk2
            obtain ⟨ht1, ht2⟩ := inB_nI (n := 23) (by decide) hk2.1
            refine r_lv (lv' := [(5, .int (refI (inB (nI 0) (nI 5) rz && inB (nI 0) (nI 5) s2z) (inB (nI 0) (nI 23) kz && inB (nI 0) (nI 1) pz) (fltF sn cntq 21 0))), (0, .ref (gad G 0)), (1, .int (nI rz.toNatClampNeg)), (2, .int s2z), (3, .int kz), (4, .int pz)]) (congrArg (fun zz => ([(5, .int (refI (inB (nI 0) (nI 5) rz && inB (nI 0) (nI 5) s2z) (inB (nI 0) (nI 23) kz && inB (nI 0) (nI 1) pz) (fltF sn cntq 21 0))), (0, .ref (gad G 0)), (1, .int zz), (2, .int s2z), (3, .int kz), (4, .int pz)] : List (Nat × Value))) (hr1)) ?_
            refine r_lv (lv' := [(5, .int (refI (inB (nI 0) (nI 5) rz && inB (nI 0) (nI 5) s2z) (inB (nI 0) (nI 23) kz && inB (nI 0) (nI 1) pz) (fltF sn cntq 21 0))), (0, .ref (gad G 0)), (1, .int (nI rz.toNatClampNeg)), (2, .int (nI s2z.toNatClampNeg)), (3, .int kz), (4, .int pz)]) (congrArg (fun zz => ([(5, .int (refI (inB (nI 0) (nI 5) rz && inB (nI 0) (nI 5) s2z) (inB (nI 0) (nI 23) kz && inB (nI 0) (nI 1) pz) (fltF sn cntq 21 0))), (0, .ref (gad G 0)), (1, .int (nI rz.toNatClampNeg)), (2, .int zz), (3, .int kz), (4, .int pz)] : List (Nat × Value))) (hs1)) ?_
            refine r_lv (lv' := [(5, .int (refI (inB (nI 0) (nI 5) rz && inB (nI 0) (nI 5) s2z) (inB (nI 0) (nI 23) kz && inB (nI 0) (nI 1) pz) (fltF sn cntq 21 0))), (0, .ref (gad G 0)), (1, .int (nI rz.toNatClampNeg)), (2, .int (nI s2z.toNatClampNeg)), (3, .int (nI kz.toNatClampNeg)), (4, .int pz)]) (congrArg (fun zz => ([(5, .int (refI (inB (nI 0) (nI 5) rz && inB (nI 0) (nI 5) s2z) (inB (nI 0) (nI 23) kz && inB (nI 0) (nI 1) pz) (fltF sn cntq 21 0))), (0, .ref (gad G 0)), (1, .int (nI rz.toNatClampNeg)), (2, .int (nI s2z.toNatClampNeg)), (3, .int zz), (4, .int pz)] : List (Nat × Value))) (ht1)) ?_
            refine r_aload_n o dX9_together_58 1 rfl ?_
            refine r_iload_n o dX9_together_59 2 rfl ?_
            refine r_iload_n o dX9_together_60 3 rfl ?_
            refine r_callVV o (As := [.int (nI rz.toNatClampNeg), .int (nI s2z.toNatClampNeg)]) (st := []) (c_X9_takeTwo (xl X) G σ sn cntq hp rz.toNatClampNeg (by omega) s2z.toNatClampNeg (by omega) hno) om_X9_takeTwo mw_505 mw_11 mw_503 (by decide) rfl rfl rfl (by decide) rfl rfl (Nat.le_of_ble_eq_true rfl) dX9_together_61 (fun σσ61 hp61 => ?_)
            obtain ⟨ha20, hb23, hkp⟩ := hp61
            refine r_aload_n o dX9_together_64 1 rfl ?_
            refine r_iload_n o dX9_together_65 4 rfl ?_
            refine r_aload_n o dX9_together_66 1 rfl ?_
            refine gf_0_7 o mw_243 dX9_together_67 ?_
            refine r_callVV o (As := [.int (nI kz.toNatClampNeg), .ref (gad G 7)]) (st := []) (c_X9_putTogether_7 (xl X) G σσ61 ((σσ61 20).1) rfl ((σσ61 23).1) rfl kz.toNatClampNeg (by omega)) om_X9_putTogether mw_509 mw_12 mw_507 (by decide) rfl rfl rfl (by decide) rfl rfl (Nat.le_of_ble_eq_true rfl) dX9_together_70 (fun σσ70 hp70 => ?_)
            replace hp70 := Eq.symm hp70; subst hp70
            refine r_aload_n o dX9_together_73 1 rfl ?_
            refine gf_0_7 o mw_243 dX9_together_74 ?_
            refine r_iload o dX9_together_77 5 rfl ?_
            refine r_callVL o (As := [.int pz]) (st := []) (c_X2_partOf (xl X) G (stl (stl σσ61 7 0 (fU (tgU ((σσ61 20).1) ((σσ61 23).1) kz.toNatClampNeg) (tgD ((σσ61 20).1) ((σσ61 23).1) kz.toNatClampNeg))) 7 1 (fL (tgU ((σσ61 20).1) ((σσ61 23).1) kz.toNatClampNeg) (tgD ((σσ61 20).1) ((σσ61 23).1) kz.toNatClampNeg))) (fU (tgU (σσ61 20).1 (σσ61 23).1 kz.toNatClampNeg) (tgD (σσ61 20).1 (σσ61 23).1 kz.toNatClampNeg)) rfl (fL (tgU (σσ61 20).1 (σσ61 23).1 kz.toNatClampNeg) (tgD (σσ61 20).1 (σσ61 23).1 kz.toNatClampNeg)) rfl pz) om_X2_partOf mw_448 mw_449 mw_447 (by decide) rfl rfl rfl (by decide) rfl rfl (Nat.le_of_ble_eq_true rfl) dX9_together_79 (fun rr79 σσ79 hp79 => ?_)
            obtain ⟨hp79, hp79b⟩ := hp79; replace hp79 := Eq.symm hp79; replace hp79b := Eq.symm hp79b; subst hp79; subst hp79b
            refine r_topl (y := if pz = 0 then fU (tgU (dlF σ sn cntq rz.toNatClampNeg) (dlF σ sn cntq s2z.toNatClampNeg) kz.toNatClampNeg) (tgD (dlF σ sn cntq rz.toNatClampNeg) (dlF σ sn cntq s2z.toNatClampNeg) kz.toNatClampNeg) else fL (tgU (dlF σ sn cntq rz.toNatClampNeg) (dlF σ sn cntq s2z.toNatClampNeg) kz.toNatClampNeg) (tgD (dlF σ sn cntq rz.toNatClampNeg) (dlF σ sn cntq s2z.toNatClampNeg) kz.toNatClampNeg)) (by rw [(tg_ag ha20 hb23 _).1, (tg_ag ha20 hb23 _).2]) ?_
            exact r_lreturn o q dX9_together_82 (⟨by rw [if_pos hb47], fun cz hcz => by unfold scrC at hcz; rw [stl_ne (by omega), stl_ne (by omega)]; exact hkp cz (by unfold scrC; omega)⟩)
          · skip
            refine r_ldc2_w o mw_391 dX9_together_50 ?_
            refine r_iload o dX9_together_53 0 rfl ?_
            refine r_i2l o dX9_together_55 rfl ?_
            refine r_ladd o dX9_together_56 ?_
            exact r_lreturn o q dX9_together_57 (⟨by rw [if_neg hb47]; rfl, fun _ _ => rfl⟩)
set_option maxHeartbeats 4000000 in
set_option maxRecDepth 100000 in
theorem c_X9_waves (l : Launch) (G : Gl) (σ : Sto) (nz : Int32) (mz : Int32) (pz : Int32) : CtL l G yX9_waves cX9_waves 6 (some .long) 2 56 [.ref (gad G 0), .int nz, .int mz, .int pz] σ (fun r σ' => r = (if (inB (nI 3) (nI 12) nz && (inB (nI 1) (nI 5) mz && inB (nI 0) (nI 1) pz)) = false then -1000000000000000002 else (if pz = 0 then fU (nI (wvS nz.toNatClampNeg mz.toNatClampNeg (2 ^ nz.toNatClampNeg))).toInt64 (nI (1 * 2 ^ nz.toNatClampNeg)).toInt64 else fL (nI (wvS nz.toNatClampNeg mz.toNatClampNeg (2 ^ nz.toNatClampNeg))).toInt64 (nI (1 * 2 ^ nz.toNatClampNeg)).toInt64)) ∧ keepC σ σ') := by
  refine CtL.of (by decide +kernel) (Nat.le_of_ble_eq_true rfl) (fun X o q => ?_)
  show WS X G 6 σ 0 [(0, .ref (gad G 0)), (1, .int nz), (2, .int mz), (3, .int pz)] []
  refine r_iload_n o dX9_waves_0 1 rfl ?_
  refine r_iconst o (v := nI 3) dX9_waves_1 (by decide) ?_
  refine r_bipush o (v := nI 12) dX9_waves_2 (by decide) ?_
  refine r_callSI o (As := [.int nz, .int (nI 3), .int (nI 12)]) (st := []) (c_X9_isWithin (xl X) G σ nz (nI 3) (nI 12)) om_X9_isWithin mw_278 mw_277 (by decide) rfl rfl (Nat.le_of_ble_eq_true rfl) dX9_waves_4 (fun rr4 σσ4 hp4 => ?_)
  obtain ⟨hp4, hp4b⟩ := hp4; replace hp4 := Eq.symm hp4; replace hp4b := Eq.symm hp4b; subst hp4; subst hp4b
  refine r_if_eq o (tgt := 26) dX9_waves_7 (by decide) (fun hb7 => ?_) (fun hb7 => ?_)
  · skip
    rw [b01_eq0] at hb7
    refine r_ldc2_w o mw_524 dX9_waves_26 ?_
    exact r_lreturn o q dX9_waves_29 (⟨by rw [if_pos (by first | (rw [hb7]; rfl) | (rw [hb16]; simp; done) | (rw [hb23]; simp; done))], fun _ _ => rfl⟩)
  · skip
    rw [b01_ne0] at hb7
    refine r_iload_n o dX9_waves_10 2 rfl ?_
    refine r_iconst o (v := nI 1) dX9_waves_11 (by decide) ?_
    refine r_iconst o (v := nI 5) dX9_waves_12 (by decide) ?_
    refine r_callSI o (As := [.int mz, .int (nI 1), .int (nI 5)]) (st := []) (c_X9_isWithin (xl X) G σ mz (nI 1) (nI 5)) om_X9_isWithin mw_278 mw_277 (by decide) rfl rfl (Nat.le_of_ble_eq_true rfl) dX9_waves_13 (fun rr13 σσ13 hp13 => ?_)
    obtain ⟨hp13, hp13b⟩ := hp13; replace hp13 := Eq.symm hp13; replace hp13b := Eq.symm hp13b; subst hp13; subst hp13b
    refine r_if_eq o (tgt := 26) dX9_waves_16 (by decide) (fun hb16 => ?_) (fun hb16 => ?_)
    · skip
      rw [b01_eq0] at hb16
      refine r_ldc2_w o mw_524 dX9_waves_26 ?_
      exact r_lreturn o q dX9_waves_29 (⟨by rw [if_pos (by first | (rw [hb7]; rfl) | (rw [hb16]; simp; done) | (rw [hb23]; simp; done))], fun _ _ => rfl⟩)
    · skip
      rw [b01_ne0] at hb16
      refine r_iload_n o dX9_waves_19 3 rfl ?_
      refine r_callSI o (As := [.int pz]) (st := []) (c_X9_isPart (xl X) G σ pz) om_X9_isPart mw_389 mw_388 (by decide) rfl rfl (Nat.le_of_ble_eq_true rfl) dX9_waves_20 (fun rr20 σσ20 hp20 => ?_)
      obtain ⟨hp20, hp20b⟩ := hp20; replace hp20 := Eq.symm hp20; replace hp20b := Eq.symm hp20b; subst hp20; subst hp20b
      refine r_if_ne o (tgt := 30) dX9_waves_23 (by decide) (fun hb23 => ?_) (fun hb23 => ?_)
      · skip
        rw [b01_ne0] at hb23
        obtain ⟨hn1, hn2⟩ := inB_nI (n := 12) (by decide) (inB_wk hb7)
        have hn3 := inB_ge hb7
        obtain ⟨hm1, hm2⟩ := inB_nI (n := 5) (by decide) (inB_wk hb16)
        have hm3 := inB_ge hb16
        have hp1 : 2 ^ nz.toNatClampNeg ≤ 4096 := pow_le2 (jq := 12) hn2
        refine r_lv (lv' := [(0, .ref (gad G 0)), (1, .int (nI nz.toNatClampNeg)), (2, .int mz), (3, .int pz)]) (congrArg (fun zz => ([(0, .ref (gad G 0)), (1, .int zz), (2, .int mz), (3, .int pz)] : List (Nat × Value))) (hn1)) ?_
        refine r_lv (lv' := [(0, .ref (gad G 0)), (1, .int (nI nz.toNatClampNeg)), (2, .int (nI mz.toNatClampNeg)), (3, .int pz)]) (congrArg (fun zz => ([(0, .ref (gad G 0)), (1, .int (nI nz.toNatClampNeg)), (2, .int zz), (3, .int pz)] : List (Nat × Value))) (hm1)) ?_
        refine r_iconst o (v := nI 0) dX9_waves_30 (by decide) ?_
        refine r_istore o (lv' := [(4, .int (nI 0)), (0, .ref (gad G 0)), (1, .int (nI nz.toNatClampNeg)), (2, .int (nI mz.toNatClampNeg)), (3, .int pz)]) dX9_waves_31 (by decide) rfl ?_
        refine r_iconst o (v := nI 0) dX9_waves_33 (by decide) ?_
        refine r_istore o (lv' := [(5, .int (nI 0)), (4, .int (nI 0)), (0, .ref (gad G 0)), (1, .int (nI nz.toNatClampNeg)), (2, .int (nI mz.toNatClampNeg)), (3, .int pz)]) dX9_waves_34 (by decide) rfl ?_
        have L36 : ∀ (n : Nat) (kq : Nat) (hkq : kq ≤ 2 ^ nz.toNatClampNeg), 2 ^ nz.toNatClampNeg - kq < n → WS X G 6 σ 36 [(0, .ref (gad G 0)), (1, .int (nI nz.toNatClampNeg)), (2, .int (nI mz.toNatClampNeg)), (3, .int pz), (4, .int (nI (wvS nz.toNatClampNeg mz.toNatClampNeg kq))), (5, .int (nI kq))] [] := by
          intro n
          induction n with
          | zero => intro kq hkq hm; exact absurd hm (Nat.not_lt_zero _)
          | succ n ih36 =>
            intro kq hkq hm
            have hwl := wvS_le nz.toNatClampNeg mz.toNatClampNeg kq
            refine r_iload o dX9_waves_36 5 rfl ?_
            refine r_iconst o (v := nI 1) dX9_waves_38 (by decide) ?_
            refine r_iload_n o dX9_waves_39 1 rfl ?_
            refine r_ishl o dX9_waves_40 ?_
            refine r_topi (y := nI (2 ^ nz.toNatClampNeg)) (by rw [nI_shl (by omega), Nat.one_mul]) ?_
            refine r_icmp_ge o (tgt := 62) dX9_waves_41 (by decide) (fun hb41 => ?_) (fun hb41 => ?_)
            · skip
              rw [nI_leI (by omega) (by omega)] at hb41
              obtain rfl : kq = 2 ^ nz.toNatClampNeg := by omega
              refine r_aload_n o dX9_waves_62 0 rfl ?_
              refine gf_0_7 o mw_243 dX9_waves_63 ?_
              refine r_iload o dX9_waves_66 4 rfl ?_
              refine r_i2l o dX9_waves_68 rfl ?_
              refine r_iconst o (v := nI 1) dX9_waves_69 (by decide) ?_
              refine r_iload_n o dX9_waves_70 1 rfl ?_
              refine r_ishl o dX9_waves_71 ?_
              refine r_topi (y := nI (1 * 2 ^ nz.toNatClampNeg)) (nI_shl (by omega)) ?_
              refine r_i2l o dX9_waves_72 rfl ?_
              refine r_callVV o (As := [.long ((nI (wvS nz.toNatClampNeg mz.toNatClampNeg (2 ^ nz.toNatClampNeg))).toInt64), .long ((nI (1 * 2 ^ nz.toNatClampNeg)).toInt64)]) (st := []) (c_X2_put_7 (xl X) G σ ((nI (wvS nz.toNatClampNeg mz.toNatClampNeg (2 ^ nz.toNatClampNeg))).toInt64) ((nI (1 * 2 ^ nz.toNatClampNeg)).toInt64)) om_X2_put mw_438 mw_439 mw_437 (by decide) rfl rfl rfl (by decide) rfl rfl (Nat.le_of_ble_eq_true rfl) dX9_waves_73 (fun σσ73 hp73 => ?_)
              replace hp73 := Eq.symm hp73; subst hp73
              refine r_aload_n o dX9_waves_76 0 rfl ?_
              refine gf_0_7 o mw_243 dX9_waves_77 ?_
              refine r_iload_n o dX9_waves_80 3 rfl ?_
              refine r_callVL o (As := [.int pz]) (st := []) (c_X2_partOf (xl X) G (stl (stl σ 7 0 (fU ((nI (wvS nz.toNatClampNeg mz.toNatClampNeg (2 ^ nz.toNatClampNeg))).toInt64) ((nI (1 * 2 ^ nz.toNatClampNeg)).toInt64))) 7 1 (fL ((nI (wvS nz.toNatClampNeg mz.toNatClampNeg (2 ^ nz.toNatClampNeg))).toInt64) ((nI (1 * 2 ^ nz.toNatClampNeg)).toInt64))) (fU (nI (wvS nz.toNatClampNeg mz.toNatClampNeg (2 ^ nz.toNatClampNeg))).toInt64 (nI (1 * 2 ^ nz.toNatClampNeg)).toInt64) rfl (fL (nI (wvS nz.toNatClampNeg mz.toNatClampNeg (2 ^ nz.toNatClampNeg))).toInt64 (nI (1 * 2 ^ nz.toNatClampNeg)).toInt64) rfl pz) om_X2_partOf mw_448 mw_449 mw_447 (by decide) rfl rfl rfl (by decide) rfl rfl (Nat.le_of_ble_eq_true rfl) dX9_waves_81 (fun rr81 σσ81 hp81 => ?_)
              obtain ⟨hp81, hp81b⟩ := hp81; replace hp81 := Eq.symm hp81; replace hp81b := Eq.symm hp81b; subst hp81; subst hp81b
              exact r_lreturn o q dX9_waves_84 (⟨(if_neg (by rw [hb7, hb16, hb23]; decide)).symm, fun cz hcz => by unfold scrC at hcz; rw [stl_ne (by omega), stl_ne (by omega)]⟩)
            · skip
              rw [nI_leI (by omega) (by omega)] at hb41
              refine r_iload o dX9_waves_44 4 rfl ?_
              refine r_iload o dX9_waves_46 5 rfl ?_
              refine r_iload_n o dX9_waves_48 1 rfl ?_
              refine r_iload_n o dX9_waves_49 2 rfl ?_
              refine r_callSI o (As := [.int (nI kq), .int (nI nz.toNatClampNeg), .int (nI mz.toNatClampNeg)]) (st := [.int (nI (wvS nz.toNatClampNeg mz.toNatClampNeg kq))]) (c_X9_topsOf (xl X) G σ kq (by omega) nz.toNatClampNeg (by omega) mz.toNatClampNeg (by omega)) om_X9_topsOf mw_526 mw_525 (by decide) rfl rfl (Nat.le_of_ble_eq_true rfl) dX9_waves_50 (fun rr50 σσ50 hp50 => ?_)
              obtain ⟨hp50, hp50b⟩ := hp50; replace hp50 := Eq.symm hp50; replace hp50b := Eq.symm hp50b; subst hp50; subst hp50b
              refine r_iadd o dX9_waves_53 ?_
              refine r_topi (y := nI (wvS nz.toNatClampNeg mz.toNatClampNeg kq + (topN nz.toNatClampNeg mz.toNatClampNeg kq))) (nI_add' _ _) ?_
              refine r_istore o (lv' := [(4, .int (nI (wvS nz.toNatClampNeg mz.toNatClampNeg kq + (topN nz.toNatClampNeg mz.toNatClampNeg kq)))), (0, .ref (gad G 0)), (1, .int (nI nz.toNatClampNeg)), (2, .int (nI mz.toNatClampNeg)), (3, .int pz), (5, .int (nI kq))]) dX9_waves_54 (by decide) rfl ?_
              refine r_iinc o (v := nI (kq + 1)) (lv' := [(5, .int (nI (kq + 1))), (4, .int (nI (wvS nz.toNatClampNeg mz.toNatClampNeg kq + (topN nz.toNatClampNeg mz.toNatClampNeg kq)))), (0, .ref (gad G 0)), (1, .int (nI nz.toNatClampNeg)), (2, .int (nI mz.toNatClampNeg)), (3, .int pz)]) dX9_waves_56 5 rfl (nI_inc _) (by decide) rfl ?_
              refine r_goto o (tgt := 36) dX9_waves_59 (by decide) ?_
              exact r_to rfl [2, 3, 4, 5, 1, 0] rfl (ih36 (kq + 1) (by omega) (by omega))
        exact r_to rfl [2, 3, 4, 5, 1, 0] rfl (L36 _ 0 (Nat.zero_le _) (Nat.lt_succ_self _))
      · skip
        rw [b01_eq0] at hb23
        refine r_ldc2_w o mw_524 dX9_waves_26 ?_
        exact r_lreturn o q dX9_waves_29 (⟨by rw [if_pos (by first | (rw [hb7]; rfl) | (rw [hb16]; simp; done) | (rw [hb23]; simp; done))], fun _ _ => rfl⟩)
set_option maxHeartbeats 4000000 in
set_option maxRecDepth 100000 in
theorem c_X9_luck (l : Launch) (G : Gl) (σ : Sto) (sn : Nat → Nat) (cntq : Nat) (hp : PadO σ sn cntq) (rz : Int32) (yz : Int32) (pz : Int32) : CtL l G yX9_luck cX9_luck 5 (some .long) 7 157 [.ref (gad G 0), .int rz, .int yz, .int pz] σ (fun r σ' => r = (if refI (inB (nI 0) (nI 5) rz) (inB (nI 4) (nI 22) yz && inB (nI 0) (nI 1) pz) (fltF sn cntq 21 0) = 0 then (if pz = 0 then fU (lkW (lkS (yeF (dlF σ sn cntq rz.toNatClampNeg) yz.toNatClampNeg) (gcnt (dlF σ sn cntq rz.toNatClampNeg) yz.toNatClampNeg) (fgS (yeF (dlF σ sn cntq rz.toNatClampNeg) yz.toNatClampNeg) (gcnt (dlF σ sn cntq rz.toNatClampNeg) yz.toNatClampNeg) (nuF (dlF σ sn cntq rz.toNatClampNeg) yz.toNatClampNeg) 2 11).1 (nuF (dlF σ sn cntq rz.toNatClampNeg) yz.toNatClampNeg) (dlF σ sn cntq rz.toNatClampNeg) yz.toNatClampNeg (24 - yz.toNatClampNeg)).1 (lkS (yeF (dlF σ sn cntq rz.toNatClampNeg) yz.toNatClampNeg) (gcnt (dlF σ sn cntq rz.toNatClampNeg) yz.toNatClampNeg) (fgS (yeF (dlF σ sn cntq rz.toNatClampNeg) yz.toNatClampNeg) (gcnt (dlF σ sn cntq rz.toNatClampNeg) yz.toNatClampNeg) (nuF (dlF σ sn cntq rz.toNatClampNeg) yz.toNatClampNeg) 2 11).1 (nuF (dlF σ sn cntq rz.toNatClampNeg) yz.toNatClampNeg) (dlF σ sn cntq rz.toNatClampNeg) yz.toNatClampNeg (24 - yz.toNatClampNeg)).2 ((lkS (yeF (dlF σ sn cntq rz.toNatClampNeg) yz.toNatClampNeg) (gcnt (dlF σ sn cntq rz.toNatClampNeg) yz.toNatClampNeg) (fgS (yeF (dlF σ sn cntq rz.toNatClampNeg) yz.toNatClampNeg) (gcnt (dlF σ sn cntq rz.toNatClampNeg) yz.toNatClampNeg) (nuF (dlF σ sn cntq rz.toNatClampNeg) yz.toNatClampNeg) 2 11).1 (nuF (dlF σ sn cntq rz.toNatClampNeg) yz.toNatClampNeg) (dlF σ sn cntq rz.toNatClampNeg) yz.toNatClampNeg (24 - yz.toNatClampNeg)).2 + 1)).2 (1 <<< ((nI (lkS (yeF (dlF σ sn cntq rz.toNatClampNeg) yz.toNatClampNeg) (gcnt (dlF σ sn cntq rz.toNatClampNeg) yz.toNatClampNeg) (fgS (yeF (dlF σ sn cntq rz.toNatClampNeg) yz.toNatClampNeg) (gcnt (dlF σ sn cntq rz.toNatClampNeg) yz.toNatClampNeg) (nuF (dlF σ sn cntq rz.toNatClampNeg) yz.toNatClampNeg) 2 11).1 (nuF (dlF σ sn cntq rz.toNatClampNeg) yz.toNatClampNeg) (dlF σ sn cntq rz.toNatClampNeg) yz.toNatClampNeg (24 - yz.toNatClampNeg)).2).toInt64 &&& 63)) else fL (lkW (lkS (yeF (dlF σ sn cntq rz.toNatClampNeg) yz.toNatClampNeg) (gcnt (dlF σ sn cntq rz.toNatClampNeg) yz.toNatClampNeg) (fgS (yeF (dlF σ sn cntq rz.toNatClampNeg) yz.toNatClampNeg) (gcnt (dlF σ sn cntq rz.toNatClampNeg) yz.toNatClampNeg) (nuF (dlF σ sn cntq rz.toNatClampNeg) yz.toNatClampNeg) 2 11).1 (nuF (dlF σ sn cntq rz.toNatClampNeg) yz.toNatClampNeg) (dlF σ sn cntq rz.toNatClampNeg) yz.toNatClampNeg (24 - yz.toNatClampNeg)).1 (lkS (yeF (dlF σ sn cntq rz.toNatClampNeg) yz.toNatClampNeg) (gcnt (dlF σ sn cntq rz.toNatClampNeg) yz.toNatClampNeg) (fgS (yeF (dlF σ sn cntq rz.toNatClampNeg) yz.toNatClampNeg) (gcnt (dlF σ sn cntq rz.toNatClampNeg) yz.toNatClampNeg) (nuF (dlF σ sn cntq rz.toNatClampNeg) yz.toNatClampNeg) 2 11).1 (nuF (dlF σ sn cntq rz.toNatClampNeg) yz.toNatClampNeg) (dlF σ sn cntq rz.toNatClampNeg) yz.toNatClampNeg (24 - yz.toNatClampNeg)).2 ((lkS (yeF (dlF σ sn cntq rz.toNatClampNeg) yz.toNatClampNeg) (gcnt (dlF σ sn cntq rz.toNatClampNeg) yz.toNatClampNeg) (fgS (yeF (dlF σ sn cntq rz.toNatClampNeg) yz.toNatClampNeg) (gcnt (dlF σ sn cntq rz.toNatClampNeg) yz.toNatClampNeg) (nuF (dlF σ sn cntq rz.toNatClampNeg) yz.toNatClampNeg) 2 11).1 (nuF (dlF σ sn cntq rz.toNatClampNeg) yz.toNatClampNeg) (dlF σ sn cntq rz.toNatClampNeg) yz.toNatClampNeg (24 - yz.toNatClampNeg)).2 + 1)).2 (1 <<< ((nI (lkS (yeF (dlF σ sn cntq rz.toNatClampNeg) yz.toNatClampNeg) (gcnt (dlF σ sn cntq rz.toNatClampNeg) yz.toNatClampNeg) (fgS (yeF (dlF σ sn cntq rz.toNatClampNeg) yz.toNatClampNeg) (gcnt (dlF σ sn cntq rz.toNatClampNeg) yz.toNatClampNeg) (nuF (dlF σ sn cntq rz.toNatClampNeg) yz.toNatClampNeg) 2 11).1 (nuF (dlF σ sn cntq rz.toNatClampNeg) yz.toNatClampNeg) (dlF σ sn cntq rz.toNatClampNeg) yz.toNatClampNeg (24 - yz.toNatClampNeg)).2).toInt64 &&& 63))) else LOSTq + (refI (inB (nI 0) (nI 5) rz) (inB (nI 4) (nI 22) yz && inB (nI 0) (nI 1) pz) (fltF sn cntq 21 0)).toInt64) ∧ keepC σ σ') := by
  refine CtL.of (by decide +kernel) (Nat.le_of_ble_eq_true rfl) (fun X o q => ?_)
  show WS X G 5 σ 0 [(0, .ref (gad G 0)), (1, .int rz), (2, .int yz), (3, .int pz)] []
  obtain ⟨hcq, hcnt, hsg, hsn⟩ := id hp
  refine r_aload_n o dX9_luck_0 0 rfl ?_
  refine r_iload_n o dX9_luck_1 1 rfl ?_
  refine r_callSI o (As := [.int rz]) (st := [.ref (gad G 0)]) (c_X9_isRow (xl X) G σ rz) om_X9_isRow mw_275 mw_274 (by decide) rfl rfl (Nat.le_of_ble_eq_true rfl) dX9_luck_2 (fun rr2 σσ2 hp2 => ?_)
  obtain ⟨hp2, hp2b⟩ := hp2; replace hp2 := Eq.symm hp2; replace hp2b := Eq.symm hp2b; subst hp2; subst hp2b
  refine r_iload_n o dX9_luck_5 2 rfl ?_
  refine r_callSI o (As := [.int yz]) (st := [.int (b01 (inB (nI 0) (nI 5) rz)), .ref (gad G 0)]) (c_X9_isDivide (xl X) G σ yz) om_X9_isDivide mw_539 mw_538 (by decide) rfl rfl (Nat.le_of_ble_eq_true rfl) dX9_luck_6 (fun rr6 σσ6 hp6 => ?_)
  obtain ⟨hp6, hp6b⟩ := hp6; replace hp6 := Eq.symm hp6; replace hp6b := Eq.symm hp6b; subst hp6; subst hp6b
  refine r_if_eq o (tgt := 23) dX9_luck_9 (by decide) (fun hb9 => ?_) (fun hb9 => ?_)
  · skip
    rw [b01_eq0] at hb9
    refine r_iconst o (v := nI 0) dX9_luck_23 (by decide) ?_
    refine r_topi (y := b01 (inB (nI 4) (nI 22) yz && inB (nI 0) (nI 1) pz)) (by first | (rw [hb9]; rfl) | (rw [hb16, Bool.and_false]; rfl) | (rw [hb9, hb16]; rfl)) ?_
    refine r_callVI o (As := [.int (b01 (inB (nI 0) (nI 5) rz)), .int (b01 (inB (nI 4) (nI 22) yz && inB (nI 0) (nI 1) pz))]) (st := []) (c_X9_refusalOf (xl X) G σ sn cntq hp (inB (nI 0) (nI 5) rz) (inB (nI 4) (nI 22) yz && inB (nI 0) (nI 1) pz)) om_X9_refusalOf mw_343 mw_4 mw_341 (by decide) rfl rfl rfl (by decide) rfl rfl (Nat.le_of_ble_eq_true rfl) dX9_luck_24 (fun rr24 σσ24 hp24 => ?_)
    obtain ⟨hp24, hp24b⟩ := hp24; replace hp24 := Eq.symm hp24; replace hp24b := Eq.symm hp24b; subst hp24; subst hp24b
    refine r_istore o (lv' := [(4, .int (refI (inB (nI 0) (nI 5) rz) (inB (nI 4) (nI 22) yz && inB (nI 0) (nI 1) pz) (fltF sn cntq 21 0))), (0, .ref (gad G 0)), (1, .int rz), (2, .int yz), (3, .int pz)]) dX9_luck_27 (by decide) rfl ?_
    refine r_iload o dX9_luck_29 0 rfl ?_
    refine r_if_eq o (tgt := 42) dX9_luck_31 (by decide) (fun hb31 => ?_) (fun hb31 => ?_)
    · skip
      obtain ⟨hk1, hk2, hno⟩ := refI_z hb31
      obtain ⟨hr1, hr2⟩ := inB_nI (n := 5) (by decide) hk1
      rw [Bool.and_eq_true] at hk2
      obtain ⟨hy1, hy2⟩ := inB_nI (n := 22) (by decide) (inB_wk hk2.1)
      have hy3 := inB_ge hk2.1
      refine r_lv (lv' := [(4, .int (refI (inB (nI 0) (nI 5) rz) (inB (nI 4) (nI 22) yz && inB (nI 0) (nI 1) pz) (fltF sn cntq 21 0))), (0, .ref (gad G 0)), (1, .int (nI rz.toNatClampNeg)), (2, .int yz), (3, .int pz)]) (congrArg (fun zz => ([(4, .int (refI (inB (nI 0) (nI 5) rz) (inB (nI 4) (nI 22) yz && inB (nI 0) (nI 1) pz) (fltF sn cntq 21 0))), (0, .ref (gad G 0)), (1, .int zz), (2, .int yz), (3, .int pz)] : List (Nat × Value))) (hr1)) ?_
      refine r_lv (lv' := [(4, .int (refI (inB (nI 0) (nI 5) rz) (inB (nI 4) (nI 22) yz && inB (nI 0) (nI 1) pz) (fltF sn cntq 21 0))), (0, .ref (gad G 0)), (1, .int (nI rz.toNatClampNeg)), (2, .int (nI yz.toNatClampNeg)), (3, .int pz)]) (congrArg (fun zz => ([(4, .int (refI (inB (nI 0) (nI 5) rz) (inB (nI 4) (nI 22) yz && inB (nI 0) (nI 1) pz) (fltF sn cntq 21 0))), (0, .ref (gad G 0)), (1, .int (nI rz.toNatClampNeg)), (2, .int zz), (3, .int pz)] : List (Nat × Value))) (hy1)) ?_
      refine r_aload_n o dX9_luck_42 1 rfl ?_
      refine r_iload_n o dX9_luck_43 2 rfl ?_
      refine r_iload_n o dX9_luck_44 3 rfl ?_
      refine r_callVV o (As := [.int (nI rz.toNatClampNeg), .int (nI yz.toNatClampNeg)]) (st := []) (c_X9_lookLater (xl X) G σ sn cntq hp rz.toNatClampNeg (by omega) yz.toNatClampNeg (by omega) hno) om_X9_lookLater mw_543 mw_13 mw_541 (by decide) rfl rfl rfl (by decide) rfl rfl (Nat.le_of_ble_eq_true rfl) dX9_luck_45 (fun σσ45 hp45 => ?_)
      obtain ⟨h60, h61, h62, hkp⟩ := hp45
      refine r_aload_n o dX9_luck_48 1 rfl ?_
      refine gf_0_6 o mw_242 dX9_luck_49 ?_
      refine r_aload_n o dX9_luck_52 1 rfl ?_
      refine gf_0_7 o mw_243 dX9_luck_53 ?_
      refine r_callVV o (As := [.ref (gad G 7)]) (st := []) (c_X3_putLuck (xl X) G σσ45 ((lkS (yeF (dlF σ sn cntq rz.toNatClampNeg) yz.toNatClampNeg) (gcnt (dlF σ sn cntq rz.toNatClampNeg) yz.toNatClampNeg) (fgS (yeF (dlF σ sn cntq rz.toNatClampNeg) yz.toNatClampNeg) (gcnt (dlF σ sn cntq rz.toNatClampNeg) yz.toNatClampNeg) (nuF (dlF σ sn cntq rz.toNatClampNeg) yz.toNatClampNeg) 2 11).1 (nuF (dlF σ sn cntq rz.toNatClampNeg) yz.toNatClampNeg) (dlF σ sn cntq rz.toNatClampNeg) yz.toNatClampNeg (24 - yz.toNatClampNeg)).1) h61 ((lkS (yeF (dlF σ sn cntq rz.toNatClampNeg) yz.toNatClampNeg) (gcnt (dlF σ sn cntq rz.toNatClampNeg) yz.toNatClampNeg) (fgS (yeF (dlF σ sn cntq rz.toNatClampNeg) yz.toNatClampNeg) (gcnt (dlF σ sn cntq rz.toNatClampNeg) yz.toNatClampNeg) (nuF (dlF σ sn cntq rz.toNatClampNeg) yz.toNatClampNeg) 2 11).1 (nuF (dlF σ sn cntq rz.toNatClampNeg) yz.toNatClampNeg) (dlF σ sn cntq rz.toNatClampNeg) yz.toNatClampNeg (24 - yz.toNatClampNeg)).2) h62 (by have hle := lkS_le (yrq := yeF (dlF σ sn cntq rz.toNatClampNeg) yz.toNatClampNeg) (nq := gcnt (dlF σ sn cntq rz.toNatClampNeg) yz.toNatClampNeg) (lq := (fgS (yeF (dlF σ sn cntq rz.toNatClampNeg) yz.toNatClampNeg) (gcnt (dlF σ sn cntq rz.toNatClampNeg) yz.toNatClampNeg) (nuF (dlF σ sn cntq rz.toNatClampNeg) yz.toNatClampNeg) 2 11).1) (xf := nuF (dlF σ sn cntq rz.toNatClampNeg) yz.toNatClampNeg) (bf := (dlF σ sn cntq rz.toNatClampNeg)) (yq1 := yz.toNatClampNeg) (24 - yz.toNatClampNeg); omega)) om_X3_putLuck mw_569 mw_570 mw_568 (by decide) rfl rfl rfl (by decide) rfl rfl (Nat.le_of_ble_eq_true rfl) dX9_luck_56 (fun σσ56 hp56 => ?_)
      replace hp56 := Eq.symm hp56; subst hp56
      refine r_aload_n o dX9_luck_59 1 rfl ?_
      refine gf_0_7 o mw_243 dX9_luck_60 ?_
      refine r_iload_n o dX9_luck_63 4 rfl ?_
      refine r_callVL o (As := [.int pz]) (st := []) (c_X2_partOf (xl X) G (stl (stl σσ45 7 0 (fU (lkW ((lkS (yeF (dlF σ sn cntq rz.toNatClampNeg) yz.toNatClampNeg) (gcnt (dlF σ sn cntq rz.toNatClampNeg) yz.toNatClampNeg) (fgS (yeF (dlF σ sn cntq rz.toNatClampNeg) yz.toNatClampNeg) (gcnt (dlF σ sn cntq rz.toNatClampNeg) yz.toNatClampNeg) (nuF (dlF σ sn cntq rz.toNatClampNeg) yz.toNatClampNeg) 2 11).1 (nuF (dlF σ sn cntq rz.toNatClampNeg) yz.toNatClampNeg) (dlF σ sn cntq rz.toNatClampNeg) yz.toNatClampNeg (24 - yz.toNatClampNeg)).1) ((lkS (yeF (dlF σ sn cntq rz.toNatClampNeg) yz.toNatClampNeg) (gcnt (dlF σ sn cntq rz.toNatClampNeg) yz.toNatClampNeg) (fgS (yeF (dlF σ sn cntq rz.toNatClampNeg) yz.toNatClampNeg) (gcnt (dlF σ sn cntq rz.toNatClampNeg) yz.toNatClampNeg) (nuF (dlF σ sn cntq rz.toNatClampNeg) yz.toNatClampNeg) 2 11).1 (nuF (dlF σ sn cntq rz.toNatClampNeg) yz.toNatClampNeg) (dlF σ sn cntq rz.toNatClampNeg) yz.toNatClampNeg (24 - yz.toNatClampNeg)).2) (((lkS (yeF (dlF σ sn cntq rz.toNatClampNeg) yz.toNatClampNeg) (gcnt (dlF σ sn cntq rz.toNatClampNeg) yz.toNatClampNeg) (fgS (yeF (dlF σ sn cntq rz.toNatClampNeg) yz.toNatClampNeg) (gcnt (dlF σ sn cntq rz.toNatClampNeg) yz.toNatClampNeg) (nuF (dlF σ sn cntq rz.toNatClampNeg) yz.toNatClampNeg) 2 11).1 (nuF (dlF σ sn cntq rz.toNatClampNeg) yz.toNatClampNeg) (dlF σ sn cntq rz.toNatClampNeg) yz.toNatClampNeg (24 - yz.toNatClampNeg)).2) + 1)).2 (1 <<< ((nI ((lkS (yeF (dlF σ sn cntq rz.toNatClampNeg) yz.toNatClampNeg) (gcnt (dlF σ sn cntq rz.toNatClampNeg) yz.toNatClampNeg) (fgS (yeF (dlF σ sn cntq rz.toNatClampNeg) yz.toNatClampNeg) (gcnt (dlF σ sn cntq rz.toNatClampNeg) yz.toNatClampNeg) (nuF (dlF σ sn cntq rz.toNatClampNeg) yz.toNatClampNeg) 2 11).1 (nuF (dlF σ sn cntq rz.toNatClampNeg) yz.toNatClampNeg) (dlF σ sn cntq rz.toNatClampNeg) yz.toNatClampNeg (24 - yz.toNatClampNeg)).2)).toInt64 &&& 63)))) 7 1 (fL (lkW ((lkS (yeF (dlF σ sn cntq rz.toNatClampNeg) yz.toNatClampNeg) (gcnt (dlF σ sn cntq rz.toNatClampNeg) yz.toNatClampNeg) (fgS (yeF (dlF σ sn cntq rz.toNatClampNeg) yz.toNatClampNeg) (gcnt (dlF σ sn cntq rz.toNatClampNeg) yz.toNatClampNeg) (nuF (dlF σ sn cntq rz.toNatClampNeg) yz.toNatClampNeg) 2 11).1 (nuF (dlF σ sn cntq rz.toNatClampNeg) yz.toNatClampNeg) (dlF σ sn cntq rz.toNatClampNeg) yz.toNatClampNeg (24 - yz.toNatClampNeg)).1) ((lkS (yeF (dlF σ sn cntq rz.toNatClampNeg) yz.toNatClampNeg) (gcnt (dlF σ sn cntq rz.toNatClampNeg) yz.toNatClampNeg) (fgS (yeF (dlF σ sn cntq rz.toNatClampNeg) yz.toNatClampNeg) (gcnt (dlF σ sn cntq rz.toNatClampNeg) yz.toNatClampNeg) (nuF (dlF σ sn cntq rz.toNatClampNeg) yz.toNatClampNeg) 2 11).1 (nuF (dlF σ sn cntq rz.toNatClampNeg) yz.toNatClampNeg) (dlF σ sn cntq rz.toNatClampNeg) yz.toNatClampNeg (24 - yz.toNatClampNeg)).2) (((lkS (yeF (dlF σ sn cntq rz.toNatClampNeg) yz.toNatClampNeg) (gcnt (dlF σ sn cntq rz.toNatClampNeg) yz.toNatClampNeg) (fgS (yeF (dlF σ sn cntq rz.toNatClampNeg) yz.toNatClampNeg) (gcnt (dlF σ sn cntq rz.toNatClampNeg) yz.toNatClampNeg) (nuF (dlF σ sn cntq rz.toNatClampNeg) yz.toNatClampNeg) 2 11).1 (nuF (dlF σ sn cntq rz.toNatClampNeg) yz.toNatClampNeg) (dlF σ sn cntq rz.toNatClampNeg) yz.toNatClampNeg (24 - yz.toNatClampNeg)).2) + 1)).2 (1 <<< ((nI ((lkS (yeF (dlF σ sn cntq rz.toNatClampNeg) yz.toNatClampNeg) (gcnt (dlF σ sn cntq rz.toNatClampNeg) yz.toNatClampNeg) (fgS (yeF (dlF σ sn cntq rz.toNatClampNeg) yz.toNatClampNeg) (gcnt (dlF σ sn cntq rz.toNatClampNeg) yz.toNatClampNeg) (nuF (dlF σ sn cntq rz.toNatClampNeg) yz.toNatClampNeg) 2 11).1 (nuF (dlF σ sn cntq rz.toNatClampNeg) yz.toNatClampNeg) (dlF σ sn cntq rz.toNatClampNeg) yz.toNatClampNeg (24 - yz.toNatClampNeg)).2)).toInt64 &&& 63)))) (fU (lkW (lkS (yeF (dlF σ sn cntq rz.toNatClampNeg) yz.toNatClampNeg) (gcnt (dlF σ sn cntq rz.toNatClampNeg) yz.toNatClampNeg) (fgS (yeF (dlF σ sn cntq rz.toNatClampNeg) yz.toNatClampNeg) (gcnt (dlF σ sn cntq rz.toNatClampNeg) yz.toNatClampNeg) (nuF (dlF σ sn cntq rz.toNatClampNeg) yz.toNatClampNeg) 2 11).1 (nuF (dlF σ sn cntq rz.toNatClampNeg) yz.toNatClampNeg) (dlF σ sn cntq rz.toNatClampNeg) yz.toNatClampNeg (24 - yz.toNatClampNeg)).1 (lkS (yeF (dlF σ sn cntq rz.toNatClampNeg) yz.toNatClampNeg) (gcnt (dlF σ sn cntq rz.toNatClampNeg) yz.toNatClampNeg) (fgS (yeF (dlF σ sn cntq rz.toNatClampNeg) yz.toNatClampNeg) (gcnt (dlF σ sn cntq rz.toNatClampNeg) yz.toNatClampNeg) (nuF (dlF σ sn cntq rz.toNatClampNeg) yz.toNatClampNeg) 2 11).1 (nuF (dlF σ sn cntq rz.toNatClampNeg) yz.toNatClampNeg) (dlF σ sn cntq rz.toNatClampNeg) yz.toNatClampNeg (24 - yz.toNatClampNeg)).2 ((lkS (yeF (dlF σ sn cntq rz.toNatClampNeg) yz.toNatClampNeg) (gcnt (dlF σ sn cntq rz.toNatClampNeg) yz.toNatClampNeg) (fgS (yeF (dlF σ sn cntq rz.toNatClampNeg) yz.toNatClampNeg) (gcnt (dlF σ sn cntq rz.toNatClampNeg) yz.toNatClampNeg) (nuF (dlF σ sn cntq rz.toNatClampNeg) yz.toNatClampNeg) 2 11).1 (nuF (dlF σ sn cntq rz.toNatClampNeg) yz.toNatClampNeg) (dlF σ sn cntq rz.toNatClampNeg) yz.toNatClampNeg (24 - yz.toNatClampNeg)).2 + 1)).2 (1 <<< ((nI (lkS (yeF (dlF σ sn cntq rz.toNatClampNeg) yz.toNatClampNeg) (gcnt (dlF σ sn cntq rz.toNatClampNeg) yz.toNatClampNeg) (fgS (yeF (dlF σ sn cntq rz.toNatClampNeg) yz.toNatClampNeg) (gcnt (dlF σ sn cntq rz.toNatClampNeg) yz.toNatClampNeg) (nuF (dlF σ sn cntq rz.toNatClampNeg) yz.toNatClampNeg) 2 11).1 (nuF (dlF σ sn cntq rz.toNatClampNeg) yz.toNatClampNeg) (dlF σ sn cntq rz.toNatClampNeg) yz.toNatClampNeg (24 - yz.toNatClampNeg)).2).toInt64 &&& 63))) rfl (fL (lkW (lkS (yeF (dlF σ sn cntq rz.toNatClampNeg) yz.toNatClampNeg) (gcnt (dlF σ sn cntq rz.toNatClampNeg) yz.toNatClampNeg) (fgS (yeF (dlF σ sn cntq rz.toNatClampNeg) yz.toNatClampNeg) (gcnt (dlF σ sn cntq rz.toNatClampNeg) yz.toNatClampNeg) (nuF (dlF σ sn cntq rz.toNatClampNeg) yz.toNatClampNeg) 2 11).1 (nuF (dlF σ sn cntq rz.toNatClampNeg) yz.toNatClampNeg) (dlF σ sn cntq rz.toNatClampNeg) yz.toNatClampNeg (24 - yz.toNatClampNeg)).1 (lkS (yeF (dlF σ sn cntq rz.toNatClampNeg) yz.toNatClampNeg) (gcnt (dlF σ sn cntq rz.toNatClampNeg) yz.toNatClampNeg) (fgS (yeF (dlF σ sn cntq rz.toNatClampNeg) yz.toNatClampNeg) (gcnt (dlF σ sn cntq rz.toNatClampNeg) yz.toNatClampNeg) (nuF (dlF σ sn cntq rz.toNatClampNeg) yz.toNatClampNeg) 2 11).1 (nuF (dlF σ sn cntq rz.toNatClampNeg) yz.toNatClampNeg) (dlF σ sn cntq rz.toNatClampNeg) yz.toNatClampNeg (24 - yz.toNatClampNeg)).2 ((lkS (yeF (dlF σ sn cntq rz.toNatClampNeg) yz.toNatClampNeg) (gcnt (dlF σ sn cntq rz.toNatClampNeg) yz.toNatClampNeg) (fgS (yeF (dlF σ sn cntq rz.toNatClampNeg) yz.toNatClampNeg) (gcnt (dlF σ sn cntq rz.toNatClampNeg) yz.toNatClampNeg) (nuF (dlF σ sn cntq rz.toNatClampNeg) yz.toNatClampNeg) 2 11).1 (nuF (dlF σ sn cntq rz.toNatClampNeg) yz.toNatClampNeg) (dlF σ sn cntq rz.toNatClampNeg) yz.toNatClampNeg (24 - yz.toNatClampNeg)).2 + 1)).2 (1 <<< ((nI (lkS (yeF (dlF σ sn cntq rz.toNatClampNeg) yz.toNatClampNeg) (gcnt (dlF σ sn cntq rz.toNatClampNeg) yz.toNatClampNeg) (fgS (yeF (dlF σ sn cntq rz.toNatClampNeg) yz.toNatClampNeg) (gcnt (dlF σ sn cntq rz.toNatClampNeg) yz.toNatClampNeg) (nuF (dlF σ sn cntq rz.toNatClampNeg) yz.toNatClampNeg) 2 11).1 (nuF (dlF σ sn cntq rz.toNatClampNeg) yz.toNatClampNeg) (dlF σ sn cntq rz.toNatClampNeg) yz.toNatClampNeg (24 - yz.toNatClampNeg)).2).toInt64 &&& 63))) rfl pz) om_X2_partOf mw_448 mw_449 mw_447 (by decide) rfl rfl rfl (by decide) rfl rfl (Nat.le_of_ble_eq_true rfl) dX9_luck_64 (fun rr64 σσ64 hp64 => ?_)
      obtain ⟨hp64, hp64b⟩ := hp64; replace hp64 := Eq.symm hp64; replace hp64b := Eq.symm hp64b; subst hp64; subst hp64b
      exact r_lreturn o q dX9_luck_67 (⟨(if_pos hb31).symm, fun cz hcz => by unfold scrC at hcz; rw [stl_ne (by omega), stl_ne (by omega)]; exact hkp cz (by unfold scrC; omega)⟩)
    · skip
      refine r_ldc2_w o mw_391 dX9_luck_34 ?_
      refine r_iload o dX9_luck_37 0 rfl ?_
      refine r_i2l o dX9_luck_39 rfl ?_
      refine r_ladd o dX9_luck_40 ?_
      exact r_lreturn o q dX9_luck_41 (⟨by rw [if_neg hb31]; rfl, fun _ _ => rfl⟩)
  · skip
    rw [b01_ne0] at hb9
    refine r_iload_n o dX9_luck_12 3 rfl ?_
    refine r_callSI o (As := [.int pz]) (st := [.int (b01 (inB (nI 0) (nI 5) rz)), .ref (gad G 0)]) (c_X9_isPart (xl X) G σ pz) om_X9_isPart mw_389 mw_388 (by decide) rfl rfl (Nat.le_of_ble_eq_true rfl) dX9_luck_13 (fun rr13 σσ13 hp13 => ?_)
    obtain ⟨hp13, hp13b⟩ := hp13; replace hp13 := Eq.symm hp13; replace hp13b := Eq.symm hp13b; subst hp13; subst hp13b
    refine r_if_eq o (tgt := 23) dX9_luck_16 (by decide) (fun hb16 => ?_) (fun hb16 => ?_)
    · skip
      rw [b01_eq0] at hb16
      refine r_iconst o (v := nI 0) dX9_luck_23 (by decide) ?_
      refine r_topi (y := b01 (inB (nI 4) (nI 22) yz && inB (nI 0) (nI 1) pz)) (by first | (rw [hb9]; rfl) | (rw [hb16, Bool.and_false]; rfl) | (rw [hb9, hb16]; rfl)) ?_
      refine r_callVI o (As := [.int (b01 (inB (nI 0) (nI 5) rz)), .int (b01 (inB (nI 4) (nI 22) yz && inB (nI 0) (nI 1) pz))]) (st := []) (c_X9_refusalOf (xl X) G σ sn cntq hp (inB (nI 0) (nI 5) rz) (inB (nI 4) (nI 22) yz && inB (nI 0) (nI 1) pz)) om_X9_refusalOf mw_343 mw_4 mw_341 (by decide) rfl rfl rfl (by decide) rfl rfl (Nat.le_of_ble_eq_true rfl) dX9_luck_24 (fun rr24 σσ24 hp24 => ?_)
      obtain ⟨hp24, hp24b⟩ := hp24; replace hp24 := Eq.symm hp24; replace hp24b := Eq.symm hp24b; subst hp24; subst hp24b
      refine r_istore o (lv' := [(4, .int (refI (inB (nI 0) (nI 5) rz) (inB (nI 4) (nI 22) yz && inB (nI 0) (nI 1) pz) (fltF sn cntq 21 0))), (0, .ref (gad G 0)), (1, .int rz), (2, .int yz), (3, .int pz)]) dX9_luck_27 (by decide) rfl ?_
      refine r_iload o dX9_luck_29 0 rfl ?_
      refine r_if_eq o (tgt := 42) dX9_luck_31 (by decide) (fun hb31 => ?_) (fun hb31 => ?_)
      · skip
        obtain ⟨hk1, hk2, hno⟩ := refI_z hb31
        obtain ⟨hr1, hr2⟩ := inB_nI (n := 5) (by decide) hk1
        rw [Bool.and_eq_true] at hk2
        obtain ⟨hy1, hy2⟩ := inB_nI (n := 22) (by decide) (inB_wk hk2.1)
        have hy3 := inB_ge hk2.1
        refine r_lv (lv' := [(4, .int (refI (inB (nI 0) (nI 5) rz) (inB (nI 4) (nI 22) yz && inB (nI 0) (nI 1) pz) (fltF sn cntq 21 0))), (0, .ref (gad G 0)), (1, .int (nI rz.toNatClampNeg)), (2, .int yz), (3, .int pz)]) (congrArg (fun zz => ([(4, .int (refI (inB (nI 0) (nI 5) rz) (inB (nI 4) (nI 22) yz && inB (nI 0) (nI 1) pz) (fltF sn cntq 21 0))), (0, .ref (gad G 0)), (1, .int zz), (2, .int yz), (3, .int pz)] : List (Nat × Value))) (hr1)) ?_
        refine r_lv (lv' := [(4, .int (refI (inB (nI 0) (nI 5) rz) (inB (nI 4) (nI 22) yz && inB (nI 0) (nI 1) pz) (fltF sn cntq 21 0))), (0, .ref (gad G 0)), (1, .int (nI rz.toNatClampNeg)), (2, .int (nI yz.toNatClampNeg)), (3, .int pz)]) (congrArg (fun zz => ([(4, .int (refI (inB (nI 0) (nI 5) rz) (inB (nI 4) (nI 22) yz && inB (nI 0) (nI 1) pz) (fltF sn cntq 21 0))), (0, .ref (gad G 0)), (1, .int (nI rz.toNatClampNeg)), (2, .int zz), (3, .int pz)] : List (Nat × Value))) (hy1)) ?_
        refine r_aload_n o dX9_luck_42 1 rfl ?_
        refine r_iload_n o dX9_luck_43 2 rfl ?_
        refine r_iload_n o dX9_luck_44 3 rfl ?_
        refine r_callVV o (As := [.int (nI rz.toNatClampNeg), .int (nI yz.toNatClampNeg)]) (st := []) (c_X9_lookLater (xl X) G σ sn cntq hp rz.toNatClampNeg (by omega) yz.toNatClampNeg (by omega) hno) om_X9_lookLater mw_543 mw_13 mw_541 (by decide) rfl rfl rfl (by decide) rfl rfl (Nat.le_of_ble_eq_true rfl) dX9_luck_45 (fun σσ45 hp45 => ?_)
        obtain ⟨h60, h61, h62, hkp⟩ := hp45
        refine r_aload_n o dX9_luck_48 1 rfl ?_
        refine gf_0_6 o mw_242 dX9_luck_49 ?_
        refine r_aload_n o dX9_luck_52 1 rfl ?_
        refine gf_0_7 o mw_243 dX9_luck_53 ?_
        refine r_callVV o (As := [.ref (gad G 7)]) (st := []) (c_X3_putLuck (xl X) G σσ45 ((lkS (yeF (dlF σ sn cntq rz.toNatClampNeg) yz.toNatClampNeg) (gcnt (dlF σ sn cntq rz.toNatClampNeg) yz.toNatClampNeg) (fgS (yeF (dlF σ sn cntq rz.toNatClampNeg) yz.toNatClampNeg) (gcnt (dlF σ sn cntq rz.toNatClampNeg) yz.toNatClampNeg) (nuF (dlF σ sn cntq rz.toNatClampNeg) yz.toNatClampNeg) 2 11).1 (nuF (dlF σ sn cntq rz.toNatClampNeg) yz.toNatClampNeg) (dlF σ sn cntq rz.toNatClampNeg) yz.toNatClampNeg (24 - yz.toNatClampNeg)).1) h61 ((lkS (yeF (dlF σ sn cntq rz.toNatClampNeg) yz.toNatClampNeg) (gcnt (dlF σ sn cntq rz.toNatClampNeg) yz.toNatClampNeg) (fgS (yeF (dlF σ sn cntq rz.toNatClampNeg) yz.toNatClampNeg) (gcnt (dlF σ sn cntq rz.toNatClampNeg) yz.toNatClampNeg) (nuF (dlF σ sn cntq rz.toNatClampNeg) yz.toNatClampNeg) 2 11).1 (nuF (dlF σ sn cntq rz.toNatClampNeg) yz.toNatClampNeg) (dlF σ sn cntq rz.toNatClampNeg) yz.toNatClampNeg (24 - yz.toNatClampNeg)).2) h62 (by have hle := lkS_le (yrq := yeF (dlF σ sn cntq rz.toNatClampNeg) yz.toNatClampNeg) (nq := gcnt (dlF σ sn cntq rz.toNatClampNeg) yz.toNatClampNeg) (lq := (fgS (yeF (dlF σ sn cntq rz.toNatClampNeg) yz.toNatClampNeg) (gcnt (dlF σ sn cntq rz.toNatClampNeg) yz.toNatClampNeg) (nuF (dlF σ sn cntq rz.toNatClampNeg) yz.toNatClampNeg) 2 11).1) (xf := nuF (dlF σ sn cntq rz.toNatClampNeg) yz.toNatClampNeg) (bf := (dlF σ sn cntq rz.toNatClampNeg)) (yq1 := yz.toNatClampNeg) (24 - yz.toNatClampNeg); omega)) om_X3_putLuck mw_569 mw_570 mw_568 (by decide) rfl rfl rfl (by decide) rfl rfl (Nat.le_of_ble_eq_true rfl) dX9_luck_56 (fun σσ56 hp56 => ?_)
        replace hp56 := Eq.symm hp56; subst hp56
        refine r_aload_n o dX9_luck_59 1 rfl ?_
        refine gf_0_7 o mw_243 dX9_luck_60 ?_
        refine r_iload_n o dX9_luck_63 4 rfl ?_
        refine r_callVL o (As := [.int pz]) (st := []) (c_X2_partOf (xl X) G (stl (stl σσ45 7 0 (fU (lkW ((lkS (yeF (dlF σ sn cntq rz.toNatClampNeg) yz.toNatClampNeg) (gcnt (dlF σ sn cntq rz.toNatClampNeg) yz.toNatClampNeg) (fgS (yeF (dlF σ sn cntq rz.toNatClampNeg) yz.toNatClampNeg) (gcnt (dlF σ sn cntq rz.toNatClampNeg) yz.toNatClampNeg) (nuF (dlF σ sn cntq rz.toNatClampNeg) yz.toNatClampNeg) 2 11).1 (nuF (dlF σ sn cntq rz.toNatClampNeg) yz.toNatClampNeg) (dlF σ sn cntq rz.toNatClampNeg) yz.toNatClampNeg (24 - yz.toNatClampNeg)).1) ((lkS (yeF (dlF σ sn cntq rz.toNatClampNeg) yz.toNatClampNeg) (gcnt (dlF σ sn cntq rz.toNatClampNeg) yz.toNatClampNeg) (fgS (yeF (dlF σ sn cntq rz.toNatClampNeg) yz.toNatClampNeg) (gcnt (dlF σ sn cntq rz.toNatClampNeg) yz.toNatClampNeg) (nuF (dlF σ sn cntq rz.toNatClampNeg) yz.toNatClampNeg) 2 11).1 (nuF (dlF σ sn cntq rz.toNatClampNeg) yz.toNatClampNeg) (dlF σ sn cntq rz.toNatClampNeg) yz.toNatClampNeg (24 - yz.toNatClampNeg)).2) (((lkS (yeF (dlF σ sn cntq rz.toNatClampNeg) yz.toNatClampNeg) (gcnt (dlF σ sn cntq rz.toNatClampNeg) yz.toNatClampNeg) (fgS (yeF (dlF σ sn cntq rz.toNatClampNeg) yz.toNatClampNeg) (gcnt (dlF σ sn cntq rz.toNatClampNeg) yz.toNatClampNeg) (nuF (dlF σ sn cntq rz.toNatClampNeg) yz.toNatClampNeg) 2 11).1 (nuF (dlF σ sn cntq rz.toNatClampNeg) yz.toNatClampNeg) (dlF σ sn cntq rz.toNatClampNeg) yz.toNatClampNeg (24 - yz.toNatClampNeg)).2) + 1)).2 (1 <<< ((nI ((lkS (yeF (dlF σ sn cntq rz.toNatClampNeg) yz.toNatClampNeg) (gcnt (dlF σ sn cntq rz.toNatClampNeg) yz.toNatClampNeg) (fgS (yeF (dlF σ sn cntq rz.toNatClampNeg) yz.toNatClampNeg) (gcnt (dlF σ sn cntq rz.toNatClampNeg) yz.toNatClampNeg) (nuF (dlF σ sn cntq rz.toNatClampNeg) yz.toNatClampNeg) 2 11).1 (nuF (dlF σ sn cntq rz.toNatClampNeg) yz.toNatClampNeg) (dlF σ sn cntq rz.toNatClampNeg) yz.toNatClampNeg (24 - yz.toNatClampNeg)).2)).toInt64 &&& 63)))) 7 1 (fL (lkW ((lkS (yeF (dlF σ sn cntq rz.toNatClampNeg) yz.toNatClampNeg) (gcnt (dlF σ sn cntq rz.toNatClampNeg) yz.toNatClampNeg) (fgS (yeF (dlF σ sn cntq rz.toNatClampNeg) yz.toNatClampNeg) (gcnt (dlF σ sn cntq rz.toNatClampNeg) yz.toNatClampNeg) (nuF (dlF σ sn cntq rz.toNatClampNeg) yz.toNatClampNeg) 2 11).1 (nuF (dlF σ sn cntq rz.toNatClampNeg) yz.toNatClampNeg) (dlF σ sn cntq rz.toNatClampNeg) yz.toNatClampNeg (24 - yz.toNatClampNeg)).1) ((lkS (yeF (dlF σ sn cntq rz.toNatClampNeg) yz.toNatClampNeg) (gcnt (dlF σ sn cntq rz.toNatClampNeg) yz.toNatClampNeg) (fgS (yeF (dlF σ sn cntq rz.toNatClampNeg) yz.toNatClampNeg) (gcnt (dlF σ sn cntq rz.toNatClampNeg) yz.toNatClampNeg) (nuF (dlF σ sn cntq rz.toNatClampNeg) yz.toNatClampNeg) 2 11).1 (nuF (dlF σ sn cntq rz.toNatClampNeg) yz.toNatClampNeg) (dlF σ sn cntq rz.toNatClampNeg) yz.toNatClampNeg (24 - yz.toNatClampNeg)).2) (((lkS (yeF (dlF σ sn cntq rz.toNatClampNeg) yz.toNatClampNeg) (gcnt (dlF σ sn cntq rz.toNatClampNeg) yz.toNatClampNeg) (fgS (yeF (dlF σ sn cntq rz.toNatClampNeg) yz.toNatClampNeg) (gcnt (dlF σ sn cntq rz.toNatClampNeg) yz.toNatClampNeg) (nuF (dlF σ sn cntq rz.toNatClampNeg) yz.toNatClampNeg) 2 11).1 (nuF (dlF σ sn cntq rz.toNatClampNeg) yz.toNatClampNeg) (dlF σ sn cntq rz.toNatClampNeg) yz.toNatClampNeg (24 - yz.toNatClampNeg)).2) + 1)).2 (1 <<< ((nI ((lkS (yeF (dlF σ sn cntq rz.toNatClampNeg) yz.toNatClampNeg) (gcnt (dlF σ sn cntq rz.toNatClampNeg) yz.toNatClampNeg) (fgS (yeF (dlF σ sn cntq rz.toNatClampNeg) yz.toNatClampNeg) (gcnt (dlF σ sn cntq rz.toNatClampNeg) yz.toNatClampNeg) (nuF (dlF σ sn cntq rz.toNatClampNeg) yz.toNatClampNeg) 2 11).1 (nuF (dlF σ sn cntq rz.toNatClampNeg) yz.toNatClampNeg) (dlF σ sn cntq rz.toNatClampNeg) yz.toNatClampNeg (24 - yz.toNatClampNeg)).2)).toInt64 &&& 63)))) (fU (lkW (lkS (yeF (dlF σ sn cntq rz.toNatClampNeg) yz.toNatClampNeg) (gcnt (dlF σ sn cntq rz.toNatClampNeg) yz.toNatClampNeg) (fgS (yeF (dlF σ sn cntq rz.toNatClampNeg) yz.toNatClampNeg) (gcnt (dlF σ sn cntq rz.toNatClampNeg) yz.toNatClampNeg) (nuF (dlF σ sn cntq rz.toNatClampNeg) yz.toNatClampNeg) 2 11).1 (nuF (dlF σ sn cntq rz.toNatClampNeg) yz.toNatClampNeg) (dlF σ sn cntq rz.toNatClampNeg) yz.toNatClampNeg (24 - yz.toNatClampNeg)).1 (lkS (yeF (dlF σ sn cntq rz.toNatClampNeg) yz.toNatClampNeg) (gcnt (dlF σ sn cntq rz.toNatClampNeg) yz.toNatClampNeg) (fgS (yeF (dlF σ sn cntq rz.toNatClampNeg) yz.toNatClampNeg) (gcnt (dlF σ sn cntq rz.toNatClampNeg) yz.toNatClampNeg) (nuF (dlF σ sn cntq rz.toNatClampNeg) yz.toNatClampNeg) 2 11).1 (nuF (dlF σ sn cntq rz.toNatClampNeg) yz.toNatClampNeg) (dlF σ sn cntq rz.toNatClampNeg) yz.toNatClampNeg (24 - yz.toNatClampNeg)).2 ((lkS (yeF (dlF σ sn cntq rz.toNatClampNeg) yz.toNatClampNeg) (gcnt (dlF σ sn cntq rz.toNatClampNeg) yz.toNatClampNeg) (fgS (yeF (dlF σ sn cntq rz.toNatClampNeg) yz.toNatClampNeg) (gcnt (dlF σ sn cntq rz.toNatClampNeg) yz.toNatClampNeg) (nuF (dlF σ sn cntq rz.toNatClampNeg) yz.toNatClampNeg) 2 11).1 (nuF (dlF σ sn cntq rz.toNatClampNeg) yz.toNatClampNeg) (dlF σ sn cntq rz.toNatClampNeg) yz.toNatClampNeg (24 - yz.toNatClampNeg)).2 + 1)).2 (1 <<< ((nI (lkS (yeF (dlF σ sn cntq rz.toNatClampNeg) yz.toNatClampNeg) (gcnt (dlF σ sn cntq rz.toNatClampNeg) yz.toNatClampNeg) (fgS (yeF (dlF σ sn cntq rz.toNatClampNeg) yz.toNatClampNeg) (gcnt (dlF σ sn cntq rz.toNatClampNeg) yz.toNatClampNeg) (nuF (dlF σ sn cntq rz.toNatClampNeg) yz.toNatClampNeg) 2 11).1 (nuF (dlF σ sn cntq rz.toNatClampNeg) yz.toNatClampNeg) (dlF σ sn cntq rz.toNatClampNeg) yz.toNatClampNeg (24 - yz.toNatClampNeg)).2).toInt64 &&& 63))) rfl (fL (lkW (lkS (yeF (dlF σ sn cntq rz.toNatClampNeg) yz.toNatClampNeg) (gcnt (dlF σ sn cntq rz.toNatClampNeg) yz.toNatClampNeg) (fgS (yeF (dlF σ sn cntq rz.toNatClampNeg) yz.toNatClampNeg) (gcnt (dlF σ sn cntq rz.toNatClampNeg) yz.toNatClampNeg) (nuF (dlF σ sn cntq rz.toNatClampNeg) yz.toNatClampNeg) 2 11).1 (nuF (dlF σ sn cntq rz.toNatClampNeg) yz.toNatClampNeg) (dlF σ sn cntq rz.toNatClampNeg) yz.toNatClampNeg (24 - yz.toNatClampNeg)).1 (lkS (yeF (dlF σ sn cntq rz.toNatClampNeg) yz.toNatClampNeg) (gcnt (dlF σ sn cntq rz.toNatClampNeg) yz.toNatClampNeg) (fgS (yeF (dlF σ sn cntq rz.toNatClampNeg) yz.toNatClampNeg) (gcnt (dlF σ sn cntq rz.toNatClampNeg) yz.toNatClampNeg) (nuF (dlF σ sn cntq rz.toNatClampNeg) yz.toNatClampNeg) 2 11).1 (nuF (dlF σ sn cntq rz.toNatClampNeg) yz.toNatClampNeg) (dlF σ sn cntq rz.toNatClampNeg) yz.toNatClampNeg (24 - yz.toNatClampNeg)).2 ((lkS (yeF (dlF σ sn cntq rz.toNatClampNeg) yz.toNatClampNeg) (gcnt (dlF σ sn cntq rz.toNatClampNeg) yz.toNatClampNeg) (fgS (yeF (dlF σ sn cntq rz.toNatClampNeg) yz.toNatClampNeg) (gcnt (dlF σ sn cntq rz.toNatClampNeg) yz.toNatClampNeg) (nuF (dlF σ sn cntq rz.toNatClampNeg) yz.toNatClampNeg) 2 11).1 (nuF (dlF σ sn cntq rz.toNatClampNeg) yz.toNatClampNeg) (dlF σ sn cntq rz.toNatClampNeg) yz.toNatClampNeg (24 - yz.toNatClampNeg)).2 + 1)).2 (1 <<< ((nI (lkS (yeF (dlF σ sn cntq rz.toNatClampNeg) yz.toNatClampNeg) (gcnt (dlF σ sn cntq rz.toNatClampNeg) yz.toNatClampNeg) (fgS (yeF (dlF σ sn cntq rz.toNatClampNeg) yz.toNatClampNeg) (gcnt (dlF σ sn cntq rz.toNatClampNeg) yz.toNatClampNeg) (nuF (dlF σ sn cntq rz.toNatClampNeg) yz.toNatClampNeg) 2 11).1 (nuF (dlF σ sn cntq rz.toNatClampNeg) yz.toNatClampNeg) (dlF σ sn cntq rz.toNatClampNeg) yz.toNatClampNeg (24 - yz.toNatClampNeg)).2).toInt64 &&& 63))) rfl pz) om_X2_partOf mw_448 mw_449 mw_447 (by decide) rfl rfl rfl (by decide) rfl rfl (Nat.le_of_ble_eq_true rfl) dX9_luck_64 (fun rr64 σσ64 hp64 => ?_)
        obtain ⟨hp64, hp64b⟩ := hp64; replace hp64 := Eq.symm hp64; replace hp64b := Eq.symm hp64b; subst hp64; subst hp64b
        exact r_lreturn o q dX9_luck_67 (⟨(if_pos hb31).symm, fun cz hcz => by unfold scrC at hcz; rw [stl_ne (by omega), stl_ne (by omega)]; exact hkp cz (by unfold scrC; omega)⟩)
      · skip
        refine r_ldc2_w o mw_391 dX9_luck_34 ?_
        refine r_iload o dX9_luck_37 0 rfl ?_
        refine r_i2l o dX9_luck_39 rfl ?_
        refine r_ladd o dX9_luck_40 ?_
        exact r_lreturn o q dX9_luck_41 (⟨by rw [if_neg hb31]; rfl, fun _ _ => rfl⟩)
    · skip
      rw [b01_ne0] at hb16
      refine r_iconst o (v := nI 1) dX9_luck_19 (by decide) ?_
      refine r_goto o (tgt := 24) dX9_luck_20 (by decide) ?_
      refine r_topi (y := b01 (inB (nI 4) (nI 22) yz && inB (nI 0) (nI 1) pz)) (by first | (rw [hb9]; rfl) | (rw [hb16, Bool.and_false]; rfl) | (rw [hb9, hb16]; rfl)) ?_
      refine r_callVI o (As := [.int (b01 (inB (nI 0) (nI 5) rz)), .int (b01 (inB (nI 4) (nI 22) yz && inB (nI 0) (nI 1) pz))]) (st := []) (c_X9_refusalOf (xl X) G σ sn cntq hp (inB (nI 0) (nI 5) rz) (inB (nI 4) (nI 22) yz && inB (nI 0) (nI 1) pz)) om_X9_refusalOf mw_343 mw_4 mw_341 (by decide) rfl rfl rfl (by decide) rfl rfl (Nat.le_of_ble_eq_true rfl) dX9_luck_24 (fun rr24 σσ24 hp24 => ?_)
      obtain ⟨hp24, hp24b⟩ := hp24; replace hp24 := Eq.symm hp24; replace hp24b := Eq.symm hp24b; subst hp24; subst hp24b
      refine r_istore o (lv' := [(4, .int (refI (inB (nI 0) (nI 5) rz) (inB (nI 4) (nI 22) yz && inB (nI 0) (nI 1) pz) (fltF sn cntq 21 0))), (0, .ref (gad G 0)), (1, .int rz), (2, .int yz), (3, .int pz)]) dX9_luck_27 (by decide) rfl ?_
      refine r_iload o dX9_luck_29 0 rfl ?_
      refine r_if_eq o (tgt := 42) dX9_luck_31 (by decide) (fun hb31 => ?_) (fun hb31 => ?_)
      · skip
        obtain ⟨hk1, hk2, hno⟩ := refI_z hb31
        obtain ⟨hr1, hr2⟩ := inB_nI (n := 5) (by decide) hk1
        rw [Bool.and_eq_true] at hk2
        obtain ⟨hy1, hy2⟩ := inB_nI (n := 22) (by decide) (inB_wk hk2.1)
        have hy3 := inB_ge hk2.1
        refine r_lv (lv' := [(4, .int (refI (inB (nI 0) (nI 5) rz) (inB (nI 4) (nI 22) yz && inB (nI 0) (nI 1) pz) (fltF sn cntq 21 0))), (0, .ref (gad G 0)), (1, .int (nI rz.toNatClampNeg)), (2, .int yz), (3, .int pz)]) (congrArg (fun zz => ([(4, .int (refI (inB (nI 0) (nI 5) rz) (inB (nI 4) (nI 22) yz && inB (nI 0) (nI 1) pz) (fltF sn cntq 21 0))), (0, .ref (gad G 0)), (1, .int zz), (2, .int yz), (3, .int pz)] : List (Nat × Value))) (hr1)) ?_
        refine r_lv (lv' := [(4, .int (refI (inB (nI 0) (nI 5) rz) (inB (nI 4) (nI 22) yz && inB (nI 0) (nI 1) pz) (fltF sn cntq 21 0))), (0, .ref (gad G 0)), (1, .int (nI rz.toNatClampNeg)), (2, .int (nI yz.toNatClampNeg)), (3, .int pz)]) (congrArg (fun zz => ([(4, .int (refI (inB (nI 0) (nI 5) rz) (inB (nI 4) (nI 22) yz && inB (nI 0) (nI 1) pz) (fltF sn cntq 21 0))), (0, .ref (gad G 0)), (1, .int (nI rz.toNatClampNeg)), (2, .int zz), (3, .int pz)] : List (Nat × Value))) (hy1)) ?_
        refine r_aload_n o dX9_luck_42 1 rfl ?_
        refine r_iload_n o dX9_luck_43 2 rfl ?_
        refine r_iload_n o dX9_luck_44 3 rfl ?_
        refine r_callVV o (As := [.int (nI rz.toNatClampNeg), .int (nI yz.toNatClampNeg)]) (st := []) (c_X9_lookLater (xl X) G σ sn cntq hp rz.toNatClampNeg (by omega) yz.toNatClampNeg (by omega) hno) om_X9_lookLater mw_543 mw_13 mw_541 (by decide) rfl rfl rfl (by decide) rfl rfl (Nat.le_of_ble_eq_true rfl) dX9_luck_45 (fun σσ45 hp45 => ?_)
        obtain ⟨h60, h61, h62, hkp⟩ := hp45
        refine r_aload_n o dX9_luck_48 1 rfl ?_
        refine gf_0_6 o mw_242 dX9_luck_49 ?_
        refine r_aload_n o dX9_luck_52 1 rfl ?_
        refine gf_0_7 o mw_243 dX9_luck_53 ?_
        refine r_callVV o (As := [.ref (gad G 7)]) (st := []) (c_X3_putLuck (xl X) G σσ45 ((lkS (yeF (dlF σ sn cntq rz.toNatClampNeg) yz.toNatClampNeg) (gcnt (dlF σ sn cntq rz.toNatClampNeg) yz.toNatClampNeg) (fgS (yeF (dlF σ sn cntq rz.toNatClampNeg) yz.toNatClampNeg) (gcnt (dlF σ sn cntq rz.toNatClampNeg) yz.toNatClampNeg) (nuF (dlF σ sn cntq rz.toNatClampNeg) yz.toNatClampNeg) 2 11).1 (nuF (dlF σ sn cntq rz.toNatClampNeg) yz.toNatClampNeg) (dlF σ sn cntq rz.toNatClampNeg) yz.toNatClampNeg (24 - yz.toNatClampNeg)).1) h61 ((lkS (yeF (dlF σ sn cntq rz.toNatClampNeg) yz.toNatClampNeg) (gcnt (dlF σ sn cntq rz.toNatClampNeg) yz.toNatClampNeg) (fgS (yeF (dlF σ sn cntq rz.toNatClampNeg) yz.toNatClampNeg) (gcnt (dlF σ sn cntq rz.toNatClampNeg) yz.toNatClampNeg) (nuF (dlF σ sn cntq rz.toNatClampNeg) yz.toNatClampNeg) 2 11).1 (nuF (dlF σ sn cntq rz.toNatClampNeg) yz.toNatClampNeg) (dlF σ sn cntq rz.toNatClampNeg) yz.toNatClampNeg (24 - yz.toNatClampNeg)).2) h62 (by have hle := lkS_le (yrq := yeF (dlF σ sn cntq rz.toNatClampNeg) yz.toNatClampNeg) (nq := gcnt (dlF σ sn cntq rz.toNatClampNeg) yz.toNatClampNeg) (lq := (fgS (yeF (dlF σ sn cntq rz.toNatClampNeg) yz.toNatClampNeg) (gcnt (dlF σ sn cntq rz.toNatClampNeg) yz.toNatClampNeg) (nuF (dlF σ sn cntq rz.toNatClampNeg) yz.toNatClampNeg) 2 11).1) (xf := nuF (dlF σ sn cntq rz.toNatClampNeg) yz.toNatClampNeg) (bf := (dlF σ sn cntq rz.toNatClampNeg)) (yq1 := yz.toNatClampNeg) (24 - yz.toNatClampNeg); omega)) om_X3_putLuck mw_569 mw_570 mw_568 (by decide) rfl rfl rfl (by decide) rfl rfl (Nat.le_of_ble_eq_true rfl) dX9_luck_56 (fun σσ56 hp56 => ?_)
        replace hp56 := Eq.symm hp56; subst hp56
        refine r_aload_n o dX9_luck_59 1 rfl ?_
        refine gf_0_7 o mw_243 dX9_luck_60 ?_
        refine r_iload_n o dX9_luck_63 4 rfl ?_
        refine r_callVL o (As := [.int pz]) (st := []) (c_X2_partOf (xl X) G (stl (stl σσ45 7 0 (fU (lkW ((lkS (yeF (dlF σ sn cntq rz.toNatClampNeg) yz.toNatClampNeg) (gcnt (dlF σ sn cntq rz.toNatClampNeg) yz.toNatClampNeg) (fgS (yeF (dlF σ sn cntq rz.toNatClampNeg) yz.toNatClampNeg) (gcnt (dlF σ sn cntq rz.toNatClampNeg) yz.toNatClampNeg) (nuF (dlF σ sn cntq rz.toNatClampNeg) yz.toNatClampNeg) 2 11).1 (nuF (dlF σ sn cntq rz.toNatClampNeg) yz.toNatClampNeg) (dlF σ sn cntq rz.toNatClampNeg) yz.toNatClampNeg (24 - yz.toNatClampNeg)).1) ((lkS (yeF (dlF σ sn cntq rz.toNatClampNeg) yz.toNatClampNeg) (gcnt (dlF σ sn cntq rz.toNatClampNeg) yz.toNatClampNeg) (fgS (yeF (dlF σ sn cntq rz.toNatClampNeg) yz.toNatClampNeg) (gcnt (dlF σ sn cntq rz.toNatClampNeg) yz.toNatClampNeg) (nuF (dlF σ sn cntq rz.toNatClampNeg) yz.toNatClampNeg) 2 11).1 (nuF (dlF σ sn cntq rz.toNatClampNeg) yz.toNatClampNeg) (dlF σ sn cntq rz.toNatClampNeg) yz.toNatClampNeg (24 - yz.toNatClampNeg)).2) (((lkS (yeF (dlF σ sn cntq rz.toNatClampNeg) yz.toNatClampNeg) (gcnt (dlF σ sn cntq rz.toNatClampNeg) yz.toNatClampNeg) (fgS (yeF (dlF σ sn cntq rz.toNatClampNeg) yz.toNatClampNeg) (gcnt (dlF σ sn cntq rz.toNatClampNeg) yz.toNatClampNeg) (nuF (dlF σ sn cntq rz.toNatClampNeg) yz.toNatClampNeg) 2 11).1 (nuF (dlF σ sn cntq rz.toNatClampNeg) yz.toNatClampNeg) (dlF σ sn cntq rz.toNatClampNeg) yz.toNatClampNeg (24 - yz.toNatClampNeg)).2) + 1)).2 (1 <<< ((nI ((lkS (yeF (dlF σ sn cntq rz.toNatClampNeg) yz.toNatClampNeg) (gcnt (dlF σ sn cntq rz.toNatClampNeg) yz.toNatClampNeg) (fgS (yeF (dlF σ sn cntq rz.toNatClampNeg) yz.toNatClampNeg) (gcnt (dlF σ sn cntq rz.toNatClampNeg) yz.toNatClampNeg) (nuF (dlF σ sn cntq rz.toNatClampNeg) yz.toNatClampNeg) 2 11).1 (nuF (dlF σ sn cntq rz.toNatClampNeg) yz.toNatClampNeg) (dlF σ sn cntq rz.toNatClampNeg) yz.toNatClampNeg (24 - yz.toNatClampNeg)).2)).toInt64 &&& 63)))) 7 1 (fL (lkW ((lkS (yeF (dlF σ sn cntq rz.toNatClampNeg) yz.toNatClampNeg) (gcnt (dlF σ sn cntq rz.toNatClampNeg) yz.toNatClampNeg) (fgS (yeF (dlF σ sn cntq rz.toNatClampNeg) yz.toNatClampNeg) (gcnt (dlF σ sn cntq rz.toNatClampNeg) yz.toNatClampNeg) (nuF (dlF σ sn cntq rz.toNatClampNeg) yz.toNatClampNeg) 2 11).1 (nuF (dlF σ sn cntq rz.toNatClampNeg) yz.toNatClampNeg) (dlF σ sn cntq rz.toNatClampNeg) yz.toNatClampNeg (24 - yz.toNatClampNeg)).1) ((lkS (yeF (dlF σ sn cntq rz.toNatClampNeg) yz.toNatClampNeg) (gcnt (dlF σ sn cntq rz.toNatClampNeg) yz.toNatClampNeg) (fgS (yeF (dlF σ sn cntq rz.toNatClampNeg) yz.toNatClampNeg) (gcnt (dlF σ sn cntq rz.toNatClampNeg) yz.toNatClampNeg) (nuF (dlF σ sn cntq rz.toNatClampNeg) yz.toNatClampNeg) 2 11).1 (nuF (dlF σ sn cntq rz.toNatClampNeg) yz.toNatClampNeg) (dlF σ sn cntq rz.toNatClampNeg) yz.toNatClampNeg (24 - yz.toNatClampNeg)).2) (((lkS (yeF (dlF σ sn cntq rz.toNatClampNeg) yz.toNatClampNeg) (gcnt (dlF σ sn cntq rz.toNatClampNeg) yz.toNatClampNeg) (fgS (yeF (dlF σ sn cntq rz.toNatClampNeg) yz.toNatClampNeg) (gcnt (dlF σ sn cntq rz.toNatClampNeg) yz.toNatClampNeg) (nuF (dlF σ sn cntq rz.toNatClampNeg) yz.toNatClampNeg) 2 11).1 (nuF (dlF σ sn cntq rz.toNatClampNeg) yz.toNatClampNeg) (dlF σ sn cntq rz.toNatClampNeg) yz.toNatClampNeg (24 - yz.toNatClampNeg)).2) + 1)).2 (1 <<< ((nI ((lkS (yeF (dlF σ sn cntq rz.toNatClampNeg) yz.toNatClampNeg) (gcnt (dlF σ sn cntq rz.toNatClampNeg) yz.toNatClampNeg) (fgS (yeF (dlF σ sn cntq rz.toNatClampNeg) yz.toNatClampNeg) (gcnt (dlF σ sn cntq rz.toNatClampNeg) yz.toNatClampNeg) (nuF (dlF σ sn cntq rz.toNatClampNeg) yz.toNatClampNeg) 2 11).1 (nuF (dlF σ sn cntq rz.toNatClampNeg) yz.toNatClampNeg) (dlF σ sn cntq rz.toNatClampNeg) yz.toNatClampNeg (24 - yz.toNatClampNeg)).2)).toInt64 &&& 63)))) (fU (lkW (lkS (yeF (dlF σ sn cntq rz.toNatClampNeg) yz.toNatClampNeg) (gcnt (dlF σ sn cntq rz.toNatClampNeg) yz.toNatClampNeg) (fgS (yeF (dlF σ sn cntq rz.toNatClampNeg) yz.toNatClampNeg) (gcnt (dlF σ sn cntq rz.toNatClampNeg) yz.toNatClampNeg) (nuF (dlF σ sn cntq rz.toNatClampNeg) yz.toNatClampNeg) 2 11).1 (nuF (dlF σ sn cntq rz.toNatClampNeg) yz.toNatClampNeg) (dlF σ sn cntq rz.toNatClampNeg) yz.toNatClampNeg (24 - yz.toNatClampNeg)).1 (lkS (yeF (dlF σ sn cntq rz.toNatClampNeg) yz.toNatClampNeg) (gcnt (dlF σ sn cntq rz.toNatClampNeg) yz.toNatClampNeg) (fgS (yeF (dlF σ sn cntq rz.toNatClampNeg) yz.toNatClampNeg) (gcnt (dlF σ sn cntq rz.toNatClampNeg) yz.toNatClampNeg) (nuF (dlF σ sn cntq rz.toNatClampNeg) yz.toNatClampNeg) 2 11).1 (nuF (dlF σ sn cntq rz.toNatClampNeg) yz.toNatClampNeg) (dlF σ sn cntq rz.toNatClampNeg) yz.toNatClampNeg (24 - yz.toNatClampNeg)).2 ((lkS (yeF (dlF σ sn cntq rz.toNatClampNeg) yz.toNatClampNeg) (gcnt (dlF σ sn cntq rz.toNatClampNeg) yz.toNatClampNeg) (fgS (yeF (dlF σ sn cntq rz.toNatClampNeg) yz.toNatClampNeg) (gcnt (dlF σ sn cntq rz.toNatClampNeg) yz.toNatClampNeg) (nuF (dlF σ sn cntq rz.toNatClampNeg) yz.toNatClampNeg) 2 11).1 (nuF (dlF σ sn cntq rz.toNatClampNeg) yz.toNatClampNeg) (dlF σ sn cntq rz.toNatClampNeg) yz.toNatClampNeg (24 - yz.toNatClampNeg)).2 + 1)).2 (1 <<< ((nI (lkS (yeF (dlF σ sn cntq rz.toNatClampNeg) yz.toNatClampNeg) (gcnt (dlF σ sn cntq rz.toNatClampNeg) yz.toNatClampNeg) (fgS (yeF (dlF σ sn cntq rz.toNatClampNeg) yz.toNatClampNeg) (gcnt (dlF σ sn cntq rz.toNatClampNeg) yz.toNatClampNeg) (nuF (dlF σ sn cntq rz.toNatClampNeg) yz.toNatClampNeg) 2 11).1 (nuF (dlF σ sn cntq rz.toNatClampNeg) yz.toNatClampNeg) (dlF σ sn cntq rz.toNatClampNeg) yz.toNatClampNeg (24 - yz.toNatClampNeg)).2).toInt64 &&& 63))) rfl (fL (lkW (lkS (yeF (dlF σ sn cntq rz.toNatClampNeg) yz.toNatClampNeg) (gcnt (dlF σ sn cntq rz.toNatClampNeg) yz.toNatClampNeg) (fgS (yeF (dlF σ sn cntq rz.toNatClampNeg) yz.toNatClampNeg) (gcnt (dlF σ sn cntq rz.toNatClampNeg) yz.toNatClampNeg) (nuF (dlF σ sn cntq rz.toNatClampNeg) yz.toNatClampNeg) 2 11).1 (nuF (dlF σ sn cntq rz.toNatClampNeg) yz.toNatClampNeg) (dlF σ sn cntq rz.toNatClampNeg) yz.toNatClampNeg (24 - yz.toNatClampNeg)).1 (lkS (yeF (dlF σ sn cntq rz.toNatClampNeg) yz.toNatClampNeg) (gcnt (dlF σ sn cntq rz.toNatClampNeg) yz.toNatClampNeg) (fgS (yeF (dlF σ sn cntq rz.toNatClampNeg) yz.toNatClampNeg) (gcnt (dlF σ sn cntq rz.toNatClampNeg) yz.toNatClampNeg) (nuF (dlF σ sn cntq rz.toNatClampNeg) yz.toNatClampNeg) 2 11).1 (nuF (dlF σ sn cntq rz.toNatClampNeg) yz.toNatClampNeg) (dlF σ sn cntq rz.toNatClampNeg) yz.toNatClampNeg (24 - yz.toNatClampNeg)).2 ((lkS (yeF (dlF σ sn cntq rz.toNatClampNeg) yz.toNatClampNeg) (gcnt (dlF σ sn cntq rz.toNatClampNeg) yz.toNatClampNeg) (fgS (yeF (dlF σ sn cntq rz.toNatClampNeg) yz.toNatClampNeg) (gcnt (dlF σ sn cntq rz.toNatClampNeg) yz.toNatClampNeg) (nuF (dlF σ sn cntq rz.toNatClampNeg) yz.toNatClampNeg) 2 11).1 (nuF (dlF σ sn cntq rz.toNatClampNeg) yz.toNatClampNeg) (dlF σ sn cntq rz.toNatClampNeg) yz.toNatClampNeg (24 - yz.toNatClampNeg)).2 + 1)).2 (1 <<< ((nI (lkS (yeF (dlF σ sn cntq rz.toNatClampNeg) yz.toNatClampNeg) (gcnt (dlF σ sn cntq rz.toNatClampNeg) yz.toNatClampNeg) (fgS (yeF (dlF σ sn cntq rz.toNatClampNeg) yz.toNatClampNeg) (gcnt (dlF σ sn cntq rz.toNatClampNeg) yz.toNatClampNeg) (nuF (dlF σ sn cntq rz.toNatClampNeg) yz.toNatClampNeg) 2 11).1 (nuF (dlF σ sn cntq rz.toNatClampNeg) yz.toNatClampNeg) (dlF σ sn cntq rz.toNatClampNeg) yz.toNatClampNeg (24 - yz.toNatClampNeg)).2).toInt64 &&& 63))) rfl pz) om_X2_partOf mw_448 mw_449 mw_447 (by decide) rfl rfl rfl (by decide) rfl rfl (Nat.le_of_ble_eq_true rfl) dX9_luck_64 (fun rr64 σσ64 hp64 => ?_)
        obtain ⟨hp64, hp64b⟩ := hp64; replace hp64 := Eq.symm hp64; replace hp64b := Eq.symm hp64b; subst hp64; subst hp64b
        exact r_lreturn o q dX9_luck_67 (⟨(if_pos hb31).symm, fun cz hcz => by unfold scrC at hcz; rw [stl_ne (by omega), stl_ne (by omega)]; exact hkp cz (by unfold scrC; omega)⟩)
      · skip
        refine r_ldc2_w o mw_391 dX9_luck_34 ?_
        refine r_iload o dX9_luck_37 0 rfl ?_
        refine r_i2l o dX9_luck_39 rfl ?_
        refine r_ladd o dX9_luck_40 ?_
        exact r_lreturn o q dX9_luck_41 (⟨by rw [if_neg hb31]; rfl, fun _ _ => rfl⟩)
set_option maxHeartbeats 4000000 in
set_option maxRecDepth 100000 in
theorem c_X9_go (l : Launch) (G : Gl) (σ : Sto) (sn : Nat → Nat) (cntq : Nat) (hp : PadO σ sn cntq) (rz : Int32) (s2z : Int32) : CtI l G yX9_go cX9_go 6 (some .int) 6 134 [.ref (gad G 0), .int rz, .int s2z] σ (fun r σ' => r = (if refI (inB (nI 0) (nI 5) rz && inB (nI 0) (nI 5) s2z) (true) (fltF sn cntq 21 0) = 0 then nI (goN (dlF σ sn cntq rz.toNatClampNeg) (dlF σ sn cntq s2z.toNatClampNeg) 24) else refI (inB (nI 0) (nI 5) rz && inB (nI 0) (nI 5) s2z) (true) (fltF sn cntq 21 0)) ∧ keepC σ σ') := by
  refine CtI.of (by decide +kernel) (Nat.le_of_ble_eq_true rfl) (fun X o q => ?_)
  show WS X G 6 σ 0 [(0, .ref (gad G 0)), (1, .int rz), (2, .int s2z)] []
  obtain ⟨hcq, hcnt, hsg, hsn⟩ := id hp
  refine r_aload_n o dX9_go_0 0 rfl ?_
  refine r_iload_n o dX9_go_1 1 rfl ?_
  refine r_callSI o (As := [.int rz]) (st := [.ref (gad G 0)]) (c_X9_isRow (xl X) G σ rz) om_X9_isRow mw_275 mw_274 (by decide) rfl rfl (Nat.le_of_ble_eq_true rfl) dX9_go_2 (fun rr2 σσ2 hp2 => ?_)
  obtain ⟨hp2, hp2b⟩ := hp2; replace hp2 := Eq.symm hp2; replace hp2b := Eq.symm hp2b; subst hp2; subst hp2b
  refine r_if_eq o (tgt := 19) dX9_go_5 (by decide) (fun hb5 => ?_) (fun hb5 => ?_)
  · skip
    rw [b01_eq0] at hb5
    refine r_iconst o (v := nI 0) dX9_go_19 (by decide) ?_
    refine r_topi (y := b01 (inB (nI 0) (nI 5) rz && inB (nI 0) (nI 5) s2z)) (by first | (rw [hb5]; rfl) | (rw [hb12, Bool.and_false]; rfl) | (rw [hb5, hb12]; rfl)) ?_
    refine r_iconst o (v := nI 1) dX9_go_20 (by decide) ?_
    refine r_topi (y := b01 true) rfl ?_
    refine r_callVI o (As := [.int (b01 (inB (nI 0) (nI 5) rz && inB (nI 0) (nI 5) s2z)), .int (b01 true)]) (st := []) (c_X9_refusalOf (xl X) G σ sn cntq hp (inB (nI 0) (nI 5) rz && inB (nI 0) (nI 5) s2z) true) om_X9_refusalOf mw_343 mw_4 mw_341 (by decide) rfl rfl rfl (by decide) rfl rfl (Nat.le_of_ble_eq_true rfl) dX9_go_21 (fun rr21 σσ21 hp21 => ?_)
    obtain ⟨hp21, hp21b⟩ := hp21; replace hp21 := Eq.symm hp21; replace hp21b := Eq.symm hp21b; subst hp21; subst hp21b
    refine r_istore_n o (lv' := [(3, .int (refI (inB (nI 0) (nI 5) rz && inB (nI 0) (nI 5) s2z) true (fltF sn cntq 21 0))), (0, .ref (gad G 0)), (1, .int rz), (2, .int s2z)]) dX9_go_24 (by decide) rfl ?_
    refine r_iload_n o dX9_go_25 0 rfl ?_
    refine r_if_eq o (tgt := 31) dX9_go_26 (by decide) (fun hb26 => ?_) (fun hb26 => ?_)
    · skip
      obtain ⟨hk1, hk2, hno⟩ := refI_z hb26
      rw [Bool.and_eq_true] at hk1
      obtain ⟨hr1, hr2⟩ := inB_nI (n := 5) (by decide) hk1.1
      obtain ⟨hs1, hs2⟩ := inB_nI (n := 5) (by decide) hk1.2
      refine r_lv (lv' := [(3, .int (refI (inB (nI 0) (nI 5) rz && inB (nI 0) (nI 5) s2z) true (fltF sn cntq 21 0))), (0, .ref (gad G 0)), (1, .int (nI rz.toNatClampNeg)), (2, .int s2z)]) (congrArg (fun zz => ([(3, .int (refI (inB (nI 0) (nI 5) rz && inB (nI 0) (nI 5) s2z) true (fltF sn cntq 21 0))), (0, .ref (gad G 0)), (1, .int zz), (2, .int s2z)] : List (Nat × Value))) (hr1)) ?_
      refine r_lv (lv' := [(3, .int (refI (inB (nI 0) (nI 5) rz && inB (nI 0) (nI 5) s2z) true (fltF sn cntq 21 0))), (0, .ref (gad G 0)), (1, .int (nI rz.toNatClampNeg)), (2, .int (nI s2z.toNatClampNeg))]) (congrArg (fun zz => ([(3, .int (refI (inB (nI 0) (nI 5) rz && inB (nI 0) (nI 5) s2z) true (fltF sn cntq 21 0))), (0, .ref (gad G 0)), (1, .int (nI rz.toNatClampNeg)), (2, .int zz)] : List (Nat × Value))) (hs1)) ?_
      refine r_aload_n o dX9_go_31 1 rfl ?_
      refine r_iload_n o dX9_go_32 2 rfl ?_
      refine r_iload_n o dX9_go_33 3 rfl ?_
      refine r_callVV o (As := [.int (nI rz.toNatClampNeg), .int (nI s2z.toNatClampNeg)]) (st := []) (c_X9_takeTwo (xl X) G σ sn cntq hp rz.toNatClampNeg (by omega) s2z.toNatClampNeg (by omega) hno) om_X9_takeTwo mw_505 mw_11 mw_503 (by decide) rfl rfl rfl (by decide) rfl rfl (Nat.le_of_ble_eq_true rfl) dX9_go_34 (fun σσ34 hp34 => ?_)
      obtain ⟨ha20, hb23, hkp⟩ := hp34
      refine r_aload_n o dX9_go_37 1 rfl ?_
      refine r_iconst o (v := nI 0) dX9_go_38 (by decide) ?_
      refine r_aload_n o dX9_go_39 1 rfl ?_
      refine gf_0_8 o mw_244 dX9_go_40 ?_
      refine r_callVV o (As := [.int (nI 0), .ref (gad G 8)]) (st := []) (c_X9_putTogether_8 (xl X) G σσ34 ((σσ34 20).1) rfl ((σσ34 23).1) rfl 0 (by omega)) om_X9_putTogether mw_509 mw_12 mw_507 (by decide) rfl rfl rfl (by decide) rfl rfl (Nat.le_of_ble_eq_true rfl) dX9_go_43 (fun σσ43 hp43 => ?_)
      replace hp43 := Eq.symm hp43; subst hp43
      refine r_iconst o (v := nI 0) dX9_go_46 (by decide) ?_
      refine r_istore o (lv' := [(4, .int (nI 0)), (3, .int (refI (inB (nI 0) (nI 5) rz && inB (nI 0) (nI 5) s2z) true (fltF sn cntq 21 0))), (0, .ref (gad G 0)), (1, .int (nI rz.toNatClampNeg)), (2, .int (nI s2z.toNatClampNeg))]) dX9_go_47 (by decide) rfl ?_
      refine r_iconst o (v := nI 0) dX9_go_49 (by decide) ?_
      refine r_istore o (lv' := [(5, .int (nI 0)), (4, .int (nI 0)), (3, .int (refI (inB (nI 0) (nI 5) rz && inB (nI 0) (nI 5) s2z) true (fltF sn cntq 21 0))), (0, .ref (gad G 0)), (1, .int (nI rz.toNatClampNeg)), (2, .int (nI s2z.toNatClampNeg))]) dX9_go_50 (by decide) rfl ?_
      have L52 : ∀ (n : Nat) (kq : Nat) (u7 : Int64) (l7 : Int64) (hkq : kq ≤ 24), 24 - kq < n → WS X G 6 (stl (stl (stl (stl σσ34 8 0 (fU (tgU ((σσ34 20).1) ((σσ34 23).1) 0) (tgD ((σσ34 20).1) ((σσ34 23).1) 0))) 8 1 (fL (tgU ((σσ34 20).1) ((σσ34 23).1) 0) (tgD ((σσ34 20).1) ((σσ34 23).1) 0))) 7 0 u7) 7 1 l7) 52 [(0, .ref (gad G 0)), (1, .int (nI rz.toNatClampNeg)), (2, .int (nI s2z.toNatClampNeg)), (3, .int (refI (inB (nI 0) (nI 5) rz && inB (nI 0) (nI 5) s2z) true (fltF sn cntq 21 0))), (4, .int (nI (goN (σσ34 20).1 (σσ34 23).1 kq))), (5, .int (nI kq))] [] := by
        intro n
        induction n with
        | zero => intro kq u7 l7 hkq hm; exact absurd hm (Nat.not_lt_zero _)
        | succ n ih52 =>
          intro kq u7 l7 hkq hm
          have hgo := goN_le (σσ34 20).1 (σσ34 23).1 kq
          refine r_iload o dX9_go_52 5 rfl ?_
          refine r_bipush o (v := nI 24) dX9_go_54 (by decide) ?_
          refine r_icmp_ge o (tgt := 92) dX9_go_56 (by decide) (fun hb56 => ?_) (fun hb56 => ?_)
          · skip
            rw [nI_leI (by omega) (by omega)] at hb56
            obtain rfl : kq = 24 := by omega
            refine r_iload o dX9_go_92 4 rfl ?_
            exact r_ireturn o q dX9_go_94 (⟨by rw [if_pos hb26, goN_ag ha20 hb23], fun cz hcz => by unfold scrC at hcz; rw [stl_ne (by omega), stl_ne (by omega), stl_ne (by omega), stl_ne (by omega)]; exact hkp cz (by unfold scrC; omega)⟩)
          · skip
            rw [nI_leI (by omega) (by omega)] at hb56
            refine r_aload_n o dX9_go_59 0 rfl ?_
            refine r_iload o dX9_go_60 5 rfl ?_
            refine r_aload_n o dX9_go_62 0 rfl ?_
            refine gf_0_7 o mw_243 dX9_go_63 ?_
            refine r_callVV o (As := [.int (nI kq), .ref (gad G 7)]) (st := []) (c_X9_putTogether_7 (xl X) G (stl (stl (stl (stl σσ34 8 0 (fU (tgU ((σσ34 20).1) ((σσ34 23).1) 0) (tgD ((σσ34 20).1) ((σσ34 23).1) 0))) 8 1 (fL (tgU ((σσ34 20).1) ((σσ34 23).1) 0) (tgD ((σσ34 20).1) ((σσ34 23).1) 0))) 7 0 u7) 7 1 l7) ((σσ34 20).1) rfl ((σσ34 23).1) rfl kq (by omega)) om_X9_putTogether mw_509 mw_12 mw_507 (by decide) rfl rfl rfl (by decide) rfl rfl (Nat.le_of_ble_eq_true rfl) dX9_go_66 (fun σσ66 hp66 => ?_)
            replace hp66 := Eq.symm hp66; subst hp66
            refine r_aload_n o dX9_go_69 0 rfl ?_
            refine gf_0_7 o mw_243 dX9_go_70 ?_
            refine r_aload_n o dX9_go_73 0 rfl ?_
            refine gf_0_8 o mw_244 dX9_go_74 ?_
            refine r_callVI o (As := [.ref (gad G 8)]) (st := []) (c_X2_isAtLeast (xl X) G (stl (stl (stl (stl (stl (stl σσ34 8 0 (fU (tgU ((σσ34 20).1) ((σσ34 23).1) 0) (tgD ((σσ34 20).1) ((σσ34 23).1) 0))) 8 1 (fL (tgU ((σσ34 20).1) ((σσ34 23).1) 0) (tgD ((σσ34 20).1) ((σσ34 23).1) 0))) 7 0 u7) 7 1 l7) 7 0 (fU (tgU ((σσ34 20).1) ((σσ34 23).1) kq) (tgD ((σσ34 20).1) ((σσ34 23).1) kq))) 7 1 (fL (tgU ((σσ34 20).1) ((σσ34 23).1) kq) (tgD ((σσ34 20).1) ((σσ34 23).1) kq))) (fU (tgU (σσ34 20).1 (σσ34 23).1 kq) (tgD (σσ34 20).1 (σσ34 23).1 kq)) rfl (fL (tgU (σσ34 20).1 (σσ34 23).1 kq) (tgD (σσ34 20).1 (σσ34 23).1 kq)) rfl (fU (tgU (σσ34 20).1 (σσ34 23).1 0) (tgD (σσ34 20).1 (σσ34 23).1 0)) rfl (fL (tgU (σσ34 20).1 (σσ34 23).1 0) (tgD (σσ34 20).1 (σσ34 23).1 0)) rfl) om_X2_isAtLeast mw_517 mw_518 mw_516 (by decide) rfl rfl rfl (by decide) rfl rfl (Nat.le_of_ble_eq_true rfl) dX9_go_77 (fun rr77 σσ77 hp77 => ?_)
            obtain ⟨hp77, hp77b⟩ := hp77; replace hp77 := Eq.symm hp77; replace hp77b := Eq.symm hp77b; subst hp77; subst hp77b
            refine r_if_eq o (tgt := 86) dX9_go_80 (by decide) (fun hb80 => ?_) (fun hb80 => ?_)
            · skip
              rw [b01_eq0] at hb80
              refine r_lv (lv' := [(0, .ref (gad G 0)), (1, .int (nI rz.toNatClampNeg)), (2, .int (nI s2z.toNatClampNeg)), (3, .int (refI (inB (nI 0) (nI 5) rz && inB (nI 0) (nI 5) s2z) true (fltF sn cntq 21 0))), (4, .int (nI (goN (σσ34 20).1 (σσ34 23).1 (kq + 1)))), (5, .int (nI kq))]) (congrArg (fun zz => ([(0, .ref (gad G 0)), (1, .int (nI rz.toNatClampNeg)), (2, .int (nI s2z.toNatClampNeg)), (3, .int (refI (inB (nI 0) (nI 5) rz && inB (nI 0) (nI 5) s2z) true (fltF sn cntq 21 0))), (4, .int zz), (5, .int (nI kq))] : List (Nat × Value))) (congrArg nI (if_neg (by rw [hb80]; decide)).symm)) ?_
              refine r_iinc o (v := nI (kq + 1)) (lv' := [(5, .int (nI (kq + 1))), (0, .ref (gad G 0)), (1, .int (nI rz.toNatClampNeg)), (2, .int (nI s2z.toNatClampNeg)), (3, .int (refI (inB (nI 0) (nI 5) rz && inB (nI 0) (nI 5) s2z) true (fltF sn cntq 21 0))), (4, .int (nI (goN (σσ34 20).1 (σσ34 23).1 (kq + 1))))]) dX9_go_86 5 rfl (nI_inc _) (by decide) rfl ?_
              refine r_goto o (tgt := 52) dX9_go_89 (by decide) ?_
              exact r_to stl4 [1, 2, 3, 4, 5, 0] rfl (ih52 (kq + 1) (fU (tgU (σσ34 20).1 (σσ34 23).1 kq) (tgD (σσ34 20).1 (σσ34 23).1 kq)) (fL (tgU (σσ34 20).1 (σσ34 23).1 kq) (tgD (σσ34 20).1 (σσ34 23).1 kq)) (by omega) (by omega))
            · skip
              rw [b01_ne0] at hb80
              refine r_iinc o (v := nI (goN (σσ34 20).1 (σσ34 23).1 kq + 1)) (lv' := [(4, .int (nI (goN (σσ34 20).1 (σσ34 23).1 kq + 1))), (0, .ref (gad G 0)), (1, .int (nI rz.toNatClampNeg)), (2, .int (nI s2z.toNatClampNeg)), (3, .int (refI (inB (nI 0) (nI 5) rz && inB (nI 0) (nI 5) s2z) true (fltF sn cntq 21 0))), (5, .int (nI kq))]) dX9_go_83 4 rfl (nI_inc _) (by decide) rfl ?_
              refine r_lv (lv' := [(4, .int (nI (goN (σσ34 20).1 (σσ34 23).1 (kq + 1)))), (0, .ref (gad G 0)), (1, .int (nI rz.toNatClampNeg)), (2, .int (nI s2z.toNatClampNeg)), (3, .int (refI (inB (nI 0) (nI 5) rz && inB (nI 0) (nI 5) s2z) true (fltF sn cntq 21 0))), (5, .int (nI kq))]) (congrArg (fun zz => ([(4, .int zz), (0, .ref (gad G 0)), (1, .int (nI rz.toNatClampNeg)), (2, .int (nI s2z.toNatClampNeg)), (3, .int (refI (inB (nI 0) (nI 5) rz && inB (nI 0) (nI 5) s2z) true (fltF sn cntq 21 0))), (5, .int (nI kq))] : List (Nat × Value))) (congrArg nI (if_pos hb80).symm)) ?_
              refine r_iinc o (v := nI (kq + 1)) (lv' := [(5, .int (nI (kq + 1))), (4, .int (nI (goN (σσ34 20).1 (σσ34 23).1 (kq + 1)))), (0, .ref (gad G 0)), (1, .int (nI rz.toNatClampNeg)), (2, .int (nI s2z.toNatClampNeg)), (3, .int (refI (inB (nI 0) (nI 5) rz && inB (nI 0) (nI 5) s2z) true (fltF sn cntq 21 0)))]) dX9_go_86 5 rfl (nI_inc _) (by decide) rfl ?_
              refine r_goto o (tgt := 52) dX9_go_89 (by decide) ?_
              exact r_to stl4 [2, 3, 4, 5, 1, 0] rfl (ih52 (kq + 1) (fU (tgU (σσ34 20).1 (σσ34 23).1 kq) (tgD (σσ34 20).1 (σσ34 23).1 kq)) (fL (tgU (σσ34 20).1 (σσ34 23).1 kq) (tgD (σσ34 20).1 (σσ34 23).1 kq)) (by omega) (by omega))
      exact r_to ((stl_id (kq := 0) (cz := 7) rfl).trans (stl_id (kq := 1) (cz := 7) rfl)) [3, 4, 5, 2, 1, 0] rfl (L52 _ 0 ((σσ34 7).2 0) ((σσ34 7).2 1) (by omega) (Nat.lt_succ_self _))
    · skip
      refine r_iload_n o dX9_go_29 0 rfl ?_
      exact r_ireturn o q dX9_go_30 (⟨by rw [if_neg hb26], fun _ _ => rfl⟩)
  · skip
    rw [b01_ne0] at hb5
    refine r_iload_n o dX9_go_8 2 rfl ?_
    refine r_callSI o (As := [.int s2z]) (st := [.ref (gad G 0)]) (c_X9_isRow (xl X) G σ s2z) om_X9_isRow mw_275 mw_274 (by decide) rfl rfl (Nat.le_of_ble_eq_true rfl) dX9_go_9 (fun rr9 σσ9 hp9 => ?_)
    obtain ⟨hp9, hp9b⟩ := hp9; replace hp9 := Eq.symm hp9; replace hp9b := Eq.symm hp9b; subst hp9; subst hp9b
    refine r_if_eq o (tgt := 19) dX9_go_12 (by decide) (fun hb12 => ?_) (fun hb12 => ?_)
    · skip
      rw [b01_eq0] at hb12
      refine r_iconst o (v := nI 0) dX9_go_19 (by decide) ?_
      refine r_topi (y := b01 (inB (nI 0) (nI 5) rz && inB (nI 0) (nI 5) s2z)) (by first | (rw [hb5]; rfl) | (rw [hb12, Bool.and_false]; rfl) | (rw [hb5, hb12]; rfl)) ?_
      refine r_iconst o (v := nI 1) dX9_go_20 (by decide) ?_
      refine r_topi (y := b01 true) rfl ?_
      refine r_callVI o (As := [.int (b01 (inB (nI 0) (nI 5) rz && inB (nI 0) (nI 5) s2z)), .int (b01 true)]) (st := []) (c_X9_refusalOf (xl X) G σ sn cntq hp (inB (nI 0) (nI 5) rz && inB (nI 0) (nI 5) s2z) true) om_X9_refusalOf mw_343 mw_4 mw_341 (by decide) rfl rfl rfl (by decide) rfl rfl (Nat.le_of_ble_eq_true rfl) dX9_go_21 (fun rr21 σσ21 hp21 => ?_)
      obtain ⟨hp21, hp21b⟩ := hp21; replace hp21 := Eq.symm hp21; replace hp21b := Eq.symm hp21b; subst hp21; subst hp21b
      refine r_istore_n o (lv' := [(3, .int (refI (inB (nI 0) (nI 5) rz && inB (nI 0) (nI 5) s2z) true (fltF sn cntq 21 0))), (0, .ref (gad G 0)), (1, .int rz), (2, .int s2z)]) dX9_go_24 (by decide) rfl ?_
      refine r_iload_n o dX9_go_25 0 rfl ?_
      refine r_if_eq o (tgt := 31) dX9_go_26 (by decide) (fun hb26 => ?_) (fun hb26 => ?_)
      · skip
        obtain ⟨hk1, hk2, hno⟩ := refI_z hb26
        rw [Bool.and_eq_true] at hk1
        obtain ⟨hr1, hr2⟩ := inB_nI (n := 5) (by decide) hk1.1
        obtain ⟨hs1, hs2⟩ := inB_nI (n := 5) (by decide) hk1.2
        refine r_lv (lv' := [(3, .int (refI (inB (nI 0) (nI 5) rz && inB (nI 0) (nI 5) s2z) true (fltF sn cntq 21 0))), (0, .ref (gad G 0)), (1, .int (nI rz.toNatClampNeg)), (2, .int s2z)]) (congrArg (fun zz => ([(3, .int (refI (inB (nI 0) (nI 5) rz && inB (nI 0) (nI 5) s2z) true (fltF sn cntq 21 0))), (0, .ref (gad G 0)), (1, .int zz), (2, .int s2z)] : List (Nat × Value))) (hr1)) ?_
        refine r_lv (lv' := [(3, .int (refI (inB (nI 0) (nI 5) rz && inB (nI 0) (nI 5) s2z) true (fltF sn cntq 21 0))), (0, .ref (gad G 0)), (1, .int (nI rz.toNatClampNeg)), (2, .int (nI s2z.toNatClampNeg))]) (congrArg (fun zz => ([(3, .int (refI (inB (nI 0) (nI 5) rz && inB (nI 0) (nI 5) s2z) true (fltF sn cntq 21 0))), (0, .ref (gad G 0)), (1, .int (nI rz.toNatClampNeg)), (2, .int zz)] : List (Nat × Value))) (hs1)) ?_
        refine r_aload_n o dX9_go_31 1 rfl ?_
        refine r_iload_n o dX9_go_32 2 rfl ?_
        refine r_iload_n o dX9_go_33 3 rfl ?_
        refine r_callVV o (As := [.int (nI rz.toNatClampNeg), .int (nI s2z.toNatClampNeg)]) (st := []) (c_X9_takeTwo (xl X) G σ sn cntq hp rz.toNatClampNeg (by omega) s2z.toNatClampNeg (by omega) hno) om_X9_takeTwo mw_505 mw_11 mw_503 (by decide) rfl rfl rfl (by decide) rfl rfl (Nat.le_of_ble_eq_true rfl) dX9_go_34 (fun σσ34 hp34 => ?_)
        obtain ⟨ha20, hb23, hkp⟩ := hp34
        refine r_aload_n o dX9_go_37 1 rfl ?_
        refine r_iconst o (v := nI 0) dX9_go_38 (by decide) ?_
        refine r_aload_n o dX9_go_39 1 rfl ?_
        refine gf_0_8 o mw_244 dX9_go_40 ?_
        refine r_callVV o (As := [.int (nI 0), .ref (gad G 8)]) (st := []) (c_X9_putTogether_8 (xl X) G σσ34 ((σσ34 20).1) rfl ((σσ34 23).1) rfl 0 (by omega)) om_X9_putTogether mw_509 mw_12 mw_507 (by decide) rfl rfl rfl (by decide) rfl rfl (Nat.le_of_ble_eq_true rfl) dX9_go_43 (fun σσ43 hp43 => ?_)
        replace hp43 := Eq.symm hp43; subst hp43
        refine r_iconst o (v := nI 0) dX9_go_46 (by decide) ?_
        refine r_istore o (lv' := [(4, .int (nI 0)), (3, .int (refI (inB (nI 0) (nI 5) rz && inB (nI 0) (nI 5) s2z) true (fltF sn cntq 21 0))), (0, .ref (gad G 0)), (1, .int (nI rz.toNatClampNeg)), (2, .int (nI s2z.toNatClampNeg))]) dX9_go_47 (by decide) rfl ?_
        refine r_iconst o (v := nI 0) dX9_go_49 (by decide) ?_
        refine r_istore o (lv' := [(5, .int (nI 0)), (4, .int (nI 0)), (3, .int (refI (inB (nI 0) (nI 5) rz && inB (nI 0) (nI 5) s2z) true (fltF sn cntq 21 0))), (0, .ref (gad G 0)), (1, .int (nI rz.toNatClampNeg)), (2, .int (nI s2z.toNatClampNeg))]) dX9_go_50 (by decide) rfl ?_
        have L52 : ∀ (n : Nat) (kq : Nat) (u7 : Int64) (l7 : Int64) (hkq : kq ≤ 24), 24 - kq < n → WS X G 6 (stl (stl (stl (stl σσ34 8 0 (fU (tgU ((σσ34 20).1) ((σσ34 23).1) 0) (tgD ((σσ34 20).1) ((σσ34 23).1) 0))) 8 1 (fL (tgU ((σσ34 20).1) ((σσ34 23).1) 0) (tgD ((σσ34 20).1) ((σσ34 23).1) 0))) 7 0 u7) 7 1 l7) 52 [(0, .ref (gad G 0)), (1, .int (nI rz.toNatClampNeg)), (2, .int (nI s2z.toNatClampNeg)), (3, .int (refI (inB (nI 0) (nI 5) rz && inB (nI 0) (nI 5) s2z) true (fltF sn cntq 21 0))), (4, .int (nI (goN (σσ34 20).1 (σσ34 23).1 kq))), (5, .int (nI kq))] [] := by
          intro n
          induction n with
          | zero => intro kq u7 l7 hkq hm; exact absurd hm (Nat.not_lt_zero _)
          | succ n ih52 =>
            intro kq u7 l7 hkq hm
            have hgo := goN_le (σσ34 20).1 (σσ34 23).1 kq
            refine r_iload o dX9_go_52 5 rfl ?_
            refine r_bipush o (v := nI 24) dX9_go_54 (by decide) ?_
            refine r_icmp_ge o (tgt := 92) dX9_go_56 (by decide) (fun hb56 => ?_) (fun hb56 => ?_)
            · skip
              rw [nI_leI (by omega) (by omega)] at hb56
              obtain rfl : kq = 24 := by omega
              refine r_iload o dX9_go_92 4 rfl ?_
              exact r_ireturn o q dX9_go_94 (⟨by rw [if_pos hb26, goN_ag ha20 hb23], fun cz hcz => by unfold scrC at hcz; rw [stl_ne (by omega), stl_ne (by omega), stl_ne (by omega), stl_ne (by omega)]; exact hkp cz (by unfold scrC; omega)⟩)
            · skip
              rw [nI_leI (by omega) (by omega)] at hb56
              refine r_aload_n o dX9_go_59 0 rfl ?_
              refine r_iload o dX9_go_60 5 rfl ?_
              refine r_aload_n o dX9_go_62 0 rfl ?_
              refine gf_0_7 o mw_243 dX9_go_63 ?_
              refine r_callVV o (As := [.int (nI kq), .ref (gad G 7)]) (st := []) (c_X9_putTogether_7 (xl X) G (stl (stl (stl (stl σσ34 8 0 (fU (tgU ((σσ34 20).1) ((σσ34 23).1) 0) (tgD ((σσ34 20).1) ((σσ34 23).1) 0))) 8 1 (fL (tgU ((σσ34 20).1) ((σσ34 23).1) 0) (tgD ((σσ34 20).1) ((σσ34 23).1) 0))) 7 0 u7) 7 1 l7) ((σσ34 20).1) rfl ((σσ34 23).1) rfl kq (by omega)) om_X9_putTogether mw_509 mw_12 mw_507 (by decide) rfl rfl rfl (by decide) rfl rfl (Nat.le_of_ble_eq_true rfl) dX9_go_66 (fun σσ66 hp66 => ?_)
              replace hp66 := Eq.symm hp66; subst hp66
              refine r_aload_n o dX9_go_69 0 rfl ?_
              refine gf_0_7 o mw_243 dX9_go_70 ?_
              refine r_aload_n o dX9_go_73 0 rfl ?_
              refine gf_0_8 o mw_244 dX9_go_74 ?_
              refine r_callVI o (As := [.ref (gad G 8)]) (st := []) (c_X2_isAtLeast (xl X) G (stl (stl (stl (stl (stl (stl σσ34 8 0 (fU (tgU ((σσ34 20).1) ((σσ34 23).1) 0) (tgD ((σσ34 20).1) ((σσ34 23).1) 0))) 8 1 (fL (tgU ((σσ34 20).1) ((σσ34 23).1) 0) (tgD ((σσ34 20).1) ((σσ34 23).1) 0))) 7 0 u7) 7 1 l7) 7 0 (fU (tgU ((σσ34 20).1) ((σσ34 23).1) kq) (tgD ((σσ34 20).1) ((σσ34 23).1) kq))) 7 1 (fL (tgU ((σσ34 20).1) ((σσ34 23).1) kq) (tgD ((σσ34 20).1) ((σσ34 23).1) kq))) (fU (tgU (σσ34 20).1 (σσ34 23).1 kq) (tgD (σσ34 20).1 (σσ34 23).1 kq)) rfl (fL (tgU (σσ34 20).1 (σσ34 23).1 kq) (tgD (σσ34 20).1 (σσ34 23).1 kq)) rfl (fU (tgU (σσ34 20).1 (σσ34 23).1 0) (tgD (σσ34 20).1 (σσ34 23).1 0)) rfl (fL (tgU (σσ34 20).1 (σσ34 23).1 0) (tgD (σσ34 20).1 (σσ34 23).1 0)) rfl) om_X2_isAtLeast mw_517 mw_518 mw_516 (by decide) rfl rfl rfl (by decide) rfl rfl (Nat.le_of_ble_eq_true rfl) dX9_go_77 (fun rr77 σσ77 hp77 => ?_)
              obtain ⟨hp77, hp77b⟩ := hp77; replace hp77 := Eq.symm hp77; replace hp77b := Eq.symm hp77b; subst hp77; subst hp77b
              refine r_if_eq o (tgt := 86) dX9_go_80 (by decide) (fun hb80 => ?_) (fun hb80 => ?_)
              · skip
                rw [b01_eq0] at hb80
                refine r_lv (lv' := [(0, .ref (gad G 0)), (1, .int (nI rz.toNatClampNeg)), (2, .int (nI s2z.toNatClampNeg)), (3, .int (refI (inB (nI 0) (nI 5) rz && inB (nI 0) (nI 5) s2z) true (fltF sn cntq 21 0))), (4, .int (nI (goN (σσ34 20).1 (σσ34 23).1 (kq + 1)))), (5, .int (nI kq))]) (congrArg (fun zz => ([(0, .ref (gad G 0)), (1, .int (nI rz.toNatClampNeg)), (2, .int (nI s2z.toNatClampNeg)), (3, .int (refI (inB (nI 0) (nI 5) rz && inB (nI 0) (nI 5) s2z) true (fltF sn cntq 21 0))), (4, .int zz), (5, .int (nI kq))] : List (Nat × Value))) (congrArg nI (if_neg (by rw [hb80]; decide)).symm)) ?_
                refine r_iinc o (v := nI (kq + 1)) (lv' := [(5, .int (nI (kq + 1))), (0, .ref (gad G 0)), (1, .int (nI rz.toNatClampNeg)), (2, .int (nI s2z.toNatClampNeg)), (3, .int (refI (inB (nI 0) (nI 5) rz && inB (nI 0) (nI 5) s2z) true (fltF sn cntq 21 0))), (4, .int (nI (goN (σσ34 20).1 (σσ34 23).1 (kq + 1))))]) dX9_go_86 5 rfl (nI_inc _) (by decide) rfl ?_
                refine r_goto o (tgt := 52) dX9_go_89 (by decide) ?_
                exact r_to stl4 [1, 2, 3, 4, 5, 0] rfl (ih52 (kq + 1) (fU (tgU (σσ34 20).1 (σσ34 23).1 kq) (tgD (σσ34 20).1 (σσ34 23).1 kq)) (fL (tgU (σσ34 20).1 (σσ34 23).1 kq) (tgD (σσ34 20).1 (σσ34 23).1 kq)) (by omega) (by omega))
              · skip
                rw [b01_ne0] at hb80
                refine r_iinc o (v := nI (goN (σσ34 20).1 (σσ34 23).1 kq + 1)) (lv' := [(4, .int (nI (goN (σσ34 20).1 (σσ34 23).1 kq + 1))), (0, .ref (gad G 0)), (1, .int (nI rz.toNatClampNeg)), (2, .int (nI s2z.toNatClampNeg)), (3, .int (refI (inB (nI 0) (nI 5) rz && inB (nI 0) (nI 5) s2z) true (fltF sn cntq 21 0))), (5, .int (nI kq))]) dX9_go_83 4 rfl (nI_inc _) (by decide) rfl ?_
                refine r_lv (lv' := [(4, .int (nI (goN (σσ34 20).1 (σσ34 23).1 (kq + 1)))), (0, .ref (gad G 0)), (1, .int (nI rz.toNatClampNeg)), (2, .int (nI s2z.toNatClampNeg)), (3, .int (refI (inB (nI 0) (nI 5) rz && inB (nI 0) (nI 5) s2z) true (fltF sn cntq 21 0))), (5, .int (nI kq))]) (congrArg (fun zz => ([(4, .int zz), (0, .ref (gad G 0)), (1, .int (nI rz.toNatClampNeg)), (2, .int (nI s2z.toNatClampNeg)), (3, .int (refI (inB (nI 0) (nI 5) rz && inB (nI 0) (nI 5) s2z) true (fltF sn cntq 21 0))), (5, .int (nI kq))] : List (Nat × Value))) (congrArg nI (if_pos hb80).symm)) ?_
                refine r_iinc o (v := nI (kq + 1)) (lv' := [(5, .int (nI (kq + 1))), (4, .int (nI (goN (σσ34 20).1 (σσ34 23).1 (kq + 1)))), (0, .ref (gad G 0)), (1, .int (nI rz.toNatClampNeg)), (2, .int (nI s2z.toNatClampNeg)), (3, .int (refI (inB (nI 0) (nI 5) rz && inB (nI 0) (nI 5) s2z) true (fltF sn cntq 21 0)))]) dX9_go_86 5 rfl (nI_inc _) (by decide) rfl ?_
                refine r_goto o (tgt := 52) dX9_go_89 (by decide) ?_
                exact r_to stl4 [2, 3, 4, 5, 1, 0] rfl (ih52 (kq + 1) (fU (tgU (σσ34 20).1 (σσ34 23).1 kq) (tgD (σσ34 20).1 (σσ34 23).1 kq)) (fL (tgU (σσ34 20).1 (σσ34 23).1 kq) (tgD (σσ34 20).1 (σσ34 23).1 kq)) (by omega) (by omega))
        exact r_to ((stl_id (kq := 0) (cz := 7) rfl).trans (stl_id (kq := 1) (cz := 7) rfl)) [3, 4, 5, 2, 1, 0] rfl (L52 _ 0 ((σσ34 7).2 0) ((σσ34 7).2 1) (by omega) (Nat.lt_succ_self _))
      · skip
        refine r_iload_n o dX9_go_29 0 rfl ?_
        exact r_ireturn o q dX9_go_30 (⟨by rw [if_neg hb26], fun _ _ => rfl⟩)
    · skip
      rw [b01_ne0] at hb12
      refine r_iconst o (v := nI 1) dX9_go_15 (by decide) ?_
      refine r_goto o (tgt := 20) dX9_go_16 (by decide) ?_
      refine r_topi (y := b01 (inB (nI 0) (nI 5) rz && inB (nI 0) (nI 5) s2z)) (by first | (rw [hb5]; rfl) | (rw [hb12, Bool.and_false]; rfl) | (rw [hb5, hb12]; rfl)) ?_
      refine r_iconst o (v := nI 1) dX9_go_20 (by decide) ?_
      refine r_topi (y := b01 true) rfl ?_
      refine r_callVI o (As := [.int (b01 (inB (nI 0) (nI 5) rz && inB (nI 0) (nI 5) s2z)), .int (b01 true)]) (st := []) (c_X9_refusalOf (xl X) G σ sn cntq hp (inB (nI 0) (nI 5) rz && inB (nI 0) (nI 5) s2z) true) om_X9_refusalOf mw_343 mw_4 mw_341 (by decide) rfl rfl rfl (by decide) rfl rfl (Nat.le_of_ble_eq_true rfl) dX9_go_21 (fun rr21 σσ21 hp21 => ?_)
      obtain ⟨hp21, hp21b⟩ := hp21; replace hp21 := Eq.symm hp21; replace hp21b := Eq.symm hp21b; subst hp21; subst hp21b
      refine r_istore_n o (lv' := [(3, .int (refI (inB (nI 0) (nI 5) rz && inB (nI 0) (nI 5) s2z) true (fltF sn cntq 21 0))), (0, .ref (gad G 0)), (1, .int rz), (2, .int s2z)]) dX9_go_24 (by decide) rfl ?_
      refine r_iload_n o dX9_go_25 0 rfl ?_
      refine r_if_eq o (tgt := 31) dX9_go_26 (by decide) (fun hb26 => ?_) (fun hb26 => ?_)
      · skip
        obtain ⟨hk1, hk2, hno⟩ := refI_z hb26
        rw [Bool.and_eq_true] at hk1
        obtain ⟨hr1, hr2⟩ := inB_nI (n := 5) (by decide) hk1.1
        obtain ⟨hs1, hs2⟩ := inB_nI (n := 5) (by decide) hk1.2
        refine r_lv (lv' := [(3, .int (refI (inB (nI 0) (nI 5) rz && inB (nI 0) (nI 5) s2z) true (fltF sn cntq 21 0))), (0, .ref (gad G 0)), (1, .int (nI rz.toNatClampNeg)), (2, .int s2z)]) (congrArg (fun zz => ([(3, .int (refI (inB (nI 0) (nI 5) rz && inB (nI 0) (nI 5) s2z) true (fltF sn cntq 21 0))), (0, .ref (gad G 0)), (1, .int zz), (2, .int s2z)] : List (Nat × Value))) (hr1)) ?_
        refine r_lv (lv' := [(3, .int (refI (inB (nI 0) (nI 5) rz && inB (nI 0) (nI 5) s2z) true (fltF sn cntq 21 0))), (0, .ref (gad G 0)), (1, .int (nI rz.toNatClampNeg)), (2, .int (nI s2z.toNatClampNeg))]) (congrArg (fun zz => ([(3, .int (refI (inB (nI 0) (nI 5) rz && inB (nI 0) (nI 5) s2z) true (fltF sn cntq 21 0))), (0, .ref (gad G 0)), (1, .int (nI rz.toNatClampNeg)), (2, .int zz)] : List (Nat × Value))) (hs1)) ?_
        refine r_aload_n o dX9_go_31 1 rfl ?_
        refine r_iload_n o dX9_go_32 2 rfl ?_
        refine r_iload_n o dX9_go_33 3 rfl ?_
        refine r_callVV o (As := [.int (nI rz.toNatClampNeg), .int (nI s2z.toNatClampNeg)]) (st := []) (c_X9_takeTwo (xl X) G σ sn cntq hp rz.toNatClampNeg (by omega) s2z.toNatClampNeg (by omega) hno) om_X9_takeTwo mw_505 mw_11 mw_503 (by decide) rfl rfl rfl (by decide) rfl rfl (Nat.le_of_ble_eq_true rfl) dX9_go_34 (fun σσ34 hp34 => ?_)
        obtain ⟨ha20, hb23, hkp⟩ := hp34
        refine r_aload_n o dX9_go_37 1 rfl ?_
        refine r_iconst o (v := nI 0) dX9_go_38 (by decide) ?_
        refine r_aload_n o dX9_go_39 1 rfl ?_
        refine gf_0_8 o mw_244 dX9_go_40 ?_
        refine r_callVV o (As := [.int (nI 0), .ref (gad G 8)]) (st := []) (c_X9_putTogether_8 (xl X) G σσ34 ((σσ34 20).1) rfl ((σσ34 23).1) rfl 0 (by omega)) om_X9_putTogether mw_509 mw_12 mw_507 (by decide) rfl rfl rfl (by decide) rfl rfl (Nat.le_of_ble_eq_true rfl) dX9_go_43 (fun σσ43 hp43 => ?_)
        replace hp43 := Eq.symm hp43; subst hp43
        refine r_iconst o (v := nI 0) dX9_go_46 (by decide) ?_
        refine r_istore o (lv' := [(4, .int (nI 0)), (3, .int (refI (inB (nI 0) (nI 5) rz && inB (nI 0) (nI 5) s2z) true (fltF sn cntq 21 0))), (0, .ref (gad G 0)), (1, .int (nI rz.toNatClampNeg)), (2, .int (nI s2z.toNatClampNeg))]) dX9_go_47 (by decide) rfl ?_
        refine r_iconst o (v := nI 0) dX9_go_49 (by decide) ?_
        refine r_istore o (lv' := [(5, .int (nI 0)), (4, .int (nI 0)), (3, .int (refI (inB (nI 0) (nI 5) rz && inB (nI 0) (nI 5) s2z) true (fltF sn cntq 21 0))), (0, .ref (gad G 0)), (1, .int (nI rz.toNatClampNeg)), (2, .int (nI s2z.toNatClampNeg))]) dX9_go_50 (by decide) rfl ?_
        have L52 : ∀ (n : Nat) (kq : Nat) (u7 : Int64) (l7 : Int64) (hkq : kq ≤ 24), 24 - kq < n → WS X G 6 (stl (stl (stl (stl σσ34 8 0 (fU (tgU ((σσ34 20).1) ((σσ34 23).1) 0) (tgD ((σσ34 20).1) ((σσ34 23).1) 0))) 8 1 (fL (tgU ((σσ34 20).1) ((σσ34 23).1) 0) (tgD ((σσ34 20).1) ((σσ34 23).1) 0))) 7 0 u7) 7 1 l7) 52 [(0, .ref (gad G 0)), (1, .int (nI rz.toNatClampNeg)), (2, .int (nI s2z.toNatClampNeg)), (3, .int (refI (inB (nI 0) (nI 5) rz && inB (nI 0) (nI 5) s2z) true (fltF sn cntq 21 0))), (4, .int (nI (goN (σσ34 20).1 (σσ34 23).1 kq))), (5, .int (nI kq))] [] := by
          intro n
          induction n with
          | zero => intro kq u7 l7 hkq hm; exact absurd hm (Nat.not_lt_zero _)
          | succ n ih52 =>
            intro kq u7 l7 hkq hm
            have hgo := goN_le (σσ34 20).1 (σσ34 23).1 kq
            refine r_iload o dX9_go_52 5 rfl ?_
            refine r_bipush o (v := nI 24) dX9_go_54 (by decide) ?_
            refine r_icmp_ge o (tgt := 92) dX9_go_56 (by decide) (fun hb56 => ?_) (fun hb56 => ?_)
            · skip
              rw [nI_leI (by omega) (by omega)] at hb56
              obtain rfl : kq = 24 := by omega
              refine r_iload o dX9_go_92 4 rfl ?_
              exact r_ireturn o q dX9_go_94 (⟨by rw [if_pos hb26, goN_ag ha20 hb23], fun cz hcz => by unfold scrC at hcz; rw [stl_ne (by omega), stl_ne (by omega), stl_ne (by omega), stl_ne (by omega)]; exact hkp cz (by unfold scrC; omega)⟩)
            · skip
              rw [nI_leI (by omega) (by omega)] at hb56
              refine r_aload_n o dX9_go_59 0 rfl ?_
              refine r_iload o dX9_go_60 5 rfl ?_
              refine r_aload_n o dX9_go_62 0 rfl ?_
              refine gf_0_7 o mw_243 dX9_go_63 ?_
              refine r_callVV o (As := [.int (nI kq), .ref (gad G 7)]) (st := []) (c_X9_putTogether_7 (xl X) G (stl (stl (stl (stl σσ34 8 0 (fU (tgU ((σσ34 20).1) ((σσ34 23).1) 0) (tgD ((σσ34 20).1) ((σσ34 23).1) 0))) 8 1 (fL (tgU ((σσ34 20).1) ((σσ34 23).1) 0) (tgD ((σσ34 20).1) ((σσ34 23).1) 0))) 7 0 u7) 7 1 l7) ((σσ34 20).1) rfl ((σσ34 23).1) rfl kq (by omega)) om_X9_putTogether mw_509 mw_12 mw_507 (by decide) rfl rfl rfl (by decide) rfl rfl (Nat.le_of_ble_eq_true rfl) dX9_go_66 (fun σσ66 hp66 => ?_)
              replace hp66 := Eq.symm hp66; subst hp66
              refine r_aload_n o dX9_go_69 0 rfl ?_
              refine gf_0_7 o mw_243 dX9_go_70 ?_
              refine r_aload_n o dX9_go_73 0 rfl ?_
              refine gf_0_8 o mw_244 dX9_go_74 ?_
              refine r_callVI o (As := [.ref (gad G 8)]) (st := []) (c_X2_isAtLeast (xl X) G (stl (stl (stl (stl (stl (stl σσ34 8 0 (fU (tgU ((σσ34 20).1) ((σσ34 23).1) 0) (tgD ((σσ34 20).1) ((σσ34 23).1) 0))) 8 1 (fL (tgU ((σσ34 20).1) ((σσ34 23).1) 0) (tgD ((σσ34 20).1) ((σσ34 23).1) 0))) 7 0 u7) 7 1 l7) 7 0 (fU (tgU ((σσ34 20).1) ((σσ34 23).1) kq) (tgD ((σσ34 20).1) ((σσ34 23).1) kq))) 7 1 (fL (tgU ((σσ34 20).1) ((σσ34 23).1) kq) (tgD ((σσ34 20).1) ((σσ34 23).1) kq))) (fU (tgU (σσ34 20).1 (σσ34 23).1 kq) (tgD (σσ34 20).1 (σσ34 23).1 kq)) rfl (fL (tgU (σσ34 20).1 (σσ34 23).1 kq) (tgD (σσ34 20).1 (σσ34 23).1 kq)) rfl (fU (tgU (σσ34 20).1 (σσ34 23).1 0) (tgD (σσ34 20).1 (σσ34 23).1 0)) rfl (fL (tgU (σσ34 20).1 (σσ34 23).1 0) (tgD (σσ34 20).1 (σσ34 23).1 0)) rfl) om_X2_isAtLeast mw_517 mw_518 mw_516 (by decide) rfl rfl rfl (by decide) rfl rfl (Nat.le_of_ble_eq_true rfl) dX9_go_77 (fun rr77 σσ77 hp77 => ?_)
              obtain ⟨hp77, hp77b⟩ := hp77; replace hp77 := Eq.symm hp77; replace hp77b := Eq.symm hp77b; subst hp77; subst hp77b
              refine r_if_eq o (tgt := 86) dX9_go_80 (by decide) (fun hb80 => ?_) (fun hb80 => ?_)
              · skip
                rw [b01_eq0] at hb80
                refine r_lv (lv' := [(0, .ref (gad G 0)), (1, .int (nI rz.toNatClampNeg)), (2, .int (nI s2z.toNatClampNeg)), (3, .int (refI (inB (nI 0) (nI 5) rz && inB (nI 0) (nI 5) s2z) true (fltF sn cntq 21 0))), (4, .int (nI (goN (σσ34 20).1 (σσ34 23).1 (kq + 1)))), (5, .int (nI kq))]) (congrArg (fun zz => ([(0, .ref (gad G 0)), (1, .int (nI rz.toNatClampNeg)), (2, .int (nI s2z.toNatClampNeg)), (3, .int (refI (inB (nI 0) (nI 5) rz && inB (nI 0) (nI 5) s2z) true (fltF sn cntq 21 0))), (4, .int zz), (5, .int (nI kq))] : List (Nat × Value))) (congrArg nI (if_neg (by rw [hb80]; decide)).symm)) ?_
                refine r_iinc o (v := nI (kq + 1)) (lv' := [(5, .int (nI (kq + 1))), (0, .ref (gad G 0)), (1, .int (nI rz.toNatClampNeg)), (2, .int (nI s2z.toNatClampNeg)), (3, .int (refI (inB (nI 0) (nI 5) rz && inB (nI 0) (nI 5) s2z) true (fltF sn cntq 21 0))), (4, .int (nI (goN (σσ34 20).1 (σσ34 23).1 (kq + 1))))]) dX9_go_86 5 rfl (nI_inc _) (by decide) rfl ?_
                refine r_goto o (tgt := 52) dX9_go_89 (by decide) ?_
                exact r_to stl4 [1, 2, 3, 4, 5, 0] rfl (ih52 (kq + 1) (fU (tgU (σσ34 20).1 (σσ34 23).1 kq) (tgD (σσ34 20).1 (σσ34 23).1 kq)) (fL (tgU (σσ34 20).1 (σσ34 23).1 kq) (tgD (σσ34 20).1 (σσ34 23).1 kq)) (by omega) (by omega))
              · skip
                rw [b01_ne0] at hb80
                refine r_iinc o (v := nI (goN (σσ34 20).1 (σσ34 23).1 kq + 1)) (lv' := [(4, .int (nI (goN (σσ34 20).1 (σσ34 23).1 kq + 1))), (0, .ref (gad G 0)), (1, .int (nI rz.toNatClampNeg)), (2, .int (nI s2z.toNatClampNeg)), (3, .int (refI (inB (nI 0) (nI 5) rz && inB (nI 0) (nI 5) s2z) true (fltF sn cntq 21 0))), (5, .int (nI kq))]) dX9_go_83 4 rfl (nI_inc _) (by decide) rfl ?_
                refine r_lv (lv' := [(4, .int (nI (goN (σσ34 20).1 (σσ34 23).1 (kq + 1)))), (0, .ref (gad G 0)), (1, .int (nI rz.toNatClampNeg)), (2, .int (nI s2z.toNatClampNeg)), (3, .int (refI (inB (nI 0) (nI 5) rz && inB (nI 0) (nI 5) s2z) true (fltF sn cntq 21 0))), (5, .int (nI kq))]) (congrArg (fun zz => ([(4, .int zz), (0, .ref (gad G 0)), (1, .int (nI rz.toNatClampNeg)), (2, .int (nI s2z.toNatClampNeg)), (3, .int (refI (inB (nI 0) (nI 5) rz && inB (nI 0) (nI 5) s2z) true (fltF sn cntq 21 0))), (5, .int (nI kq))] : List (Nat × Value))) (congrArg nI (if_pos hb80).symm)) ?_
                refine r_iinc o (v := nI (kq + 1)) (lv' := [(5, .int (nI (kq + 1))), (4, .int (nI (goN (σσ34 20).1 (σσ34 23).1 (kq + 1)))), (0, .ref (gad G 0)), (1, .int (nI rz.toNatClampNeg)), (2, .int (nI s2z.toNatClampNeg)), (3, .int (refI (inB (nI 0) (nI 5) rz && inB (nI 0) (nI 5) s2z) true (fltF sn cntq 21 0)))]) dX9_go_86 5 rfl (nI_inc _) (by decide) rfl ?_
                refine r_goto o (tgt := 52) dX9_go_89 (by decide) ?_
                exact r_to stl4 [2, 3, 4, 5, 1, 0] rfl (ih52 (kq + 1) (fU (tgU (σσ34 20).1 (σσ34 23).1 kq) (tgD (σσ34 20).1 (σσ34 23).1 kq)) (fL (tgU (σσ34 20).1 (σσ34 23).1 kq) (tgD (σσ34 20).1 (σσ34 23).1 kq)) (by omega) (by omega))
        exact r_to ((stl_id (kq := 0) (cz := 7) rfl).trans (stl_id (kq := 1) (cz := 7) rfl)) [3, 4, 5, 2, 1, 0] rfl (L52 _ 0 ((σσ34 7).2 0) ((σσ34 7).2 1) (by omega) (Nat.lt_succ_self _))
      · skip
        refine r_iload_n o dX9_go_29 0 rfl ?_
        exact r_ireturn o q dX9_go_30 (⟨by rw [if_neg hb26], fun _ _ => rfl⟩)
