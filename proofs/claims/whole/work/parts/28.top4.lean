theorem pow_le2 {iq jq : Nat} (h : iq ≤ jq) : 2 ^ iq ≤ 2 ^ jq := Nat.pow_le_pow_right (by decide) h
theorem stl4 {σ : Sto} {cz : Nat} {az bz dz ez : Int64} : stl (stl (stl (stl σ cz 0 az) cz 1 bz) cz 0 dz) cz 1 ez = stl (stl σ cz 0 dz) cz 1 ez := by
  funext jq
  by_cases h : jq = cz
  · subst h
    simp only [stl, stc, if_true]
    congr 1
    funext iq
    by_cases h1 : iq = 1
    · simp [vp_updL, h1]
    · by_cases h0 : iq = 0 <;> simp [vp_updL, h0, h1]
  · simp [stl, stc, h]

set_option maxHeartbeats 4000000 in
set_option maxRecDepth 100000 in
theorem c_X9_putTogether_7 (l : Launch) (G : Gl) (σ : Sto) (af : Nat → Int32) (haf : (σ 20).1 = af) (bf : Nat → Int32) (hbf : (σ 23).1 = bf) (kq : Nat) (hkq : kq < 24) : CtV l G yX9_putTogether cX9_putTogether 20 none 2 56 [.ref (gad G 0), .int (nI kq), .ref (gad G 7)] σ (fun σ' => σ' = stl (stl σ 7 0 (fU (tgU af bf kq) (tgD af bf kq))) 7 1 (fL (tgU af bf kq) (tgD af bf kq))) := by
  refine CtV.of (by decide +kernel) (Nat.le_of_ble_eq_true rfl) (fun X o q => ?_)
  show WS X G 20 σ 0 [(0, .ref (gad G 0)), (1, .int (nI kq)), (2, .ref (gad G 7))] []
  refine r_lconst o (v := 0) dX9_putTogether_0 rfl ?_
  refine r_lstore_n o (lv' := [(3, .long 0), (0, .ref (gad G 0)), (1, .int (nI kq)), (2, .ref (gad G 7))]) dX9_putTogether_1 (by decide) rfl ?_
  refine r_lconst o (v := 0) dX9_putTogether_2 rfl ?_
  refine r_lstore o (lv' := [(5, .long 0), (3, .long 0), (0, .ref (gad G 0)), (1, .int (nI kq)), (2, .ref (gad G 7))]) dX9_putTogether_3 (by decide) rfl ?_
  refine r_lconst o (v := 0) dX9_putTogether_5 rfl ?_
  refine r_lstore o (lv' := [(7, .long 0), (5, .long 0), (3, .long 0), (0, .ref (gad G 0)), (1, .int (nI kq)), (2, .ref (gad G 7))]) dX9_putTogether_6 (by decide) rfl ?_
  refine r_lconst o (v := 0) dX9_putTogether_8 rfl ?_
  refine r_lstore o (lv' := [(9, .long 0), (7, .long 0), (5, .long 0), (3, .long 0), (0, .ref (gad G 0)), (1, .int (nI kq)), (2, .ref (gad G 7))]) dX9_putTogether_9 (by decide) rfl ?_
  refine r_lconst o (v := 0) dX9_putTogether_11 rfl ?_
  refine r_lstore o (lv' := [(11, .long 0), (9, .long 0), (7, .long 0), (5, .long 0), (3, .long 0), (0, .ref (gad G 0)), (1, .int (nI kq)), (2, .ref (gad G 7))]) dX9_putTogether_12 (by decide) rfl ?_
  refine r_lconst o (v := 0) dX9_putTogether_14 rfl ?_
  refine r_lstore o (lv' := [(13, .long 0), (11, .long 0), (9, .long 0), (7, .long 0), (5, .long 0), (3, .long 0), (0, .ref (gad G 0)), (1, .int (nI kq)), (2, .ref (gad G 7))]) dX9_putTogether_15 (by decide) rfl ?_
  refine r_iconst o (v := nI 0) dX9_putTogether_17 (by decide) ?_
  refine r_istore o (lv' := [(15, .int (nI 0)), (13, .long 0), (11, .long 0), (9, .long 0), (7, .long 0), (5, .long 0), (3, .long 0), (0, .ref (gad G 0)), (1, .int (nI kq)), (2, .ref (gad G 7))]) dX9_putTogether_18 (by decide) rfl ?_
  have L20 : ∀ (n : Nat) (yq : Nat) (hyq : yq ≤ 24), 24 - yq < n → WS X G 20 σ 20 [(0, .ref (gad G 0)), (1, .int (nI kq)), (2, .ref (gad G 7)), (3, .long (tgs (tgc af bf kq) (fun _ => 1) yq)), (5, .long (tgs (tgc af bf kq) (tga af) yq)), (7, .long (tgs (tgc af bf kq) (tgb bf kq) yq)), (9, .long (tgs (tgc af bf kq) (fun zy => tga af zy * tga af zy) yq)), (11, .long (tgs (tgc af bf kq) (fun zy => tgb bf kq zy * tgb bf kq zy) yq)), (13, .long (tgs (tgc af bf kq) (fun zy => tga af zy * tgb bf kq zy) yq)), (15, .int (nI yq))] [] := by
    intro n
    induction n with
    | zero => intro yq hyq hm; exact absurd hm (Nat.not_lt_zero _)
    | succ n ih20 =>
      intro yq hyq hm
      refine r_iload o dX9_putTogether_20 9 rfl ?_
      refine r_bipush o (v := nI 24) dX9_putTogether_22 (by decide) ?_
      refine r_icmp_ge o (tgt := 133) dX9_putTogether_24 (by decide) (fun hb24 => ?_) (fun hb24 => ?_)
      · skip
        rw [nI_leI (by omega) (by omega)] at hb24
        obtain rfl : yq = 24 := by omega
        refine r_lv (lv' := [(0, .ref (gad G 0)), (1, .int (nI kq)), (2, .ref (gad G 7)), (3, .long (tgN af bf kq)), (5, .long (tgs (tgc af bf kq) (tga af) 24)), (7, .long (tgs (tgc af bf kq) (tgb bf kq) 24)), (9, .long (tgs (tgc af bf kq) (fun zy => tga af zy * tga af zy) 24)), (11, .long (tgs (tgc af bf kq) (fun zy => tgb bf kq zy * tgb bf kq zy) 24)), (13, .long (tgs (tgc af bf kq) (fun zy => tga af zy * tgb bf kq zy) 24)), (15, .int (nI 24))]) (congrArg (fun zz => ([(0, .ref (gad G 0)), (1, .int (nI kq)), (2, .ref (gad G 7)), (3, .long zz), (5, .long (tgs (tgc af bf kq) (tga af) 24)), (7, .long (tgs (tgc af bf kq) (tgb bf kq) 24)), (9, .long (tgs (tgc af bf kq) (fun zy => tga af zy * tga af zy) 24)), (11, .long (tgs (tgc af bf kq) (fun zy => tgb bf kq zy * tgb bf kq zy) 24)), (13, .long (tgs (tgc af bf kq) (fun zy => tga af zy * tgb bf kq zy) 24)), (15, .int (nI 24))] : List (Nat × Value))) (show tgs (tgc af bf kq) (fun _ => 1) 24 = tgN af bf kq from rfl)) ?_
        refine r_lv (lv' := [(0, .ref (gad G 0)), (1, .int (nI kq)), (2, .ref (gad G 7)), (3, .long (tgN af bf kq)), (5, .long (tgA af bf kq)), (7, .long (tgs (tgc af bf kq) (tgb bf kq) 24)), (9, .long (tgs (tgc af bf kq) (fun zy => tga af zy * tga af zy) 24)), (11, .long (tgs (tgc af bf kq) (fun zy => tgb bf kq zy * tgb bf kq zy) 24)), (13, .long (tgs (tgc af bf kq) (fun zy => tga af zy * tgb bf kq zy) 24)), (15, .int (nI 24))]) (congrArg (fun zz => ([(0, .ref (gad G 0)), (1, .int (nI kq)), (2, .ref (gad G 7)), (3, .long (tgN af bf kq)), (5, .long zz), (7, .long (tgs (tgc af bf kq) (tgb bf kq) 24)), (9, .long (tgs (tgc af bf kq) (fun zy => tga af zy * tga af zy) 24)), (11, .long (tgs (tgc af bf kq) (fun zy => tgb bf kq zy * tgb bf kq zy) 24)), (13, .long (tgs (tgc af bf kq) (fun zy => tga af zy * tgb bf kq zy) 24)), (15, .int (nI 24))] : List (Nat × Value))) (show tgs (tgc af bf kq) (tga af) 24 = tgA af bf kq from rfl)) ?_
        refine r_lv (lv' := [(0, .ref (gad G 0)), (1, .int (nI kq)), (2, .ref (gad G 7)), (3, .long (tgN af bf kq)), (5, .long (tgA af bf kq)), (7, .long (tgB af bf kq)), (9, .long (tgs (tgc af bf kq) (fun zy => tga af zy * tga af zy) 24)), (11, .long (tgs (tgc af bf kq) (fun zy => tgb bf kq zy * tgb bf kq zy) 24)), (13, .long (tgs (tgc af bf kq) (fun zy => tga af zy * tgb bf kq zy) 24)), (15, .int (nI 24))]) (congrArg (fun zz => ([(0, .ref (gad G 0)), (1, .int (nI kq)), (2, .ref (gad G 7)), (3, .long (tgN af bf kq)), (5, .long (tgA af bf kq)), (7, .long zz), (9, .long (tgs (tgc af bf kq) (fun zy => tga af zy * tga af zy) 24)), (11, .long (tgs (tgc af bf kq) (fun zy => tgb bf kq zy * tgb bf kq zy) 24)), (13, .long (tgs (tgc af bf kq) (fun zy => tga af zy * tgb bf kq zy) 24)), (15, .int (nI 24))] : List (Nat × Value))) (show tgs (tgc af bf kq) (tgb bf kq) 24 = tgB af bf kq from rfl)) ?_
        refine r_lv (lv' := [(0, .ref (gad G 0)), (1, .int (nI kq)), (2, .ref (gad G 7)), (3, .long (tgN af bf kq)), (5, .long (tgA af bf kq)), (7, .long (tgB af bf kq)), (9, .long (tgAA af bf kq)), (11, .long (tgs (tgc af bf kq) (fun zy => tgb bf kq zy * tgb bf kq zy) 24)), (13, .long (tgs (tgc af bf kq) (fun zy => tga af zy * tgb bf kq zy) 24)), (15, .int (nI 24))]) (congrArg (fun zz => ([(0, .ref (gad G 0)), (1, .int (nI kq)), (2, .ref (gad G 7)), (3, .long (tgN af bf kq)), (5, .long (tgA af bf kq)), (7, .long (tgB af bf kq)), (9, .long zz), (11, .long (tgs (tgc af bf kq) (fun zy => tgb bf kq zy * tgb bf kq zy) 24)), (13, .long (tgs (tgc af bf kq) (fun zy => tga af zy * tgb bf kq zy) 24)), (15, .int (nI 24))] : List (Nat × Value))) (show tgs (tgc af bf kq) (fun zy => tga af zy * tga af zy) 24 = tgAA af bf kq from rfl)) ?_
        refine r_lv (lv' := [(0, .ref (gad G 0)), (1, .int (nI kq)), (2, .ref (gad G 7)), (3, .long (tgN af bf kq)), (5, .long (tgA af bf kq)), (7, .long (tgB af bf kq)), (9, .long (tgAA af bf kq)), (11, .long (tgBB af bf kq)), (13, .long (tgs (tgc af bf kq) (fun zy => tga af zy * tgb bf kq zy) 24)), (15, .int (nI 24))]) (congrArg (fun zz => ([(0, .ref (gad G 0)), (1, .int (nI kq)), (2, .ref (gad G 7)), (3, .long (tgN af bf kq)), (5, .long (tgA af bf kq)), (7, .long (tgB af bf kq)), (9, .long (tgAA af bf kq)), (11, .long zz), (13, .long (tgs (tgc af bf kq) (fun zy => tga af zy * tgb bf kq zy) 24)), (15, .int (nI 24))] : List (Nat × Value))) (show tgs (tgc af bf kq) (fun zy => tgb bf kq zy * tgb bf kq zy) 24 = tgBB af bf kq from rfl)) ?_
        refine r_lv (lv' := [(0, .ref (gad G 0)), (1, .int (nI kq)), (2, .ref (gad G 7)), (3, .long (tgN af bf kq)), (5, .long (tgA af bf kq)), (7, .long (tgB af bf kq)), (9, .long (tgAA af bf kq)), (11, .long (tgBB af bf kq)), (13, .long (tgAB af bf kq)), (15, .int (nI 24))]) (congrArg (fun zz => ([(0, .ref (gad G 0)), (1, .int (nI kq)), (2, .ref (gad G 7)), (3, .long (tgN af bf kq)), (5, .long (tgA af bf kq)), (7, .long (tgB af bf kq)), (9, .long (tgAA af bf kq)), (11, .long (tgBB af bf kq)), (13, .long zz), (15, .int (nI 24))] : List (Nat × Value))) (show tgs (tgc af bf kq) (fun zy => tga af zy * tgb bf kq zy) 24 = tgAB af bf kq from rfl)) ?_
        refine r_lload_n o dX9_putTogether_133 3 rfl ?_
        refine r_lload o dX9_putTogether_134 8 rfl ?_
        refine r_lmul o dX9_putTogether_136 ?_
        refine r_lload o dX9_putTogether_137 4 rfl ?_
        refine r_lload o dX9_putTogether_139 5 rfl ?_
        refine r_lmul o dX9_putTogether_141 ?_
        refine r_lsub o dX9_putTogether_142 ?_
        refine r_lstore o (lv' := [(15, .long (((tgN af bf kq) * (tgAB af bf kq)) - ((tgA af bf kq) * (tgB af bf kq)))), (0, .ref (gad G 0)), (1, .int (nI kq)), (2, .ref (gad G 7)), (3, .long (tgN af bf kq)), (5, .long (tgA af bf kq)), (7, .long (tgB af bf kq)), (9, .long (tgAA af bf kq)), (11, .long (tgBB af bf kq)), (13, .long (tgAB af bf kq))]) dX9_putTogether_143 (by decide) rfl ?_
        refine r_aload_n o dX9_putTogether_145 3 rfl ?_
        refine r_lload o dX9_putTogether_146 0 rfl ?_
        refine r_lload o dX9_putTogether_148 0 rfl ?_
        refine r_lmul o dX9_putTogether_150 ?_
        refine r_topl (y := tgU af bf kq) rfl ?_
        refine r_lload_n o dX9_putTogether_151 4 rfl ?_
        refine r_lload o dX9_putTogether_152 7 rfl ?_
        refine r_lmul o dX9_putTogether_154 ?_
        refine r_lload o dX9_putTogether_155 5 rfl ?_
        refine r_lload o dX9_putTogether_157 5 rfl ?_
        refine r_lmul o dX9_putTogether_159 ?_
        refine r_lsub o dX9_putTogether_160 ?_
        refine r_lload_n o dX9_putTogether_161 4 rfl ?_
        refine r_lload o dX9_putTogether_162 8 rfl ?_
        refine r_lmul o dX9_putTogether_164 ?_
        refine r_lload o dX9_putTogether_165 6 rfl ?_
        refine r_lload o dX9_putTogether_167 6 rfl ?_
        refine r_lmul o dX9_putTogether_169 ?_
        refine r_lsub o dX9_putTogether_170 ?_
        refine r_lmul o dX9_putTogether_171 ?_
        refine r_topl (y := tgD af bf kq) rfl ?_
        refine r_callVV o (As := [.long (tgU af bf kq), .long (tgD af bf kq)]) (st := []) (c_X2_put_7 (xl X) G σ (tgU af bf kq) (tgD af bf kq)) om_X2_put mw_438 mw_439 mw_437 (by decide) rfl rfl rfl (by decide) rfl rfl (Nat.le_of_ble_eq_true rfl) dX9_putTogether_172 (fun σσ172 hp172 => ?_)
        replace hp172 := Eq.symm hp172; subst hp172
        exact r_return o q dX9_putTogether_175 rfl
      · skip
        rw [nI_leI (by omega) (by omega)] at hb24
        refine r_aload_n o dX9_putTogether_27 0 rfl ?_
        refine gf_0_2 o mw_238 dX9_putTogether_28 ?_
        refine gfN_2_0 o mw_83 dX9_putTogether_31 ?_
        refine r_iload o dX9_putTogether_34 9 rfl ?_
        refine r_ia o (by decide) ia_20 (f := af) haf yq rfl (by omega) (by decide) dX9_putTogether_36 ?_
        refine r_i2l o dX9_putTogether_37 rfl ?_
        refine r_lstore o (lv' := [(16, .long ((af yq).toInt64)), (0, .ref (gad G 0)), (1, .int (nI kq)), (2, .ref (gad G 7)), (3, .long (tgs (tgc af bf kq) (fun _ => 1) yq)), (5, .long (tgs (tgc af bf kq) (tga af) yq)), (7, .long (tgs (tgc af bf kq) (tgb bf kq) yq)), (9, .long (tgs (tgc af bf kq) (fun zy => tga af zy * tga af zy) yq)), (11, .long (tgs (tgc af bf kq) (fun zy => tgb bf kq zy * tgb bf kq zy) yq)), (13, .long (tgs (tgc af bf kq) (fun zy => tga af zy * tgb bf kq zy) yq)), (15, .int (nI yq))]) dX9_putTogether_38 (by decide) rfl ?_
        refine r_aload_n o dX9_putTogether_40 1 rfl ?_
        refine gf_0_3 o mw_239 dX9_putTogether_41 ?_
        refine gfN_3_0 o mw_83 dX9_putTogether_44 ?_
        refine r_iload o dX9_putTogether_47 10 rfl ?_
        refine r_bipush o (v := nI 24) dX9_putTogether_49 (by decide) ?_
        refine r_iadd o dX9_putTogether_51 ?_
        refine r_topi (y := nI (yq + 24)) (nI_add' _ _) ?_
        refine r_iload_n o dX9_putTogether_52 2 rfl ?_
        refine r_isub o dX9_putTogether_53 ?_
        refine r_topi (y := nI (yq + 24 - kq)) (nI_sub' (by omega)) ?_
        refine r_bipush o (v := nI 24) dX9_putTogether_54 (by decide) ?_
        refine r_irem o dX9_putTogether_56 (nI_z (by omega) (by omega)) ?_
        refine r_topi (y := nI ((yq + 24 - kq) % 24)) (nI_rem' (by omega) (by omega) (by omega)) ?_
        refine r_ia o (by decide) ia_23 (f := bf) hbf ((yq + 24 - kq) % 24) rfl (Nat.mod_lt _ (by decide)) (by decide) dX9_putTogether_57 ?_
        refine r_i2l o dX9_putTogether_58 rfl ?_
        refine r_lstore o (lv' := [(18, .long ((bf ((yq + 24 - kq) % 24)).toInt64)), (16, .long ((af yq).toInt64)), (0, .ref (gad G 0)), (1, .int (nI kq)), (2, .ref (gad G 7)), (3, .long (tgs (tgc af bf kq) (fun _ => 1) yq)), (5, .long (tgs (tgc af bf kq) (tga af) yq)), (7, .long (tgs (tgc af bf kq) (tgb bf kq) yq)), (9, .long (tgs (tgc af bf kq) (fun zy => tga af zy * tga af zy) yq)), (11, .long (tgs (tgc af bf kq) (fun zy => tgb bf kq zy * tgb bf kq zy) yq)), (13, .long (tgs (tgc af bf kq) (fun zy => tga af zy * tgb bf kq zy) yq)), (15, .int (nI yq))]) dX9_putTogether_59 (by decide) rfl ?_
        refine r_lload o dX9_putTogether_61 1 rfl ?_
        refine r_ldc2_w o mw_511 dX9_putTogether_63 ?_
        refine r_lcmp o dX9_putTogether_66 ?_
        refine r_if_eq o (tgt := 127) dX9_putTogether_67 (by decide) (fun hb67 => ?_) (fun hb67 => ?_)
        · skip
          rw [lg_cmp_eq] at hb67
          rw [gapL] at hb67
          have hcb : tgc af bf kq yq = false := by unfold tgc; rw [decide_eq_true hb67]; rfl
          refine r_lv (lv' := [(18, .long ((bf ((yq + 24 - kq) % 24)).toInt64)), (16, .long ((af yq).toInt64)), (0, .ref (gad G 0)), (1, .int (nI kq)), (2, .ref (gad G 7)), (3, .long (tgs (tgc af bf kq) (fun _ => 1) (yq + 1))), (5, .long (tgs (tgc af bf kq) (tga af) yq)), (7, .long (tgs (tgc af bf kq) (tgb bf kq) yq)), (9, .long (tgs (tgc af bf kq) (fun zy => tga af zy * tga af zy) yq)), (11, .long (tgs (tgc af bf kq) (fun zy => tgb bf kq zy * tgb bf kq zy) yq)), (13, .long (tgs (tgc af bf kq) (fun zy => tga af zy * tgb bf kq zy) yq)), (15, .int (nI yq))]) (congrArg (fun zz => ([(18, .long ((bf ((yq + 24 - kq) % 24)).toInt64)), (16, .long ((af yq).toInt64)), (0, .ref (gad G 0)), (1, .int (nI kq)), (2, .ref (gad G 7)), (3, .long zz), (5, .long (tgs (tgc af bf kq) (tga af) yq)), (7, .long (tgs (tgc af bf kq) (tgb bf kq) yq)), (9, .long (tgs (tgc af bf kq) (fun zy => tga af zy * tga af zy) yq)), (11, .long (tgs (tgc af bf kq) (fun zy => tgb bf kq zy * tgb bf kq zy) yq)), (13, .long (tgs (tgc af bf kq) (fun zy => tga af zy * tgb bf kq zy) yq)), (15, .int (nI yq))] : List (Nat × Value))) (tgs_n hcb)) ?_
          refine r_lv (lv' := [(18, .long ((bf ((yq + 24 - kq) % 24)).toInt64)), (16, .long ((af yq).toInt64)), (0, .ref (gad G 0)), (1, .int (nI kq)), (2, .ref (gad G 7)), (3, .long (tgs (tgc af bf kq) (fun _ => 1) (yq + 1))), (5, .long (tgs (tgc af bf kq) (tga af) (yq + 1))), (7, .long (tgs (tgc af bf kq) (tgb bf kq) yq)), (9, .long (tgs (tgc af bf kq) (fun zy => tga af zy * tga af zy) yq)), (11, .long (tgs (tgc af bf kq) (fun zy => tgb bf kq zy * tgb bf kq zy) yq)), (13, .long (tgs (tgc af bf kq) (fun zy => tga af zy * tgb bf kq zy) yq)), (15, .int (nI yq))]) (congrArg (fun zz => ([(18, .long ((bf ((yq + 24 - kq) % 24)).toInt64)), (16, .long ((af yq).toInt64)), (0, .ref (gad G 0)), (1, .int (nI kq)), (2, .ref (gad G 7)), (3, .long (tgs (tgc af bf kq) (fun _ => 1) (yq + 1))), (5, .long zz), (7, .long (tgs (tgc af bf kq) (tgb bf kq) yq)), (9, .long (tgs (tgc af bf kq) (fun zy => tga af zy * tga af zy) yq)), (11, .long (tgs (tgc af bf kq) (fun zy => tgb bf kq zy * tgb bf kq zy) yq)), (13, .long (tgs (tgc af bf kq) (fun zy => tga af zy * tgb bf kq zy) yq)), (15, .int (nI yq))] : List (Nat × Value))) (tgs_n hcb)) ?_
          refine r_lv (lv' := [(18, .long ((bf ((yq + 24 - kq) % 24)).toInt64)), (16, .long ((af yq).toInt64)), (0, .ref (gad G 0)), (1, .int (nI kq)), (2, .ref (gad G 7)), (3, .long (tgs (tgc af bf kq) (fun _ => 1) (yq + 1))), (5, .long (tgs (tgc af bf kq) (tga af) (yq + 1))), (7, .long (tgs (tgc af bf kq) (tgb bf kq) (yq + 1))), (9, .long (tgs (tgc af bf kq) (fun zy => tga af zy * tga af zy) yq)), (11, .long (tgs (tgc af bf kq) (fun zy => tgb bf kq zy * tgb bf kq zy) yq)), (13, .long (tgs (tgc af bf kq) (fun zy => tga af zy * tgb bf kq zy) yq)), (15, .int (nI yq))]) (congrArg (fun zz => ([(18, .long ((bf ((yq + 24 - kq) % 24)).toInt64)), (16, .long ((af yq).toInt64)), (0, .ref (gad G 0)), (1, .int (nI kq)), (2, .ref (gad G 7)), (3, .long (tgs (tgc af bf kq) (fun _ => 1) (yq + 1))), (5, .long (tgs (tgc af bf kq) (tga af) (yq + 1))), (7, .long zz), (9, .long (tgs (tgc af bf kq) (fun zy => tga af zy * tga af zy) yq)), (11, .long (tgs (tgc af bf kq) (fun zy => tgb bf kq zy * tgb bf kq zy) yq)), (13, .long (tgs (tgc af bf kq) (fun zy => tga af zy * tgb bf kq zy) yq)), (15, .int (nI yq))] : List (Nat × Value))) (tgs_n hcb)) ?_
          refine r_lv (lv' := [(18, .long ((bf ((yq + 24 - kq) % 24)).toInt64)), (16, .long ((af yq).toInt64)), (0, .ref (gad G 0)), (1, .int (nI kq)), (2, .ref (gad G 7)), (3, .long (tgs (tgc af bf kq) (fun _ => 1) (yq + 1))), (5, .long (tgs (tgc af bf kq) (tga af) (yq + 1))), (7, .long (tgs (tgc af bf kq) (tgb bf kq) (yq + 1))), (9, .long (tgs (tgc af bf kq) (fun zy => tga af zy * tga af zy) (yq + 1))), (11, .long (tgs (tgc af bf kq) (fun zy => tgb bf kq zy * tgb bf kq zy) yq)), (13, .long (tgs (tgc af bf kq) (fun zy => tga af zy * tgb bf kq zy) yq)), (15, .int (nI yq))]) (congrArg (fun zz => ([(18, .long ((bf ((yq + 24 - kq) % 24)).toInt64)), (16, .long ((af yq).toInt64)), (0, .ref (gad G 0)), (1, .int (nI kq)), (2, .ref (gad G 7)), (3, .long (tgs (tgc af bf kq) (fun _ => 1) (yq + 1))), (5, .long (tgs (tgc af bf kq) (tga af) (yq + 1))), (7, .long (tgs (tgc af bf kq) (tgb bf kq) (yq + 1))), (9, .long zz), (11, .long (tgs (tgc af bf kq) (fun zy => tgb bf kq zy * tgb bf kq zy) yq)), (13, .long (tgs (tgc af bf kq) (fun zy => tga af zy * tgb bf kq zy) yq)), (15, .int (nI yq))] : List (Nat × Value))) (tgs_n hcb)) ?_
          refine r_lv (lv' := [(18, .long ((bf ((yq + 24 - kq) % 24)).toInt64)), (16, .long ((af yq).toInt64)), (0, .ref (gad G 0)), (1, .int (nI kq)), (2, .ref (gad G 7)), (3, .long (tgs (tgc af bf kq) (fun _ => 1) (yq + 1))), (5, .long (tgs (tgc af bf kq) (tga af) (yq + 1))), (7, .long (tgs (tgc af bf kq) (tgb bf kq) (yq + 1))), (9, .long (tgs (tgc af bf kq) (fun zy => tga af zy * tga af zy) (yq + 1))), (11, .long (tgs (tgc af bf kq) (fun zy => tgb bf kq zy * tgb bf kq zy) (yq + 1))), (13, .long (tgs (tgc af bf kq) (fun zy => tga af zy * tgb bf kq zy) yq)), (15, .int (nI yq))]) (congrArg (fun zz => ([(18, .long ((bf ((yq + 24 - kq) % 24)).toInt64)), (16, .long ((af yq).toInt64)), (0, .ref (gad G 0)), (1, .int (nI kq)), (2, .ref (gad G 7)), (3, .long (tgs (tgc af bf kq) (fun _ => 1) (yq + 1))), (5, .long (tgs (tgc af bf kq) (tga af) (yq + 1))), (7, .long (tgs (tgc af bf kq) (tgb bf kq) (yq + 1))), (9, .long (tgs (tgc af bf kq) (fun zy => tga af zy * tga af zy) (yq + 1))), (11, .long zz), (13, .long (tgs (tgc af bf kq) (fun zy => tga af zy * tgb bf kq zy) yq)), (15, .int (nI yq))] : List (Nat × Value))) (tgs_n hcb)) ?_
          refine r_lv (lv' := [(18, .long ((bf ((yq + 24 - kq) % 24)).toInt64)), (16, .long ((af yq).toInt64)), (0, .ref (gad G 0)), (1, .int (nI kq)), (2, .ref (gad G 7)), (3, .long (tgs (tgc af bf kq) (fun _ => 1) (yq + 1))), (5, .long (tgs (tgc af bf kq) (tga af) (yq + 1))), (7, .long (tgs (tgc af bf kq) (tgb bf kq) (yq + 1))), (9, .long (tgs (tgc af bf kq) (fun zy => tga af zy * tga af zy) (yq + 1))), (11, .long (tgs (tgc af bf kq) (fun zy => tgb bf kq zy * tgb bf kq zy) (yq + 1))), (13, .long (tgs (tgc af bf kq) (fun zy => tga af zy * tgb bf kq zy) (yq + 1))), (15, .int (nI yq))]) (congrArg (fun zz => ([(18, .long ((bf ((yq + 24 - kq) % 24)).toInt64)), (16, .long ((af yq).toInt64)), (0, .ref (gad G 0)), (1, .int (nI kq)), (2, .ref (gad G 7)), (3, .long (tgs (tgc af bf kq) (fun _ => 1) (yq + 1))), (5, .long (tgs (tgc af bf kq) (tga af) (yq + 1))), (7, .long (tgs (tgc af bf kq) (tgb bf kq) (yq + 1))), (9, .long (tgs (tgc af bf kq) (fun zy => tga af zy * tga af zy) (yq + 1))), (11, .long (tgs (tgc af bf kq) (fun zy => tgb bf kq zy * tgb bf kq zy) (yq + 1))), (13, .long zz), (15, .int (nI yq))] : List (Nat × Value))) (tgs_n hcb)) ?_
          refine r_iinc o (v := nI (yq + 1)) (lv' := [(15, .int (nI (yq + 1))), (18, .long ((bf ((yq + 24 - kq) % 24)).toInt64)), (16, .long ((af yq).toInt64)), (0, .ref (gad G 0)), (1, .int (nI kq)), (2, .ref (gad G 7)), (3, .long (tgs (tgc af bf kq) (fun _ => 1) (yq + 1))), (5, .long (tgs (tgc af bf kq) (tga af) (yq + 1))), (7, .long (tgs (tgc af bf kq) (tgb bf kq) (yq + 1))), (9, .long (tgs (tgc af bf kq) (fun zy => tga af zy * tga af zy) (yq + 1))), (11, .long (tgs (tgc af bf kq) (fun zy => tgb bf kq zy * tgb bf kq zy) (yq + 1))), (13, .long (tgs (tgc af bf kq) (fun zy => tga af zy * tgb bf kq zy) (yq + 1)))]) dX9_putTogether_127 11 rfl (nI_inc _) (by decide) rfl ?_
          refine r_goto o (tgt := 20) dX9_putTogether_130 (by decide) ?_
          exact r_to rfl [3, 4, 5, 6, 7, 8, 9, 10, 11, 0] rfl (ih20 (yq + 1) (by omega) (by omega))
        · skip
          rw [lg_cmp_eq] at hb67
          rw [gapL] at hb67
          refine r_lload o dX9_putTogether_70 0 rfl ?_
          refine r_ldc2_w o mw_511 dX9_putTogether_72 ?_
          refine r_lcmp o dX9_putTogether_75 ?_
          refine r_if_eq o (tgt := 127) dX9_putTogether_76 (by decide) (fun hb76 => ?_) (fun hb76 => ?_)
          · skip
            rw [lg_cmp_eq] at hb76
            rw [gapL] at hb76
            have hcb : tgc af bf kq yq = false := by unfold tgc; rw [decide_eq_true hb76]; simp
            refine r_lv (lv' := [(18, .long ((bf ((yq + 24 - kq) % 24)).toInt64)), (16, .long ((af yq).toInt64)), (0, .ref (gad G 0)), (1, .int (nI kq)), (2, .ref (gad G 7)), (3, .long (tgs (tgc af bf kq) (fun _ => 1) (yq + 1))), (5, .long (tgs (tgc af bf kq) (tga af) yq)), (7, .long (tgs (tgc af bf kq) (tgb bf kq) yq)), (9, .long (tgs (tgc af bf kq) (fun zy => tga af zy * tga af zy) yq)), (11, .long (tgs (tgc af bf kq) (fun zy => tgb bf kq zy * tgb bf kq zy) yq)), (13, .long (tgs (tgc af bf kq) (fun zy => tga af zy * tgb bf kq zy) yq)), (15, .int (nI yq))]) (congrArg (fun zz => ([(18, .long ((bf ((yq + 24 - kq) % 24)).toInt64)), (16, .long ((af yq).toInt64)), (0, .ref (gad G 0)), (1, .int (nI kq)), (2, .ref (gad G 7)), (3, .long zz), (5, .long (tgs (tgc af bf kq) (tga af) yq)), (7, .long (tgs (tgc af bf kq) (tgb bf kq) yq)), (9, .long (tgs (tgc af bf kq) (fun zy => tga af zy * tga af zy) yq)), (11, .long (tgs (tgc af bf kq) (fun zy => tgb bf kq zy * tgb bf kq zy) yq)), (13, .long (tgs (tgc af bf kq) (fun zy => tga af zy * tgb bf kq zy) yq)), (15, .int (nI yq))] : List (Nat × Value))) (tgs_n hcb)) ?_
            refine r_lv (lv' := [(18, .long ((bf ((yq + 24 - kq) % 24)).toInt64)), (16, .long ((af yq).toInt64)), (0, .ref (gad G 0)), (1, .int (nI kq)), (2, .ref (gad G 7)), (3, .long (tgs (tgc af bf kq) (fun _ => 1) (yq + 1))), (5, .long (tgs (tgc af bf kq) (tga af) (yq + 1))), (7, .long (tgs (tgc af bf kq) (tgb bf kq) yq)), (9, .long (tgs (tgc af bf kq) (fun zy => tga af zy * tga af zy) yq)), (11, .long (tgs (tgc af bf kq) (fun zy => tgb bf kq zy * tgb bf kq zy) yq)), (13, .long (tgs (tgc af bf kq) (fun zy => tga af zy * tgb bf kq zy) yq)), (15, .int (nI yq))]) (congrArg (fun zz => ([(18, .long ((bf ((yq + 24 - kq) % 24)).toInt64)), (16, .long ((af yq).toInt64)), (0, .ref (gad G 0)), (1, .int (nI kq)), (2, .ref (gad G 7)), (3, .long (tgs (tgc af bf kq) (fun _ => 1) (yq + 1))), (5, .long zz), (7, .long (tgs (tgc af bf kq) (tgb bf kq) yq)), (9, .long (tgs (tgc af bf kq) (fun zy => tga af zy * tga af zy) yq)), (11, .long (tgs (tgc af bf kq) (fun zy => tgb bf kq zy * tgb bf kq zy) yq)), (13, .long (tgs (tgc af bf kq) (fun zy => tga af zy * tgb bf kq zy) yq)), (15, .int (nI yq))] : List (Nat × Value))) (tgs_n hcb)) ?_
            refine r_lv (lv' := [(18, .long ((bf ((yq + 24 - kq) % 24)).toInt64)), (16, .long ((af yq).toInt64)), (0, .ref (gad G 0)), (1, .int (nI kq)), (2, .ref (gad G 7)), (3, .long (tgs (tgc af bf kq) (fun _ => 1) (yq + 1))), (5, .long (tgs (tgc af bf kq) (tga af) (yq + 1))), (7, .long (tgs (tgc af bf kq) (tgb bf kq) (yq + 1))), (9, .long (tgs (tgc af bf kq) (fun zy => tga af zy * tga af zy) yq)), (11, .long (tgs (tgc af bf kq) (fun zy => tgb bf kq zy * tgb bf kq zy) yq)), (13, .long (tgs (tgc af bf kq) (fun zy => tga af zy * tgb bf kq zy) yq)), (15, .int (nI yq))]) (congrArg (fun zz => ([(18, .long ((bf ((yq + 24 - kq) % 24)).toInt64)), (16, .long ((af yq).toInt64)), (0, .ref (gad G 0)), (1, .int (nI kq)), (2, .ref (gad G 7)), (3, .long (tgs (tgc af bf kq) (fun _ => 1) (yq + 1))), (5, .long (tgs (tgc af bf kq) (tga af) (yq + 1))), (7, .long zz), (9, .long (tgs (tgc af bf kq) (fun zy => tga af zy * tga af zy) yq)), (11, .long (tgs (tgc af bf kq) (fun zy => tgb bf kq zy * tgb bf kq zy) yq)), (13, .long (tgs (tgc af bf kq) (fun zy => tga af zy * tgb bf kq zy) yq)), (15, .int (nI yq))] : List (Nat × Value))) (tgs_n hcb)) ?_
            refine r_lv (lv' := [(18, .long ((bf ((yq + 24 - kq) % 24)).toInt64)), (16, .long ((af yq).toInt64)), (0, .ref (gad G 0)), (1, .int (nI kq)), (2, .ref (gad G 7)), (3, .long (tgs (tgc af bf kq) (fun _ => 1) (yq + 1))), (5, .long (tgs (tgc af bf kq) (tga af) (yq + 1))), (7, .long (tgs (tgc af bf kq) (tgb bf kq) (yq + 1))), (9, .long (tgs (tgc af bf kq) (fun zy => tga af zy * tga af zy) (yq + 1))), (11, .long (tgs (tgc af bf kq) (fun zy => tgb bf kq zy * tgb bf kq zy) yq)), (13, .long (tgs (tgc af bf kq) (fun zy => tga af zy * tgb bf kq zy) yq)), (15, .int (nI yq))]) (congrArg (fun zz => ([(18, .long ((bf ((yq + 24 - kq) % 24)).toInt64)), (16, .long ((af yq).toInt64)), (0, .ref (gad G 0)), (1, .int (nI kq)), (2, .ref (gad G 7)), (3, .long (tgs (tgc af bf kq) (fun _ => 1) (yq + 1))), (5, .long (tgs (tgc af bf kq) (tga af) (yq + 1))), (7, .long (tgs (tgc af bf kq) (tgb bf kq) (yq + 1))), (9, .long zz), (11, .long (tgs (tgc af bf kq) (fun zy => tgb bf kq zy * tgb bf kq zy) yq)), (13, .long (tgs (tgc af bf kq) (fun zy => tga af zy * tgb bf kq zy) yq)), (15, .int (nI yq))] : List (Nat × Value))) (tgs_n hcb)) ?_
            refine r_lv (lv' := [(18, .long ((bf ((yq + 24 - kq) % 24)).toInt64)), (16, .long ((af yq).toInt64)), (0, .ref (gad G 0)), (1, .int (nI kq)), (2, .ref (gad G 7)), (3, .long (tgs (tgc af bf kq) (fun _ => 1) (yq + 1))), (5, .long (tgs (tgc af bf kq) (tga af) (yq + 1))), (7, .long (tgs (tgc af bf kq) (tgb bf kq) (yq + 1))), (9, .long (tgs (tgc af bf kq) (fun zy => tga af zy * tga af zy) (yq + 1))), (11, .long (tgs (tgc af bf kq) (fun zy => tgb bf kq zy * tgb bf kq zy) (yq + 1))), (13, .long (tgs (tgc af bf kq) (fun zy => tga af zy * tgb bf kq zy) yq)), (15, .int (nI yq))]) (congrArg (fun zz => ([(18, .long ((bf ((yq + 24 - kq) % 24)).toInt64)), (16, .long ((af yq).toInt64)), (0, .ref (gad G 0)), (1, .int (nI kq)), (2, .ref (gad G 7)), (3, .long (tgs (tgc af bf kq) (fun _ => 1) (yq + 1))), (5, .long (tgs (tgc af bf kq) (tga af) (yq + 1))), (7, .long (tgs (tgc af bf kq) (tgb bf kq) (yq + 1))), (9, .long (tgs (tgc af bf kq) (fun zy => tga af zy * tga af zy) (yq + 1))), (11, .long zz), (13, .long (tgs (tgc af bf kq) (fun zy => tga af zy * tgb bf kq zy) yq)), (15, .int (nI yq))] : List (Nat × Value))) (tgs_n hcb)) ?_
            refine r_lv (lv' := [(18, .long ((bf ((yq + 24 - kq) % 24)).toInt64)), (16, .long ((af yq).toInt64)), (0, .ref (gad G 0)), (1, .int (nI kq)), (2, .ref (gad G 7)), (3, .long (tgs (tgc af bf kq) (fun _ => 1) (yq + 1))), (5, .long (tgs (tgc af bf kq) (tga af) (yq + 1))), (7, .long (tgs (tgc af bf kq) (tgb bf kq) (yq + 1))), (9, .long (tgs (tgc af bf kq) (fun zy => tga af zy * tga af zy) (yq + 1))), (11, .long (tgs (tgc af bf kq) (fun zy => tgb bf kq zy * tgb bf kq zy) (yq + 1))), (13, .long (tgs (tgc af bf kq) (fun zy => tga af zy * tgb bf kq zy) (yq + 1))), (15, .int (nI yq))]) (congrArg (fun zz => ([(18, .long ((bf ((yq + 24 - kq) % 24)).toInt64)), (16, .long ((af yq).toInt64)), (0, .ref (gad G 0)), (1, .int (nI kq)), (2, .ref (gad G 7)), (3, .long (tgs (tgc af bf kq) (fun _ => 1) (yq + 1))), (5, .long (tgs (tgc af bf kq) (tga af) (yq + 1))), (7, .long (tgs (tgc af bf kq) (tgb bf kq) (yq + 1))), (9, .long (tgs (tgc af bf kq) (fun zy => tga af zy * tga af zy) (yq + 1))), (11, .long (tgs (tgc af bf kq) (fun zy => tgb bf kq zy * tgb bf kq zy) (yq + 1))), (13, .long zz), (15, .int (nI yq))] : List (Nat × Value))) (tgs_n hcb)) ?_
            refine r_iinc o (v := nI (yq + 1)) (lv' := [(15, .int (nI (yq + 1))), (18, .long ((bf ((yq + 24 - kq) % 24)).toInt64)), (16, .long ((af yq).toInt64)), (0, .ref (gad G 0)), (1, .int (nI kq)), (2, .ref (gad G 7)), (3, .long (tgs (tgc af bf kq) (fun _ => 1) (yq + 1))), (5, .long (tgs (tgc af bf kq) (tga af) (yq + 1))), (7, .long (tgs (tgc af bf kq) (tgb bf kq) (yq + 1))), (9, .long (tgs (tgc af bf kq) (fun zy => tga af zy * tga af zy) (yq + 1))), (11, .long (tgs (tgc af bf kq) (fun zy => tgb bf kq zy * tgb bf kq zy) (yq + 1))), (13, .long (tgs (tgc af bf kq) (fun zy => tga af zy * tgb bf kq zy) (yq + 1)))]) dX9_putTogether_127 11 rfl (nI_inc _) (by decide) rfl ?_
            refine r_goto o (tgt := 20) dX9_putTogether_130 (by decide) ?_
            exact r_to rfl [3, 4, 5, 6, 7, 8, 9, 10, 11, 0] rfl (ih20 (yq + 1) (by omega) (by omega))
          · skip
            rw [lg_cmp_eq] at hb76
            rw [gapL] at hb76
            have hcb : tgc af bf kq yq = true := by unfold tgc; rw [decide_eq_false hb67, decide_eq_false hb76]; rfl
            refine r_lload_n o dX9_putTogether_79 5 rfl ?_
            refine r_lconst o (v := 1) dX9_putTogether_80 rfl ?_
            refine r_ladd o dX9_putTogether_81 ?_
            refine r_lstore_n o (lv' := [(3, .long ((tgs (tgc af bf kq) (fun _ => 1) yq) + 1)), (18, .long ((bf ((yq + 24 - kq) % 24)).toInt64)), (16, .long ((af yq).toInt64)), (0, .ref (gad G 0)), (1, .int (nI kq)), (2, .ref (gad G 7)), (5, .long (tgs (tgc af bf kq) (tga af) yq)), (7, .long (tgs (tgc af bf kq) (tgb bf kq) yq)), (9, .long (tgs (tgc af bf kq) (fun zy => tga af zy * tga af zy) yq)), (11, .long (tgs (tgc af bf kq) (fun zy => tgb bf kq zy * tgb bf kq zy) yq)), (13, .long (tgs (tgc af bf kq) (fun zy => tga af zy * tgb bf kq zy) yq)), (15, .int (nI yq))]) dX9_putTogether_82 (by decide) rfl ?_
            refine r_lload o dX9_putTogether_83 6 rfl ?_
            refine r_lload o dX9_putTogether_85 2 rfl ?_
            refine r_ladd o dX9_putTogether_87 ?_
            refine r_lstore o (lv' := [(5, .long ((tgs (tgc af bf kq) (tga af) yq) + ((af yq).toInt64))), (3, .long ((tgs (tgc af bf kq) (fun _ => 1) yq) + 1)), (18, .long ((bf ((yq + 24 - kq) % 24)).toInt64)), (16, .long ((af yq).toInt64)), (0, .ref (gad G 0)), (1, .int (nI kq)), (2, .ref (gad G 7)), (7, .long (tgs (tgc af bf kq) (tgb bf kq) yq)), (9, .long (tgs (tgc af bf kq) (fun zy => tga af zy * tga af zy) yq)), (11, .long (tgs (tgc af bf kq) (fun zy => tgb bf kq zy * tgb bf kq zy) yq)), (13, .long (tgs (tgc af bf kq) (fun zy => tga af zy * tgb bf kq zy) yq)), (15, .int (nI yq))]) dX9_putTogether_88 (by decide) rfl ?_
            refine r_lload o dX9_putTogether_90 7 rfl ?_
            refine r_lload o dX9_putTogether_92 2 rfl ?_
            refine r_ladd o dX9_putTogether_94 ?_
            refine r_lstore o (lv' := [(7, .long ((tgs (tgc af bf kq) (tgb bf kq) yq) + ((bf ((yq + 24 - kq) % 24)).toInt64))), (5, .long ((tgs (tgc af bf kq) (tga af) yq) + ((af yq).toInt64))), (3, .long ((tgs (tgc af bf kq) (fun _ => 1) yq) + 1)), (18, .long ((bf ((yq + 24 - kq) % 24)).toInt64)), (16, .long ((af yq).toInt64)), (0, .ref (gad G 0)), (1, .int (nI kq)), (2, .ref (gad G 7)), (9, .long (tgs (tgc af bf kq) (fun zy => tga af zy * tga af zy) yq)), (11, .long (tgs (tgc af bf kq) (fun zy => tgb bf kq zy * tgb bf kq zy) yq)), (13, .long (tgs (tgc af bf kq) (fun zy => tga af zy * tgb bf kq zy) yq)), (15, .int (nI yq))]) dX9_putTogether_95 (by decide) rfl ?_
            refine r_lload o dX9_putTogether_97 8 rfl ?_
            refine r_lload o dX9_putTogether_99 4 rfl ?_
            refine r_lload o dX9_putTogether_101 4 rfl ?_
            refine r_lmul o dX9_putTogether_103 ?_
            refine r_ladd o dX9_putTogether_104 ?_
            refine r_lstore o (lv' := [(9, .long ((tgs (tgc af bf kq) (fun zy => tga af zy * tga af zy) yq) + (((af yq).toInt64) * ((af yq).toInt64)))), (7, .long ((tgs (tgc af bf kq) (tgb bf kq) yq) + ((bf ((yq + 24 - kq) % 24)).toInt64))), (5, .long ((tgs (tgc af bf kq) (tga af) yq) + ((af yq).toInt64))), (3, .long ((tgs (tgc af bf kq) (fun _ => 1) yq) + 1)), (18, .long ((bf ((yq + 24 - kq) % 24)).toInt64)), (16, .long ((af yq).toInt64)), (0, .ref (gad G 0)), (1, .int (nI kq)), (2, .ref (gad G 7)), (11, .long (tgs (tgc af bf kq) (fun zy => tgb bf kq zy * tgb bf kq zy) yq)), (13, .long (tgs (tgc af bf kq) (fun zy => tga af zy * tgb bf kq zy) yq)), (15, .int (nI yq))]) dX9_putTogether_105 (by decide) rfl ?_
            refine r_lload o dX9_putTogether_107 9 rfl ?_
            refine r_lload o dX9_putTogether_109 4 rfl ?_
            refine r_lload o dX9_putTogether_111 4 rfl ?_
            refine r_lmul o dX9_putTogether_113 ?_
            refine r_ladd o dX9_putTogether_114 ?_
            refine r_lstore o (lv' := [(11, .long ((tgs (tgc af bf kq) (fun zy => tgb bf kq zy * tgb bf kq zy) yq) + (((bf ((yq + 24 - kq) % 24)).toInt64) * ((bf ((yq + 24 - kq) % 24)).toInt64)))), (9, .long ((tgs (tgc af bf kq) (fun zy => tga af zy * tga af zy) yq) + (((af yq).toInt64) * ((af yq).toInt64)))), (7, .long ((tgs (tgc af bf kq) (tgb bf kq) yq) + ((bf ((yq + 24 - kq) % 24)).toInt64))), (5, .long ((tgs (tgc af bf kq) (tga af) yq) + ((af yq).toInt64))), (3, .long ((tgs (tgc af bf kq) (fun _ => 1) yq) + 1)), (18, .long ((bf ((yq + 24 - kq) % 24)).toInt64)), (16, .long ((af yq).toInt64)), (0, .ref (gad G 0)), (1, .int (nI kq)), (2, .ref (gad G 7)), (13, .long (tgs (tgc af bf kq) (fun zy => tga af zy * tgb bf kq zy) yq)), (15, .int (nI yq))]) dX9_putTogether_115 (by decide) rfl ?_
            refine r_lload o dX9_putTogether_117 10 rfl ?_
            refine r_lload o dX9_putTogether_119 6 rfl ?_
            refine r_lload o dX9_putTogether_121 5 rfl ?_
            refine r_lmul o dX9_putTogether_123 ?_
            refine r_ladd o dX9_putTogether_124 ?_
            refine r_lstore o (lv' := [(13, .long ((tgs (tgc af bf kq) (fun zy => tga af zy * tgb bf kq zy) yq) + (((af yq).toInt64) * ((bf ((yq + 24 - kq) % 24)).toInt64)))), (11, .long ((tgs (tgc af bf kq) (fun zy => tgb bf kq zy * tgb bf kq zy) yq) + (((bf ((yq + 24 - kq) % 24)).toInt64) * ((bf ((yq + 24 - kq) % 24)).toInt64)))), (9, .long ((tgs (tgc af bf kq) (fun zy => tga af zy * tga af zy) yq) + (((af yq).toInt64) * ((af yq).toInt64)))), (7, .long ((tgs (tgc af bf kq) (tgb bf kq) yq) + ((bf ((yq + 24 - kq) % 24)).toInt64))), (5, .long ((tgs (tgc af bf kq) (tga af) yq) + ((af yq).toInt64))), (3, .long ((tgs (tgc af bf kq) (fun _ => 1) yq) + 1)), (18, .long ((bf ((yq + 24 - kq) % 24)).toInt64)), (16, .long ((af yq).toInt64)), (0, .ref (gad G 0)), (1, .int (nI kq)), (2, .ref (gad G 7)), (15, .int (nI yq))]) dX9_putTogether_125 (by decide) rfl ?_
            refine r_lv (lv' := [(13, .long ((tgs (tgc af bf kq) (fun zy => tga af zy * tgb bf kq zy) yq) + (((af yq).toInt64) * ((bf ((yq + 24 - kq) % 24)).toInt64)))), (11, .long ((tgs (tgc af bf kq) (fun zy => tgb bf kq zy * tgb bf kq zy) yq) + (((bf ((yq + 24 - kq) % 24)).toInt64) * ((bf ((yq + 24 - kq) % 24)).toInt64)))), (9, .long ((tgs (tgc af bf kq) (fun zy => tga af zy * tga af zy) yq) + (((af yq).toInt64) * ((af yq).toInt64)))), (7, .long ((tgs (tgc af bf kq) (tgb bf kq) yq) + ((bf ((yq + 24 - kq) % 24)).toInt64))), (5, .long ((tgs (tgc af bf kq) (tga af) yq) + ((af yq).toInt64))), (3, .long (tgs (tgc af bf kq) (fun _ => 1) (yq + 1))), (18, .long ((bf ((yq + 24 - kq) % 24)).toInt64)), (16, .long ((af yq).toInt64)), (0, .ref (gad G 0)), (1, .int (nI kq)), (2, .ref (gad G 7)), (15, .int (nI yq))]) (congrArg (fun zz => ([(13, .long ((tgs (tgc af bf kq) (fun zy => tga af zy * tgb bf kq zy) yq) + (((af yq).toInt64) * ((bf ((yq + 24 - kq) % 24)).toInt64)))), (11, .long ((tgs (tgc af bf kq) (fun zy => tgb bf kq zy * tgb bf kq zy) yq) + (((bf ((yq + 24 - kq) % 24)).toInt64) * ((bf ((yq + 24 - kq) % 24)).toInt64)))), (9, .long ((tgs (tgc af bf kq) (fun zy => tga af zy * tga af zy) yq) + (((af yq).toInt64) * ((af yq).toInt64)))), (7, .long ((tgs (tgc af bf kq) (tgb bf kq) yq) + ((bf ((yq + 24 - kq) % 24)).toInt64))), (5, .long ((tgs (tgc af bf kq) (tga af) yq) + ((af yq).toInt64))), (3, .long zz), (18, .long ((bf ((yq + 24 - kq) % 24)).toInt64)), (16, .long ((af yq).toInt64)), (0, .ref (gad G 0)), (1, .int (nI kq)), (2, .ref (gad G 7)), (15, .int (nI yq))] : List (Nat × Value))) (tgs_y hcb)) ?_
            refine r_lv (lv' := [(13, .long ((tgs (tgc af bf kq) (fun zy => tga af zy * tgb bf kq zy) yq) + (((af yq).toInt64) * ((bf ((yq + 24 - kq) % 24)).toInt64)))), (11, .long ((tgs (tgc af bf kq) (fun zy => tgb bf kq zy * tgb bf kq zy) yq) + (((bf ((yq + 24 - kq) % 24)).toInt64) * ((bf ((yq + 24 - kq) % 24)).toInt64)))), (9, .long ((tgs (tgc af bf kq) (fun zy => tga af zy * tga af zy) yq) + (((af yq).toInt64) * ((af yq).toInt64)))), (7, .long ((tgs (tgc af bf kq) (tgb bf kq) yq) + ((bf ((yq + 24 - kq) % 24)).toInt64))), (5, .long (tgs (tgc af bf kq) (tga af) (yq + 1))), (3, .long (tgs (tgc af bf kq) (fun _ => 1) (yq + 1))), (18, .long ((bf ((yq + 24 - kq) % 24)).toInt64)), (16, .long ((af yq).toInt64)), (0, .ref (gad G 0)), (1, .int (nI kq)), (2, .ref (gad G 7)), (15, .int (nI yq))]) (congrArg (fun zz => ([(13, .long ((tgs (tgc af bf kq) (fun zy => tga af zy * tgb bf kq zy) yq) + (((af yq).toInt64) * ((bf ((yq + 24 - kq) % 24)).toInt64)))), (11, .long ((tgs (tgc af bf kq) (fun zy => tgb bf kq zy * tgb bf kq zy) yq) + (((bf ((yq + 24 - kq) % 24)).toInt64) * ((bf ((yq + 24 - kq) % 24)).toInt64)))), (9, .long ((tgs (tgc af bf kq) (fun zy => tga af zy * tga af zy) yq) + (((af yq).toInt64) * ((af yq).toInt64)))), (7, .long ((tgs (tgc af bf kq) (tgb bf kq) yq) + ((bf ((yq + 24 - kq) % 24)).toInt64))), (5, .long zz), (3, .long (tgs (tgc af bf kq) (fun _ => 1) (yq + 1))), (18, .long ((bf ((yq + 24 - kq) % 24)).toInt64)), (16, .long ((af yq).toInt64)), (0, .ref (gad G 0)), (1, .int (nI kq)), (2, .ref (gad G 7)), (15, .int (nI yq))] : List (Nat × Value))) (tgs_y hcb)) ?_
            refine r_lv (lv' := [(13, .long ((tgs (tgc af bf kq) (fun zy => tga af zy * tgb bf kq zy) yq) + (((af yq).toInt64) * ((bf ((yq + 24 - kq) % 24)).toInt64)))), (11, .long ((tgs (tgc af bf kq) (fun zy => tgb bf kq zy * tgb bf kq zy) yq) + (((bf ((yq + 24 - kq) % 24)).toInt64) * ((bf ((yq + 24 - kq) % 24)).toInt64)))), (9, .long ((tgs (tgc af bf kq) (fun zy => tga af zy * tga af zy) yq) + (((af yq).toInt64) * ((af yq).toInt64)))), (7, .long (tgs (tgc af bf kq) (tgb bf kq) (yq + 1))), (5, .long (tgs (tgc af bf kq) (tga af) (yq + 1))), (3, .long (tgs (tgc af bf kq) (fun _ => 1) (yq + 1))), (18, .long ((bf ((yq + 24 - kq) % 24)).toInt64)), (16, .long ((af yq).toInt64)), (0, .ref (gad G 0)), (1, .int (nI kq)), (2, .ref (gad G 7)), (15, .int (nI yq))]) (congrArg (fun zz => ([(13, .long ((tgs (tgc af bf kq) (fun zy => tga af zy * tgb bf kq zy) yq) + (((af yq).toInt64) * ((bf ((yq + 24 - kq) % 24)).toInt64)))), (11, .long ((tgs (tgc af bf kq) (fun zy => tgb bf kq zy * tgb bf kq zy) yq) + (((bf ((yq + 24 - kq) % 24)).toInt64) * ((bf ((yq + 24 - kq) % 24)).toInt64)))), (9, .long ((tgs (tgc af bf kq) (fun zy => tga af zy * tga af zy) yq) + (((af yq).toInt64) * ((af yq).toInt64)))), (7, .long zz), (5, .long (tgs (tgc af bf kq) (tga af) (yq + 1))), (3, .long (tgs (tgc af bf kq) (fun _ => 1) (yq + 1))), (18, .long ((bf ((yq + 24 - kq) % 24)).toInt64)), (16, .long ((af yq).toInt64)), (0, .ref (gad G 0)), (1, .int (nI kq)), (2, .ref (gad G 7)), (15, .int (nI yq))] : List (Nat × Value))) (tgs_y hcb)) ?_
            refine r_lv (lv' := [(13, .long ((tgs (tgc af bf kq) (fun zy => tga af zy * tgb bf kq zy) yq) + (((af yq).toInt64) * ((bf ((yq + 24 - kq) % 24)).toInt64)))), (11, .long ((tgs (tgc af bf kq) (fun zy => tgb bf kq zy * tgb bf kq zy) yq) + (((bf ((yq + 24 - kq) % 24)).toInt64) * ((bf ((yq + 24 - kq) % 24)).toInt64)))), (9, .long (tgs (tgc af bf kq) (fun zy => tga af zy * tga af zy) (yq + 1))), (7, .long (tgs (tgc af bf kq) (tgb bf kq) (yq + 1))), (5, .long (tgs (tgc af bf kq) (tga af) (yq + 1))), (3, .long (tgs (tgc af bf kq) (fun _ => 1) (yq + 1))), (18, .long ((bf ((yq + 24 - kq) % 24)).toInt64)), (16, .long ((af yq).toInt64)), (0, .ref (gad G 0)), (1, .int (nI kq)), (2, .ref (gad G 7)), (15, .int (nI yq))]) (congrArg (fun zz => ([(13, .long ((tgs (tgc af bf kq) (fun zy => tga af zy * tgb bf kq zy) yq) + (((af yq).toInt64) * ((bf ((yq + 24 - kq) % 24)).toInt64)))), (11, .long ((tgs (tgc af bf kq) (fun zy => tgb bf kq zy * tgb bf kq zy) yq) + (((bf ((yq + 24 - kq) % 24)).toInt64) * ((bf ((yq + 24 - kq) % 24)).toInt64)))), (9, .long zz), (7, .long (tgs (tgc af bf kq) (tgb bf kq) (yq + 1))), (5, .long (tgs (tgc af bf kq) (tga af) (yq + 1))), (3, .long (tgs (tgc af bf kq) (fun _ => 1) (yq + 1))), (18, .long ((bf ((yq + 24 - kq) % 24)).toInt64)), (16, .long ((af yq).toInt64)), (0, .ref (gad G 0)), (1, .int (nI kq)), (2, .ref (gad G 7)), (15, .int (nI yq))] : List (Nat × Value))) (tgs_y hcb)) ?_
            refine r_lv (lv' := [(13, .long ((tgs (tgc af bf kq) (fun zy => tga af zy * tgb bf kq zy) yq) + (((af yq).toInt64) * ((bf ((yq + 24 - kq) % 24)).toInt64)))), (11, .long (tgs (tgc af bf kq) (fun zy => tgb bf kq zy * tgb bf kq zy) (yq + 1))), (9, .long (tgs (tgc af bf kq) (fun zy => tga af zy * tga af zy) (yq + 1))), (7, .long (tgs (tgc af bf kq) (tgb bf kq) (yq + 1))), (5, .long (tgs (tgc af bf kq) (tga af) (yq + 1))), (3, .long (tgs (tgc af bf kq) (fun _ => 1) (yq + 1))), (18, .long ((bf ((yq + 24 - kq) % 24)).toInt64)), (16, .long ((af yq).toInt64)), (0, .ref (gad G 0)), (1, .int (nI kq)), (2, .ref (gad G 7)), (15, .int (nI yq))]) (congrArg (fun zz => ([(13, .long ((tgs (tgc af bf kq) (fun zy => tga af zy * tgb bf kq zy) yq) + (((af yq).toInt64) * ((bf ((yq + 24 - kq) % 24)).toInt64)))), (11, .long zz), (9, .long (tgs (tgc af bf kq) (fun zy => tga af zy * tga af zy) (yq + 1))), (7, .long (tgs (tgc af bf kq) (tgb bf kq) (yq + 1))), (5, .long (tgs (tgc af bf kq) (tga af) (yq + 1))), (3, .long (tgs (tgc af bf kq) (fun _ => 1) (yq + 1))), (18, .long ((bf ((yq + 24 - kq) % 24)).toInt64)), (16, .long ((af yq).toInt64)), (0, .ref (gad G 0)), (1, .int (nI kq)), (2, .ref (gad G 7)), (15, .int (nI yq))] : List (Nat × Value))) (tgs_y hcb)) ?_
            refine r_lv (lv' := [(13, .long (tgs (tgc af bf kq) (fun zy => tga af zy * tgb bf kq zy) (yq + 1))), (11, .long (tgs (tgc af bf kq) (fun zy => tgb bf kq zy * tgb bf kq zy) (yq + 1))), (9, .long (tgs (tgc af bf kq) (fun zy => tga af zy * tga af zy) (yq + 1))), (7, .long (tgs (tgc af bf kq) (tgb bf kq) (yq + 1))), (5, .long (tgs (tgc af bf kq) (tga af) (yq + 1))), (3, .long (tgs (tgc af bf kq) (fun _ => 1) (yq + 1))), (18, .long ((bf ((yq + 24 - kq) % 24)).toInt64)), (16, .long ((af yq).toInt64)), (0, .ref (gad G 0)), (1, .int (nI kq)), (2, .ref (gad G 7)), (15, .int (nI yq))]) (congrArg (fun zz => ([(13, .long zz), (11, .long (tgs (tgc af bf kq) (fun zy => tgb bf kq zy * tgb bf kq zy) (yq + 1))), (9, .long (tgs (tgc af bf kq) (fun zy => tga af zy * tga af zy) (yq + 1))), (7, .long (tgs (tgc af bf kq) (tgb bf kq) (yq + 1))), (5, .long (tgs (tgc af bf kq) (tga af) (yq + 1))), (3, .long (tgs (tgc af bf kq) (fun _ => 1) (yq + 1))), (18, .long ((bf ((yq + 24 - kq) % 24)).toInt64)), (16, .long ((af yq).toInt64)), (0, .ref (gad G 0)), (1, .int (nI kq)), (2, .ref (gad G 7)), (15, .int (nI yq))] : List (Nat × Value))) (tgs_y hcb)) ?_
            refine r_iinc o (v := nI (yq + 1)) (lv' := [(15, .int (nI (yq + 1))), (13, .long (tgs (tgc af bf kq) (fun zy => tga af zy * tgb bf kq zy) (yq + 1))), (11, .long (tgs (tgc af bf kq) (fun zy => tgb bf kq zy * tgb bf kq zy) (yq + 1))), (9, .long (tgs (tgc af bf kq) (fun zy => tga af zy * tga af zy) (yq + 1))), (7, .long (tgs (tgc af bf kq) (tgb bf kq) (yq + 1))), (5, .long (tgs (tgc af bf kq) (tga af) (yq + 1))), (3, .long (tgs (tgc af bf kq) (fun _ => 1) (yq + 1))), (18, .long ((bf ((yq + 24 - kq) % 24)).toInt64)), (16, .long ((af yq).toInt64)), (0, .ref (gad G 0)), (1, .int (nI kq)), (2, .ref (gad G 7))]) dX9_putTogether_127 11 rfl (nI_inc _) (by decide) rfl ?_
            refine r_goto o (tgt := 20) dX9_putTogether_130 (by decide) ?_
            exact r_to rfl [9, 10, 11, 6, 5, 4, 3, 2, 1, 0] rfl (ih20 (yq + 1) (by omega) (by omega))
  exact r_to rfl [7, 8, 9, 6, 5, 4, 3, 2, 1, 0] rfl (L20 _ 0 (by omega) (Nat.lt_succ_self _))
set_option maxHeartbeats 4000000 in
set_option maxRecDepth 100000 in
theorem c_X9_takeTwo (l : Launch) (G : Gl) (σ : Sto) (sn : Nat → Nat) (cntq : Nat) (hp : PadO σ sn cntq) (rq : Nat) (hrq : rq < 6) (sq : Nat) (hsq : sq < 6) (hno : fltF sn cntq 21 0 = none) : CtV l G yX9_takeTwo cX9_takeTwo 3 none 5 111 [.ref (gad G 0), .int (nI rq), .int (nI sq)] σ (fun σ' => (∀ yq, yq < 24 → (σ' 20).1 yq = dlF σ sn cntq rq yq) ∧ (∀ yq, yq < 24 → (σ' 23).1 yq = dlF σ sn cntq sq yq) ∧ keepC σ σ') := by
  refine CtV.of (by decide +kernel) (Nat.le_of_ble_eq_true rfl) (fun X o q => ?_)
  show WS X G 3 σ 0 [(0, .ref (gad G 0)), (1, .int (nI rq)), (2, .int (nI sq))] []
  refine r_aload_n o dX9_takeTwo_0 0 rfl ?_
  refine gf_0_1 o mw_237 dX9_takeTwo_1 ?_
  refine r_aload_n o dX9_takeTwo_4 0 rfl ?_
  refine gf_0_0 o mw_236 dX9_takeTwo_5 ?_
  refine r_iload_n o dX9_takeTwo_8 1 rfl ?_
  refine r_rows o rq rfl (by omega) dX9_takeTwo_9 ?_
  refine r_aload_n o dX9_takeTwo_10 0 rfl ?_
  refine gf_0_2 o mw_238 dX9_takeTwo_11 ?_
  refine gfN_2_0 o mw_83 dX9_takeTwo_14 ?_
  refine r_callVV o (As := [.ref (gad G (13 + rq)), .ref (gad G 20)]) (st := []) (c_X5_deal_20 (xl X) G σ sn cntq hp rq hrq ((σ (13 + rq)).1) rfl ((σ 20).1) rfl hno) om_X5_deal mw_346 mw_347 mw_345 (by decide) rfl rfl rfl (by decide) rfl rfl (Nat.le_of_ble_eq_true rfl) dX9_takeTwo_17 (fun σσ17 hp17 => ?_)
  replace hp17 := Eq.symm hp17; subst hp17
  refine r_aload_n o dX9_takeTwo_20 0 rfl ?_
  refine gf_0_1 o mw_237 dX9_takeTwo_21 ?_
  refine r_aload_n o dX9_takeTwo_24 0 rfl ?_
  refine gf_0_0 o mw_236 dX9_takeTwo_25 ?_
  refine r_iload_n o dX9_takeTwo_28 2 rfl ?_
  refine r_rows o sq rfl (by omega) dX9_takeTwo_29 ?_
  refine r_aload_n o dX9_takeTwo_30 0 rfl ?_
  refine gf_0_3 o mw_239 dX9_takeTwo_31 ?_
  refine gfN_3_0 o mw_83 dX9_takeTwo_34 ?_
  refine r_callVV o (As := [.ref (gad G (13 + sq)), .ref (gad G 23)]) (st := []) (c_X5_deal_23 (xl X) G (sta σ 20 (dealW sn cntq 21 0 (mix ((σ (13 + rq)).1) ((σ 20).1) 0 24))) sn cntq hp sq hsq ((σ (13 + sq)).1) (by rw [sta_ne (by omega)]) ((σ 23).1) rfl hno) om_X5_deal mw_346 mw_347 mw_345 (by decide) rfl rfl rfl (by decide) rfl rfl (Nat.le_of_ble_eq_true rfl) dX9_takeTwo_37 (fun σσ37 hp37 => ?_)
  replace hp37 := Eq.symm hp37; subst hp37
  exact r_return o q dX9_takeTwo_40 (⟨fun yq hy => ag_deal 21 0 (fun zq hz => mix_in (Nat.zero_le _) hz) yq hy, fun yq hy => ag_deal 21 0 (fun zq hz => mix_in (Nat.zero_le _) hz) yq hy, fun cz hcz => by unfold scrC at hcz; rw [sta_ne (by omega), sta_ne (by omega)]⟩)
set_option maxHeartbeats 4000000 in
set_option maxRecDepth 100000 in
theorem c_X9_topsOf (l : Launch) (G : Gl) (σ : Sto) (rq : Nat) (hrq : rq < 4096) (nq : Nat) (hnq : 3 ≤ nq ∧ nq ≤ 12) (mq : Nat) (hmq : 1 ≤ mq ∧ mq ≤ 5) : CtI l G yX9_topsOf cX9_topsOf 7 (some .int) 1 20 [.int (nI rq), .int (nI nq), .int (nI mq)] σ (fun r σ' => r = nI (topN nq mq rq) ∧ σ' = σ) := by
  refine CtI.of (by decide +kernel) (Nat.le_of_ble_eq_true rfl) (fun X o q => ?_)
  show WS X G 7 σ 0 [(0, .int (nI rq)), (1, .int (nI nq)), (2, .int (nI mq))] []
  have hp1 : 2 ^ mq ≤ 32 := pow_le2 (jq := 5) hmq.2
  have hp2 : 2 ^ (nq - 1) ≤ 2048 := pow_le2 (jq := 11) (by omega)
  have hp3 : 1 ≤ 2 ^ (nq - 1) := Nat.one_le_two_pow
  have hlf : rq * 2 ^ mq < 2 ^ 20 := Nat.lt_of_le_of_lt (Nat.mul_le_mul_left rq hp1) (by omega)
  have hnd1 : ndiff rq (rq * 2 ^ mq) < 2 ^ 20 := ndiff_lt (by omega)
  have hnd2 : ndiff (rq * 2 ^ mq) rq < 2 ^ 20 := ndiff_lt hlf
  refine r_iload_n o dX9_topsOf_0 0 rfl ?_
  refine r_iload_n o dX9_topsOf_1 2 rfl ?_
  refine r_ishl o dX9_topsOf_2 ?_
  refine r_topi (y := nI (rq * 2 ^ mq)) (nI_shl (by omega)) ?_
  refine r_istore_n o (lv' := [(3, .int (nI (rq * 2 ^ mq))), (0, .int (nI rq)), (1, .int (nI nq)), (2, .int (nI mq))]) dX9_topsOf_3 (by decide) rfl ?_
  refine r_iload_n o dX9_topsOf_4 1 rfl ?_
  refine r_iload_n o dX9_topsOf_5 0 rfl ?_
  refine r_iconst o (v := (-1)) dX9_topsOf_6 (by decide) ?_
  refine r_ixor o dX9_topsOf_7 ?_
  refine r_iand o dX9_topsOf_8 ?_
  refine r_topi (y := nI (ndiff rq (rq * 2 ^ mq))) nI_ndiff ?_
  refine r_istore o (lv' := [(4, .int (nI (ndiff rq (rq * 2 ^ mq)))), (3, .int (nI (rq * 2 ^ mq))), (0, .int (nI rq)), (1, .int (nI nq)), (2, .int (nI mq))]) dX9_topsOf_9 (by decide) rfl ?_
  refine r_iload_n o dX9_topsOf_11 1 rfl ?_
  refine r_iload_n o dX9_topsOf_12 2 rfl ?_
  refine r_iconst o (v := (-1)) dX9_topsOf_13 (by decide) ?_
  refine r_ixor o dX9_topsOf_14 ?_
  refine r_iand o dX9_topsOf_15 ?_
  refine r_topi (y := nI (ndiff (rq * 2 ^ mq) rq)) nI_ndiff ?_
  refine r_istore o (lv' := [(5, .int (nI (ndiff (rq * 2 ^ mq) rq))), (4, .int (nI (ndiff rq (rq * 2 ^ mq)))), (3, .int (nI (rq * 2 ^ mq))), (0, .int (nI rq)), (1, .int (nI nq)), (2, .int (nI mq))]) dX9_topsOf_16 (by decide) rfl ?_
  refine r_iconst o (v := nI 1) dX9_topsOf_18 (by decide) ?_
  refine r_iload_n o dX9_topsOf_19 4 rfl ?_
  refine r_iconst o (v := nI 1) dX9_topsOf_20 (by decide) ?_
  refine r_isub o dX9_topsOf_21 ?_
  refine r_topi (y := nI (nq - 1)) (nI_sub' (by omega)) ?_
  refine r_ishl o dX9_topsOf_22 ?_
  refine r_topi (y := nI (1 * 2 ^ (nq - 1))) (nI_shl (by omega)) ?_
  refine r_iconst o (v := nI 1) dX9_topsOf_23 (by decide) ?_
  refine r_isub o dX9_topsOf_24 ?_
  refine r_topi (y := nI ((1 * 2 ^ (nq - 1)) - 1)) (nI_sub' (by omega)) ?_
  refine r_iconst o (v := nI 1) dX9_topsOf_25 (by decide) ?_
  refine r_iload_n o dX9_topsOf_26 5 rfl ?_
  refine r_ishl o dX9_topsOf_27 ?_
  refine r_topi (y := nI (1 * 2 ^ mq)) (nI_shl (by omega)) ?_
  refine r_ineg o dX9_topsOf_28 ?_
  refine r_iand o dX9_topsOf_29 ?_
  refine r_topi (y := nI (ndiff (1 * 2 ^ (nq - 1) - 1) (2 ^ mq - 1))) (nI_notP hmq.2) ?_
  refine r_istore o (lv' := [(6, .int (nI (ndiff (1 * 2 ^ (nq - 1) - 1) (2 ^ mq - 1)))), (5, .int (nI (ndiff (rq * 2 ^ mq) rq))), (4, .int (nI (ndiff rq (rq * 2 ^ mq)))), (3, .int (nI (rq * 2 ^ mq))), (0, .int (nI rq)), (1, .int (nI nq)), (2, .int (nI mq))]) dX9_topsOf_30 (by decide) rfl ?_
  refine r_iload o dX9_topsOf_32 2 rfl ?_
  refine r_iload o dX9_topsOf_34 1 rfl ?_
  refine r_iconst o (v := nI 1) dX9_topsOf_36 (by decide) ?_
  refine r_ishr o dX9_topsOf_37 ?_
  refine r_topi (y := nI ((ndiff (rq * 2 ^ mq) rq) / 2 ^ 1)) (nI_shr (by omega) (by omega)) ?_
  refine r_iand o dX9_topsOf_38 ?_
  refine r_topi (y := nI ((ndiff rq (rq * 2 ^ mq)) &&& ((ndiff (rq * 2 ^ mq) rq) / 2 ^ 1))) (nI_and _ _) ?_
  refine r_iload o dX9_topsOf_39 0 rfl ?_
  refine r_iand o dX9_topsOf_41 ?_
  refine r_topi (y := nI (((ndiff rq (rq * 2 ^ mq)) &&& ((ndiff (rq * 2 ^ mq) rq) / 2 ^ 1)) &&& (ndiff (1 * 2 ^ (nq - 1) - 1) (2 ^ mq - 1)))) (nI_and _ _) ?_
  refine r_callSI o (As := [.int (nI (((ndiff rq (rq * 2 ^ mq)) &&& ((ndiff (rq * 2 ^ mq) rq) / 2 ^ 1)) &&& (ndiff (1 * 2 ^ (nq - 1) - 1) (2 ^ mq - 1))))]) (st := []) (c_J6_bitCount_0f7a4 (xl X) G σ ((ndiff rq (rq * 2 ^ mq) &&& ndiff (rq * 2 ^ mq) rq / 2 ^ 1) &&& ndiff (1 * 2 ^ (nq - 1) - 1) (2 ^ mq - 1)) (Nat.lt_of_le_of_lt (Nat.le_trans Nat.and_le_left Nat.and_le_left) hnd1)) om_J6_bitCount_0f7a4 mw_529 mw_528 (by decide) rfl rfl (Nat.le_of_ble_eq_true rfl) dX9_topsOf_42 (fun rr42 σσ42 hp42 => ?_)
  obtain ⟨hp42, hp42b⟩ := hp42; replace hp42 := Eq.symm hp42; replace hp42b := Eq.symm hp42b; subst hp42; subst hp42b
  exact r_ireturn o q dX9_topsOf_45 (⟨by unfold topN; rw [Nat.one_mul], rfl⟩)
set_option maxHeartbeats 4000000 in
set_option maxRecDepth 100000 in
theorem c_X9_found (l : Launch) (G : Gl) (σ : Sto) (sn : Nat → Nat) (cntq : Nat) (hp : PadO σ sn cntq) (rz : Int32) (yz : Int32) (wz : Int32) : CtI l G yX9_found cX9_found 5 (some .int) 7 157 [.ref (gad G 0), .int rz, .int yz, .int wz] σ (fun r σ' => r = (if refI (inB (nI 0) (nI 5) rz) (inB (nI 4) (nI 22) yz && inB (nI 0) (nI 2) wz) (fltF sn cntq 21 0) = 0 then (if wz = 0 then nI (fgS (yeF (dlF σ sn cntq rz.toNatClampNeg) yz.toNatClampNeg) (gcnt (dlF σ sn cntq rz.toNatClampNeg) yz.toNatClampNeg) (nuF (dlF σ sn cntq rz.toNatClampNeg) yz.toNatClampNeg) 2 11).1 else if wz = nI 1 then nI (lkS (yeF (dlF σ sn cntq rz.toNatClampNeg) yz.toNatClampNeg) (gcnt (dlF σ sn cntq rz.toNatClampNeg) yz.toNatClampNeg) (fgS (yeF (dlF σ sn cntq rz.toNatClampNeg) yz.toNatClampNeg) (gcnt (dlF σ sn cntq rz.toNatClampNeg) yz.toNatClampNeg) (nuF (dlF σ sn cntq rz.toNatClampNeg) yz.toNatClampNeg) 2 11).1 (nuF (dlF σ sn cntq rz.toNatClampNeg) yz.toNatClampNeg) (dlF σ sn cntq rz.toNatClampNeg) yz.toNatClampNeg (24 - yz.toNatClampNeg)).1 else nI (lkS (yeF (dlF σ sn cntq rz.toNatClampNeg) yz.toNatClampNeg) (gcnt (dlF σ sn cntq rz.toNatClampNeg) yz.toNatClampNeg) (fgS (yeF (dlF σ sn cntq rz.toNatClampNeg) yz.toNatClampNeg) (gcnt (dlF σ sn cntq rz.toNatClampNeg) yz.toNatClampNeg) (nuF (dlF σ sn cntq rz.toNatClampNeg) yz.toNatClampNeg) 2 11).1 (nuF (dlF σ sn cntq rz.toNatClampNeg) yz.toNatClampNeg) (dlF σ sn cntq rz.toNatClampNeg) yz.toNatClampNeg (24 - yz.toNatClampNeg)).2) else refI (inB (nI 0) (nI 5) rz) (inB (nI 4) (nI 22) yz && inB (nI 0) (nI 2) wz) (fltF sn cntq 21 0)) ∧ keepC σ σ') := by
  refine CtI.of (by decide +kernel) (Nat.le_of_ble_eq_true rfl) (fun X o q => ?_)
  show WS X G 5 σ 0 [(0, .ref (gad G 0)), (1, .int rz), (2, .int yz), (3, .int wz)] []
  obtain ⟨hcq, hcnt, hsg, hsn⟩ := id hp
  refine r_aload_n o dX9_found_0 0 rfl ?_
  refine r_iload_n o dX9_found_1 1 rfl ?_
  refine r_callSI o (As := [.int rz]) (st := [.ref (gad G 0)]) (c_X9_isRow (xl X) G σ rz) om_X9_isRow mw_275 mw_274 (by decide) rfl rfl (Nat.le_of_ble_eq_true rfl) dX9_found_2 (fun rr2 σσ2 hp2 => ?_)
  obtain ⟨hp2, hp2b⟩ := hp2; replace hp2 := Eq.symm hp2; replace hp2b := Eq.symm hp2b; subst hp2; subst hp2b
  refine r_iload_n o dX9_found_5 2 rfl ?_
  refine r_callSI o (As := [.int yz]) (st := [.int (b01 (inB (nI 0) (nI 5) rz)), .ref (gad G 0)]) (c_X9_isDivide (xl X) G σ yz) om_X9_isDivide mw_539 mw_538 (by decide) rfl rfl (Nat.le_of_ble_eq_true rfl) dX9_found_6 (fun rr6 σσ6 hp6 => ?_)
  obtain ⟨hp6, hp6b⟩ := hp6; replace hp6 := Eq.symm hp6; replace hp6b := Eq.symm hp6b; subst hp6; subst hp6b
  refine r_if_eq o (tgt := 25) dX9_found_9 (by decide) (fun hb9 => ?_) (fun hb9 => ?_)
  · skip
    rw [b01_eq0] at hb9
    refine r_iconst o (v := nI 0) dX9_found_25 (by decide) ?_
    refine r_topi (y := b01 (inB (nI 4) (nI 22) yz && inB (nI 0) (nI 2) wz)) (by first | (rw [hb9]; rfl) | (rw [hb18, Bool.and_false]; rfl) | (rw [hb9, hb18]; rfl)) ?_
    refine r_callVI o (As := [.int (b01 (inB (nI 0) (nI 5) rz)), .int (b01 (inB (nI 4) (nI 22) yz && inB (nI 0) (nI 2) wz))]) (st := []) (c_X9_refusalOf (xl X) G σ sn cntq hp (inB (nI 0) (nI 5) rz) (inB (nI 4) (nI 22) yz && inB (nI 0) (nI 2) wz)) om_X9_refusalOf mw_343 mw_4 mw_341 (by decide) rfl rfl rfl (by decide) rfl rfl (Nat.le_of_ble_eq_true rfl) dX9_found_26 (fun rr26 σσ26 hp26 => ?_)
    obtain ⟨hp26, hp26b⟩ := hp26; replace hp26 := Eq.symm hp26; replace hp26b := Eq.symm hp26b; subst hp26; subst hp26b
    refine r_istore o (lv' := [(4, .int (refI (inB (nI 0) (nI 5) rz) (inB (nI 4) (nI 22) yz && inB (nI 0) (nI 2) wz) (fltF sn cntq 21 0))), (0, .ref (gad G 0)), (1, .int rz), (2, .int yz), (3, .int wz)]) dX9_found_29 (by decide) rfl ?_
    refine r_iload o dX9_found_31 0 rfl ?_
    refine r_if_eq o (tgt := 39) dX9_found_33 (by decide) (fun hb33 => ?_) (fun hb33 => ?_)
    · skip
      obtain ⟨hk1, hk2, hno⟩ := refI_z hb33
      obtain ⟨hr1, hr2⟩ := inB_nI (n := 5) (by decide) hk1
      rw [Bool.and_eq_true] at hk2
      obtain ⟨hy1, hy2⟩ := inB_nI (n := 22) (by decide) (inB_wk hk2.1)
      have hy3 := inB_ge hk2.1
      refine r_lv (lv' := [(4, .int (refI (inB (nI 0) (nI 5) rz) (inB (nI 4) (nI 22) yz && inB (nI 0) (nI 2) wz) (fltF sn cntq 21 0))), (0, .ref (gad G 0)), (1, .int (nI rz.toNatClampNeg)), (2, .int yz), (3, .int wz)]) (congrArg (fun zz => ([(4, .int (refI (inB (nI 0) (nI 5) rz) (inB (nI 4) (nI 22) yz && inB (nI 0) (nI 2) wz) (fltF sn cntq 21 0))), (0, .ref (gad G 0)), (1, .int zz), (2, .int yz), (3, .int wz)] : List (Nat × Value))) (hr1)) ?_
      refine r_lv (lv' := [(4, .int (refI (inB (nI 0) (nI 5) rz) (inB (nI 4) (nI 22) yz && inB (nI 0) (nI 2) wz) (fltF sn cntq 21 0))), (0, .ref (gad G 0)), (1, .int (nI rz.toNatClampNeg)), (2, .int (nI yz.toNatClampNeg)), (3, .int wz)]) (congrArg (fun zz => ([(4, .int (refI (inB (nI 0) (nI 5) rz) (inB (nI 4) (nI 22) yz && inB (nI 0) (nI 2) wz) (fltF sn cntq 21 0))), (0, .ref (gad G 0)), (1, .int (nI rz.toNatClampNeg)), (2, .int zz), (3, .int wz)] : List (Nat × Value))) (hy1)) ?_
      refine r_aload_n o dX9_found_39 1 rfl ?_
      refine r_iload_n o dX9_found_40 2 rfl ?_
      refine r_iload_n o dX9_found_41 3 rfl ?_
      refine r_callVV o (As := [.int (nI rz.toNatClampNeg), .int (nI yz.toNatClampNeg)]) (st := []) (c_X9_lookLater (xl X) G σ sn cntq hp rz.toNatClampNeg (by omega) yz.toNatClampNeg (by omega) hno) om_X9_lookLater mw_543 mw_13 mw_541 (by decide) rfl rfl rfl (by decide) rfl rfl (Nat.le_of_ble_eq_true rfl) dX9_found_42 (fun σσ42 hp42 => ?_)
      obtain ⟨h60, h61, h62, hkp⟩ := hp42
      refine r_iload_n o dX9_found_45 4 rfl ?_
      refine r_if_ne o (tgt := 57) dX9_found_46 (by decide) (fun hb46 => ?_) (fun hb46 => ?_)
      · skip
        refine r_iload_n o dX9_found_57 4 rfl ?_
        refine r_iconst o (v := nI 1) dX9_found_58 (by decide) ?_
        refine r_icmp_ne o (tgt := 72) dX9_found_59 (by decide) (fun hb59 => ?_) (fun hb59 => ?_)
        · skip
          refine r_aload_n o dX9_found_72 1 rfl ?_
          refine gf_0_6 o mw_242 dX9_found_73 ?_
          refine gfN_6_2 o (v := nI ((lkS (yeF (dlF σ sn cntq rz.toNatClampNeg) yz.toNatClampNeg) (gcnt (dlF σ sn cntq rz.toNatClampNeg) yz.toNatClampNeg) (fgS (yeF (dlF σ sn cntq rz.toNatClampNeg) yz.toNatClampNeg) (gcnt (dlF σ sn cntq rz.toNatClampNeg) yz.toNatClampNeg) (nuF (dlF σ sn cntq rz.toNatClampNeg) yz.toNatClampNeg) 2 11).1 (nuF (dlF σ sn cntq rz.toNatClampNeg) yz.toNatClampNeg) (dlF σ sn cntq rz.toNatClampNeg) yz.toNatClampNeg (24 - yz.toNatClampNeg)).2)) h62 mw_167 dX9_found_76 ?_
          exact r_ireturn o q dX9_found_79 (⟨by first | exact ((if_pos hb33).trans ((if_neg hb46).trans (if_pos hb59))).symm | exact ((if_pos hb33).trans ((if_neg hb46).trans (if_neg hb59))).symm, hkp⟩)
        · skip
          refine r_aload_n o dX9_found_62 1 rfl ?_
          refine gf_0_6 o mw_242 dX9_found_63 ?_
          refine gfN_6_1 o (v := nI ((lkS (yeF (dlF σ sn cntq rz.toNatClampNeg) yz.toNatClampNeg) (gcnt (dlF σ sn cntq rz.toNatClampNeg) yz.toNatClampNeg) (fgS (yeF (dlF σ sn cntq rz.toNatClampNeg) yz.toNatClampNeg) (gcnt (dlF σ sn cntq rz.toNatClampNeg) yz.toNatClampNeg) (nuF (dlF σ sn cntq rz.toNatClampNeg) yz.toNatClampNeg) 2 11).1 (nuF (dlF σ sn cntq rz.toNatClampNeg) yz.toNatClampNeg) (dlF σ sn cntq rz.toNatClampNeg) yz.toNatClampNeg (24 - yz.toNatClampNeg)).1)) h61 mw_165 dX9_found_66 ?_
          refine r_goto o (tgt := 79) dX9_found_69 (by decide) ?_
          exact r_ireturn o q dX9_found_79 (⟨by first | exact ((if_pos hb33).trans ((if_neg hb46).trans (if_pos hb59))).symm | exact ((if_pos hb33).trans ((if_neg hb46).trans (if_neg hb59))).symm, hkp⟩)
      · skip
        refine r_aload_n o dX9_found_49 1 rfl ?_
        refine gf_0_6 o mw_242 dX9_found_50 ?_
        refine gfN_6_0 o (v := nI ((fgS (yeF (dlF σ sn cntq rz.toNatClampNeg) yz.toNatClampNeg) (gcnt (dlF σ sn cntq rz.toNatClampNeg) yz.toNatClampNeg) (nuF (dlF σ sn cntq rz.toNatClampNeg) yz.toNatClampNeg) 2 11).1)) h60 mw_163 dX9_found_53 ?_
        exact r_ireturn o q dX9_found_56 (⟨((if_pos hb33).trans (if_pos hb46)).symm, hkp⟩)
    · skip
      refine r_iload o dX9_found_36 0 rfl ?_
      exact r_ireturn o q dX9_found_38 (⟨by rw [if_neg hb33], fun _ _ => rfl⟩)
  · skip
    rw [b01_ne0] at hb9
    refine r_iload_n o dX9_found_12 3 rfl ?_
    refine r_iconst o (v := nI 0) dX9_found_13 (by decide) ?_
    refine r_iconst o (v := nI 2) dX9_found_14 (by decide) ?_
    refine r_callSI o (As := [.int wz, .int (nI 0), .int (nI 2)]) (st := [.int (b01 (inB (nI 0) (nI 5) rz)), .ref (gad G 0)]) (c_X9_isWithin (xl X) G σ wz (nI 0) (nI 2)) om_X9_isWithin mw_278 mw_277 (by decide) rfl rfl (Nat.le_of_ble_eq_true rfl) dX9_found_15 (fun rr15 σσ15 hp15 => ?_)
    obtain ⟨hp15, hp15b⟩ := hp15; replace hp15 := Eq.symm hp15; replace hp15b := Eq.symm hp15b; subst hp15; subst hp15b
    refine r_if_eq o (tgt := 25) dX9_found_18 (by decide) (fun hb18 => ?_) (fun hb18 => ?_)
    · skip
      rw [b01_eq0] at hb18
      refine r_iconst o (v := nI 0) dX9_found_25 (by decide) ?_
      refine r_topi (y := b01 (inB (nI 4) (nI 22) yz && inB (nI 0) (nI 2) wz)) (by first | (rw [hb9]; rfl) | (rw [hb18, Bool.and_false]; rfl) | (rw [hb9, hb18]; rfl)) ?_
      refine r_callVI o (As := [.int (b01 (inB (nI 0) (nI 5) rz)), .int (b01 (inB (nI 4) (nI 22) yz && inB (nI 0) (nI 2) wz))]) (st := []) (c_X9_refusalOf (xl X) G σ sn cntq hp (inB (nI 0) (nI 5) rz) (inB (nI 4) (nI 22) yz && inB (nI 0) (nI 2) wz)) om_X9_refusalOf mw_343 mw_4 mw_341 (by decide) rfl rfl rfl (by decide) rfl rfl (Nat.le_of_ble_eq_true rfl) dX9_found_26 (fun rr26 σσ26 hp26 => ?_)
      obtain ⟨hp26, hp26b⟩ := hp26; replace hp26 := Eq.symm hp26; replace hp26b := Eq.symm hp26b; subst hp26; subst hp26b
      refine r_istore o (lv' := [(4, .int (refI (inB (nI 0) (nI 5) rz) (inB (nI 4) (nI 22) yz && inB (nI 0) (nI 2) wz) (fltF sn cntq 21 0))), (0, .ref (gad G 0)), (1, .int rz), (2, .int yz), (3, .int wz)]) dX9_found_29 (by decide) rfl ?_
      refine r_iload o dX9_found_31 0 rfl ?_
      refine r_if_eq o (tgt := 39) dX9_found_33 (by decide) (fun hb33 => ?_) (fun hb33 => ?_)
      · skip
        obtain ⟨hk1, hk2, hno⟩ := refI_z hb33
        obtain ⟨hr1, hr2⟩ := inB_nI (n := 5) (by decide) hk1
        rw [Bool.and_eq_true] at hk2
        obtain ⟨hy1, hy2⟩ := inB_nI (n := 22) (by decide) (inB_wk hk2.1)
        have hy3 := inB_ge hk2.1
        refine r_lv (lv' := [(4, .int (refI (inB (nI 0) (nI 5) rz) (inB (nI 4) (nI 22) yz && inB (nI 0) (nI 2) wz) (fltF sn cntq 21 0))), (0, .ref (gad G 0)), (1, .int (nI rz.toNatClampNeg)), (2, .int yz), (3, .int wz)]) (congrArg (fun zz => ([(4, .int (refI (inB (nI 0) (nI 5) rz) (inB (nI 4) (nI 22) yz && inB (nI 0) (nI 2) wz) (fltF sn cntq 21 0))), (0, .ref (gad G 0)), (1, .int zz), (2, .int yz), (3, .int wz)] : List (Nat × Value))) (hr1)) ?_
        refine r_lv (lv' := [(4, .int (refI (inB (nI 0) (nI 5) rz) (inB (nI 4) (nI 22) yz && inB (nI 0) (nI 2) wz) (fltF sn cntq 21 0))), (0, .ref (gad G 0)), (1, .int (nI rz.toNatClampNeg)), (2, .int (nI yz.toNatClampNeg)), (3, .int wz)]) (congrArg (fun zz => ([(4, .int (refI (inB (nI 0) (nI 5) rz) (inB (nI 4) (nI 22) yz && inB (nI 0) (nI 2) wz) (fltF sn cntq 21 0))), (0, .ref (gad G 0)), (1, .int (nI rz.toNatClampNeg)), (2, .int zz), (3, .int wz)] : List (Nat × Value))) (hy1)) ?_
        refine r_aload_n o dX9_found_39 1 rfl ?_
        refine r_iload_n o dX9_found_40 2 rfl ?_
        refine r_iload_n o dX9_found_41 3 rfl ?_
        refine r_callVV o (As := [.int (nI rz.toNatClampNeg), .int (nI yz.toNatClampNeg)]) (st := []) (c_X9_lookLater (xl X) G σ sn cntq hp rz.toNatClampNeg (by omega) yz.toNatClampNeg (by omega) hno) om_X9_lookLater mw_543 mw_13 mw_541 (by decide) rfl rfl rfl (by decide) rfl rfl (Nat.le_of_ble_eq_true rfl) dX9_found_42 (fun σσ42 hp42 => ?_)
        obtain ⟨h60, h61, h62, hkp⟩ := hp42
        refine r_iload_n o dX9_found_45 4 rfl ?_
        refine r_if_ne o (tgt := 57) dX9_found_46 (by decide) (fun hb46 => ?_) (fun hb46 => ?_)
        · skip
          refine r_iload_n o dX9_found_57 4 rfl ?_
          refine r_iconst o (v := nI 1) dX9_found_58 (by decide) ?_
          refine r_icmp_ne o (tgt := 72) dX9_found_59 (by decide) (fun hb59 => ?_) (fun hb59 => ?_)
          · skip
            refine r_aload_n o dX9_found_72 1 rfl ?_
            refine gf_0_6 o mw_242 dX9_found_73 ?_
            refine gfN_6_2 o (v := nI ((lkS (yeF (dlF σ sn cntq rz.toNatClampNeg) yz.toNatClampNeg) (gcnt (dlF σ sn cntq rz.toNatClampNeg) yz.toNatClampNeg) (fgS (yeF (dlF σ sn cntq rz.toNatClampNeg) yz.toNatClampNeg) (gcnt (dlF σ sn cntq rz.toNatClampNeg) yz.toNatClampNeg) (nuF (dlF σ sn cntq rz.toNatClampNeg) yz.toNatClampNeg) 2 11).1 (nuF (dlF σ sn cntq rz.toNatClampNeg) yz.toNatClampNeg) (dlF σ sn cntq rz.toNatClampNeg) yz.toNatClampNeg (24 - yz.toNatClampNeg)).2)) h62 mw_167 dX9_found_76 ?_
            exact r_ireturn o q dX9_found_79 (⟨by first | exact ((if_pos hb33).trans ((if_neg hb46).trans (if_pos hb59))).symm | exact ((if_pos hb33).trans ((if_neg hb46).trans (if_neg hb59))).symm, hkp⟩)
          · skip
            refine r_aload_n o dX9_found_62 1 rfl ?_
            refine gf_0_6 o mw_242 dX9_found_63 ?_
            refine gfN_6_1 o (v := nI ((lkS (yeF (dlF σ sn cntq rz.toNatClampNeg) yz.toNatClampNeg) (gcnt (dlF σ sn cntq rz.toNatClampNeg) yz.toNatClampNeg) (fgS (yeF (dlF σ sn cntq rz.toNatClampNeg) yz.toNatClampNeg) (gcnt (dlF σ sn cntq rz.toNatClampNeg) yz.toNatClampNeg) (nuF (dlF σ sn cntq rz.toNatClampNeg) yz.toNatClampNeg) 2 11).1 (nuF (dlF σ sn cntq rz.toNatClampNeg) yz.toNatClampNeg) (dlF σ sn cntq rz.toNatClampNeg) yz.toNatClampNeg (24 - yz.toNatClampNeg)).1)) h61 mw_165 dX9_found_66 ?_
            refine r_goto o (tgt := 79) dX9_found_69 (by decide) ?_
            exact r_ireturn o q dX9_found_79 (⟨by first | exact ((if_pos hb33).trans ((if_neg hb46).trans (if_pos hb59))).symm | exact ((if_pos hb33).trans ((if_neg hb46).trans (if_neg hb59))).symm, hkp⟩)
        · skip
          refine r_aload_n o dX9_found_49 1 rfl ?_
          refine gf_0_6 o mw_242 dX9_found_50 ?_
          refine gfN_6_0 o (v := nI ((fgS (yeF (dlF σ sn cntq rz.toNatClampNeg) yz.toNatClampNeg) (gcnt (dlF σ sn cntq rz.toNatClampNeg) yz.toNatClampNeg) (nuF (dlF σ sn cntq rz.toNatClampNeg) yz.toNatClampNeg) 2 11).1)) h60 mw_163 dX9_found_53 ?_
          exact r_ireturn o q dX9_found_56 (⟨((if_pos hb33).trans (if_pos hb46)).symm, hkp⟩)
      · skip
        refine r_iload o dX9_found_36 0 rfl ?_
        exact r_ireturn o q dX9_found_38 (⟨by rw [if_neg hb33], fun _ _ => rfl⟩)
    · skip
      rw [b01_ne0] at hb18
      refine r_iconst o (v := nI 1) dX9_found_21 (by decide) ?_
      refine r_goto o (tgt := 26) dX9_found_22 (by decide) ?_
      refine r_topi (y := b01 (inB (nI 4) (nI 22) yz && inB (nI 0) (nI 2) wz)) (by first | (rw [hb9]; rfl) | (rw [hb18, Bool.and_false]; rfl) | (rw [hb9, hb18]; rfl)) ?_
      refine r_callVI o (As := [.int (b01 (inB (nI 0) (nI 5) rz)), .int (b01 (inB (nI 4) (nI 22) yz && inB (nI 0) (nI 2) wz))]) (st := []) (c_X9_refusalOf (xl X) G σ sn cntq hp (inB (nI 0) (nI 5) rz) (inB (nI 4) (nI 22) yz && inB (nI 0) (nI 2) wz)) om_X9_refusalOf mw_343 mw_4 mw_341 (by decide) rfl rfl rfl (by decide) rfl rfl (Nat.le_of_ble_eq_true rfl) dX9_found_26 (fun rr26 σσ26 hp26 => ?_)
      obtain ⟨hp26, hp26b⟩ := hp26; replace hp26 := Eq.symm hp26; replace hp26b := Eq.symm hp26b; subst hp26; subst hp26b
      refine r_istore o (lv' := [(4, .int (refI (inB (nI 0) (nI 5) rz) (inB (nI 4) (nI 22) yz && inB (nI 0) (nI 2) wz) (fltF sn cntq 21 0))), (0, .ref (gad G 0)), (1, .int rz), (2, .int yz), (3, .int wz)]) dX9_found_29 (by decide) rfl ?_
      refine r_iload o dX9_found_31 0 rfl ?_
      refine r_if_eq o (tgt := 39) dX9_found_33 (by decide) (fun hb33 => ?_) (fun hb33 => ?_)
      · skip
        obtain ⟨hk1, hk2, hno⟩ := refI_z hb33
        obtain ⟨hr1, hr2⟩ := inB_nI (n := 5) (by decide) hk1
        rw [Bool.and_eq_true] at hk2
        obtain ⟨hy1, hy2⟩ := inB_nI (n := 22) (by decide) (inB_wk hk2.1)
        have hy3 := inB_ge hk2.1
        refine r_lv (lv' := [(4, .int (refI (inB (nI 0) (nI 5) rz) (inB (nI 4) (nI 22) yz && inB (nI 0) (nI 2) wz) (fltF sn cntq 21 0))), (0, .ref (gad G 0)), (1, .int (nI rz.toNatClampNeg)), (2, .int yz), (3, .int wz)]) (congrArg (fun zz => ([(4, .int (refI (inB (nI 0) (nI 5) rz) (inB (nI 4) (nI 22) yz && inB (nI 0) (nI 2) wz) (fltF sn cntq 21 0))), (0, .ref (gad G 0)), (1, .int zz), (2, .int yz), (3, .int wz)] : List (Nat × Value))) (hr1)) ?_
        refine r_lv (lv' := [(4, .int (refI (inB (nI 0) (nI 5) rz) (inB (nI 4) (nI 22) yz && inB (nI 0) (nI 2) wz) (fltF sn cntq 21 0))), (0, .ref (gad G 0)), (1, .int (nI rz.toNatClampNeg)), (2, .int (nI yz.toNatClampNeg)), (3, .int wz)]) (congrArg (fun zz => ([(4, .int (refI (inB (nI 0) (nI 5) rz) (inB (nI 4) (nI 22) yz && inB (nI 0) (nI 2) wz) (fltF sn cntq 21 0))), (0, .ref (gad G 0)), (1, .int (nI rz.toNatClampNeg)), (2, .int zz), (3, .int wz)] : List (Nat × Value))) (hy1)) ?_
        refine r_aload_n o dX9_found_39 1 rfl ?_
        refine r_iload_n o dX9_found_40 2 rfl ?_
        refine r_iload_n o dX9_found_41 3 rfl ?_
        refine r_callVV o (As := [.int (nI rz.toNatClampNeg), .int (nI yz.toNatClampNeg)]) (st := []) (c_X9_lookLater (xl X) G σ sn cntq hp rz.toNatClampNeg (by omega) yz.toNatClampNeg (by omega) hno) om_X9_lookLater mw_543 mw_13 mw_541 (by decide) rfl rfl rfl (by decide) rfl rfl (Nat.le_of_ble_eq_true rfl) dX9_found_42 (fun σσ42 hp42 => ?_)
        obtain ⟨h60, h61, h62, hkp⟩ := hp42
        refine r_iload_n o dX9_found_45 4 rfl ?_
        refine r_if_ne o (tgt := 57) dX9_found_46 (by decide) (fun hb46 => ?_) (fun hb46 => ?_)
        · skip
          refine r_iload_n o dX9_found_57 4 rfl ?_
          refine r_iconst o (v := nI 1) dX9_found_58 (by decide) ?_
          refine r_icmp_ne o (tgt := 72) dX9_found_59 (by decide) (fun hb59 => ?_) (fun hb59 => ?_)
          · skip
            refine r_aload_n o dX9_found_72 1 rfl ?_
            refine gf_0_6 o mw_242 dX9_found_73 ?_
            refine gfN_6_2 o (v := nI ((lkS (yeF (dlF σ sn cntq rz.toNatClampNeg) yz.toNatClampNeg) (gcnt (dlF σ sn cntq rz.toNatClampNeg) yz.toNatClampNeg) (fgS (yeF (dlF σ sn cntq rz.toNatClampNeg) yz.toNatClampNeg) (gcnt (dlF σ sn cntq rz.toNatClampNeg) yz.toNatClampNeg) (nuF (dlF σ sn cntq rz.toNatClampNeg) yz.toNatClampNeg) 2 11).1 (nuF (dlF σ sn cntq rz.toNatClampNeg) yz.toNatClampNeg) (dlF σ sn cntq rz.toNatClampNeg) yz.toNatClampNeg (24 - yz.toNatClampNeg)).2)) h62 mw_167 dX9_found_76 ?_
            exact r_ireturn o q dX9_found_79 (⟨by first | exact ((if_pos hb33).trans ((if_neg hb46).trans (if_pos hb59))).symm | exact ((if_pos hb33).trans ((if_neg hb46).trans (if_neg hb59))).symm, hkp⟩)
          · skip
            refine r_aload_n o dX9_found_62 1 rfl ?_
            refine gf_0_6 o mw_242 dX9_found_63 ?_
            refine gfN_6_1 o (v := nI ((lkS (yeF (dlF σ sn cntq rz.toNatClampNeg) yz.toNatClampNeg) (gcnt (dlF σ sn cntq rz.toNatClampNeg) yz.toNatClampNeg) (fgS (yeF (dlF σ sn cntq rz.toNatClampNeg) yz.toNatClampNeg) (gcnt (dlF σ sn cntq rz.toNatClampNeg) yz.toNatClampNeg) (nuF (dlF σ sn cntq rz.toNatClampNeg) yz.toNatClampNeg) 2 11).1 (nuF (dlF σ sn cntq rz.toNatClampNeg) yz.toNatClampNeg) (dlF σ sn cntq rz.toNatClampNeg) yz.toNatClampNeg (24 - yz.toNatClampNeg)).1)) h61 mw_165 dX9_found_66 ?_
            refine r_goto o (tgt := 79) dX9_found_69 (by decide) ?_
            exact r_ireturn o q dX9_found_79 (⟨by first | exact ((if_pos hb33).trans ((if_neg hb46).trans (if_pos hb59))).symm | exact ((if_pos hb33).trans ((if_neg hb46).trans (if_neg hb59))).symm, hkp⟩)
        · skip
          refine r_aload_n o dX9_found_49 1 rfl ?_
          refine gf_0_6 o mw_242 dX9_found_50 ?_
          refine gfN_6_0 o (v := nI ((fgS (yeF (dlF σ sn cntq rz.toNatClampNeg) yz.toNatClampNeg) (gcnt (dlF σ sn cntq rz.toNatClampNeg) yz.toNatClampNeg) (nuF (dlF σ sn cntq rz.toNatClampNeg) yz.toNatClampNeg) 2 11).1)) h60 mw_163 dX9_found_53 ?_
          exact r_ireturn o q dX9_found_56 (⟨((if_pos hb33).trans (if_pos hb46)).symm, hkp⟩)
      · skip
        refine r_iload o dX9_found_36 0 rfl ?_
        exact r_ireturn o q dX9_found_38 (⟨by rw [if_neg hb33], fun _ _ => rfl⟩)
