set_option maxHeartbeats 4000000 in
set_option maxRecDepth 100000 in
theorem c_X7_lay (l : Launch) (G : Gl) (σ : Sto) (yrq : Nat → Nat) (nq : Nat) (hnq : (σ 2).1 3 = nI nq) (hn24 : nq ≤ 24) (hyr : ∀ jq, jq < nq → (σ 22).1 jq = nI (yrq jq)) (hy24 : ∀ jq, yrq jq < 24) (lq : Nat) (hlq : 2 ≤ lq ∧ lq ≤ 12) (p0q : Nat → Int32) (hp0 : (σ (45 + lq)).1 = p0q) (w0q : Nat → Int64) (hw0 : (σ (58 + lq)).2 = w0q) : CtV l G yX7_lay cX7_lay 6 none 0 0 [.ref (gad G (32 + lq)), .ref (gad G 2), .int (nI lq)] σ (fun σ' => σ' = stb (sta (sti σ (32 + lq) 2 (nI ((ouS yrq nq lq (fun _ => 0, w0q, 0) lq).2.2))) (45 + lq) (mixp (ouS yrq nq lq (fun _ => 0, w0q, 0) lq).1 (ouS yrq nq lq (fun _ => 0, w0q, 0) lq).2.2 p0q)) (58 + lq) ((ouS yrq nq lq (fun _ => 0, w0q, 0) lq).2.1)) := by
  refine CtV.of (by decide +kernel) (Nat.le_of_ble_eq_true rfl) (fun X o q => ?_)
  show WS X G 6 σ 0 [(0, .ref (gad G (32 + lq))), (1, .ref (gad G 2)), (2, .int (nI lq))] []
  refine r_aload_n o dX7_lay_0 0 rfl ?_
  refine r_iconst o (v := nI 0) dX7_lay_1 (by decide) ?_
  refine pfR_2 o (by omega) mw_120 dX7_lay_2 ?_
  refine r_iconst o (v := nI 0) dX7_lay_5 (by decide) ?_
  refine r_istore_n o (lv' := [(3, .int (nI 0)), (0, .ref (gad G (32 + lq))), (1, .ref (gad G 2)), (2, .int (nI lq))]) dX7_lay_6 (by decide) rfl ?_
  have L7 : ∀ (n : Nat) (rz : Nat) (hrz : rz ≤ lq), lq - rz < n → WS X G 6 (stb (sta (sti σ (32 + lq) 2 (nI ((ouS yrq nq lq (fun _ => 0, w0q, 0) rz).2.2))) (45 + lq) (mixp (ouS yrq nq lq (fun _ => 0, w0q, 0) rz).1 (ouS yrq nq lq (fun _ => 0, w0q, 0) rz).2.2 p0q)) (58 + lq) ((ouS yrq nq lq (fun _ => 0, w0q, 0) rz).2.1)) 7 [(0, .ref (gad G (32 + lq))), (1, .ref (gad G 2)), (2, .int (nI lq)), (3, .int (nI rz))] [] := by
    intro n
    induction n with
    | zero => intro rz hrz hm; exact absurd hm (Nat.not_lt_zero _)
    | succ n ih7 =>
      intro rz hrz hm
      have hoc := ouS_c (yrq := yrq) (nq := nq) (lq := lq) (tt := (fun _ => 0, w0q, 0)) rfl rz
      have hcl := cumR_le yrq lq (rz + 1) nq
      have hcs := cumR_s yrq lq rz nq
      have hcm := inS_c (yrq := yrq) (lq := lq) (rq := rz) (tt := (ouS yrq nq lq (fun _ => 0, w0q, 0) rz)) nq
      refine r_iload_n o dX7_lay_7 3 rfl ?_
      refine r_iload_n o dX7_lay_8 2 rfl ?_
      refine r_icmp_ge o (tgt := 118) dX7_lay_9 (by decide) (fun hb9 => ?_) (fun hb9 => ?_)
      · skip
        rw [nI_leI (by omega) (by omega)] at hb9
        obtain rfl : lq = rz := by omega
        exact r_return o q dX7_lay_118 rfl
      · skip
        rw [nI_leI (by omega) (by omega)] at hb9
        refine r_aload_n o dX7_lay_12 0 rfl ?_
        refine gfR_2 (σ := stb (sta (sti σ (32 + lq) 2 (nI ((ouS yrq nq lq (fun _ => 0, w0q, 0) rz).2.2))) (45 + lq) (mixp (ouS yrq nq lq (fun _ => 0, w0q, 0) rz).1 (ouS yrq nq lq (fun _ => 0, w0q, 0) rz).2.2 p0q)) (58 + lq) ((ouS yrq nq lq (fun _ => 0, w0q, 0) rz).2.1)) o (v := nI ((ouS yrq nq lq (fun _ => 0, w0q, 0) rz).2.2)) (by omega) (by simp (disch := omega) only [stb_ne, sta_ne, sti_ne, stl_ne, sti_eq, sta_eq, stb_eq, stl_eq]) mw_120 dX7_lay_13 ?_
        refine r_istore o (lv' := [(4, .int (nI ((ouS yrq nq lq (fun _ => 0, w0q, 0) rz).2.2))), (0, .ref (gad G (32 + lq))), (1, .ref (gad G 2)), (2, .int (nI lq)), (3, .int (nI rz))]) dX7_lay_16 (by decide) rfl ?_
        refine r_iconst o (v := nI 0) dX7_lay_18 (by decide) ?_
        refine r_istore o (lv' := [(5, .int (nI 0)), (4, .int (nI ((ouS yrq nq lq (fun _ => 0, w0q, 0) rz).2.2))), (0, .ref (gad G (32 + lq))), (1, .ref (gad G 2)), (2, .int (nI lq)), (3, .int (nI rz))]) dX7_lay_19 (by decide) rfl ?_
        have L21 : ∀ (n : Nat) (iq : Nat) (hiq1 : iq ≤ nq), nq - iq < n → WS X G 6 (stb (sta (sti σ (32 + lq) 2 (nI ((inS yrq lq rz iq (ouS yrq nq lq (fun _ => 0, w0q, 0) rz)).2.2))) (45 + lq) (mixp (inS yrq lq rz iq (ouS yrq nq lq (fun _ => 0, w0q, 0) rz)).1 (inS yrq lq rz iq (ouS yrq nq lq (fun _ => 0, w0q, 0) rz)).2.2 p0q)) (58 + lq) ((inS yrq lq rz iq (ouS yrq nq lq (fun _ => 0, w0q, 0) rz)).2.1)) 21 [(0, .ref (gad G (32 + lq))), (1, .ref (gad G 2)), (2, .int (nI lq)), (3, .int (nI rz)), (4, .int (nI ((ouS yrq nq lq (fun _ => 0, w0q, 0) rz).2.2))), (5, .int (nI iq))] [] := by
          intro n
          induction n with
          | zero => intro iq hiq1 hm; exact absurd hm (Nat.not_lt_zero _)
          | succ n ih21 =>
            intro iq hiq1 hm
            have hic := inS_c (yrq := yrq) (lq := lq) (rq := rz) (tt := (ouS yrq nq lq (fun _ => 0, w0q, 0) rz)) iq
            have hyq := hy24 iq
            have hyq2 := Nat.mod_le (yrq iq) lq
            refine r_iload o dX7_lay_21 5 rfl ?_
            refine r_aload_n o dX7_lay_23 1 rfl ?_
            refine gfN_2_3 (σ := stb (sta (sti σ (32 + lq) 2 (nI ((inS yrq lq rz iq (ouS yrq nq lq (fun _ => 0, w0q, 0) rz)).2.2))) (45 + lq) (mixp (inS yrq lq rz iq (ouS yrq nq lq (fun _ => 0, w0q, 0) rz)).1 (inS yrq lq rz iq (ouS yrq nq lq (fun _ => 0, w0q, 0) rz)).2.2 p0q)) (58 + lq) ((inS yrq lq rz iq (ouS yrq nq lq (fun _ => 0, w0q, 0) rz)).2.1)) o (v := nI nq) (by simp (disch := omega) only [stb_ne, sta_ne, sti_ne, stl_ne, sti_eq, sta_eq, stb_eq, stl_eq]; exact hnq) mw_93 dX7_lay_24 ?_
            refine r_icmp_ge o (tgt := 80) dX7_lay_27 (by decide) (fun hb27 => ?_) (fun hb27 => ?_)
            · skip
              rw [nI_leI (by omega) (by omega)] at hb27
              obtain rfl : nq = iq := by omega
              refine r_aload_n o dX7_lay_80 0 rfl ?_
              refine gfR_2 (σ := stb (sta (sti σ (32 + lq) 2 (nI ((inS yrq lq rz nq (ouS yrq nq lq (fun _ => 0, w0q, 0) rz)).2.2))) (45 + lq) (mixp (inS yrq lq rz nq (ouS yrq nq lq (fun _ => 0, w0q, 0) rz)).1 (inS yrq lq rz nq (ouS yrq nq lq (fun _ => 0, w0q, 0) rz)).2.2 p0q)) (58 + lq) ((inS yrq lq rz nq (ouS yrq nq lq (fun _ => 0, w0q, 0) rz)).2.1)) o (v := nI ((inS yrq lq rz nq (ouS yrq nq lq (fun _ => 0, w0q, 0) rz)).2.2)) (by omega) (by simp (disch := omega) only [stb_ne, sta_ne, sti_ne, stl_ne, sti_eq, sta_eq, stb_eq, stl_eq]) mw_120 dX7_lay_81 ?_
              refine r_iload o dX7_lay_84 4 rfl ?_
              refine r_icmp_le o (tgt := 112) dX7_lay_86 (by decide) (fun hb86 => ?_) (fun hb86 => ?_)
              · skip
                rw [nI_leI (by omega) (by omega)] at hb86
                refine r_iinc o (v := nI (rz + 1)) (lv' := [(3, .int (nI (rz + 1))), (0, .ref (gad G (32 + lq))), (1, .ref (gad G 2)), (2, .int (nI lq)), (4, .int (nI ((ouS yrq nq lq (fun _ => 0, w0q, 0) rz).2.2))), (5, .int (nI nq))]) dX7_lay_112 3 rfl (nI_inc _) (by decide) rfl ?_
                refine r_goto o (tgt := 7) dX7_lay_115 (by decide) ?_
                exact r_to (by rw [ouS_n (Nat.not_lt.mpr hb86)]) [1, 2, 3, 0] rfl (ih7 (rz + 1) (by omega) (by omega))
              · skip
                rw [nI_leI (by omega) (by omega)] at hb86
                refine r_aload_n o dX7_lay_89 0 rfl ?_
                refine gfR_1 o (by omega) mw_119 dX7_lay_90 ?_
                refine r_aload_n o dX7_lay_93 0 rfl ?_
                refine gfR_2 (σ := stb (sta (sti σ (32 + lq) 2 (nI ((inS yrq lq rz nq (ouS yrq nq lq (fun _ => 0, w0q, 0) rz)).2.2))) (45 + lq) (mixp (inS yrq lq rz nq (ouS yrq nq lq (fun _ => 0, w0q, 0) rz)).1 (inS yrq lq rz nq (ouS yrq nq lq (fun _ => 0, w0q, 0) rz)).2.2 p0q)) (58 + lq) ((inS yrq lq rz nq (ouS yrq nq lq (fun _ => 0, w0q, 0) rz)).2.1)) o (v := nI ((inS yrq lq rz nq (ouS yrq nq lq (fun _ => 0, w0q, 0) rz)).2.2)) (by omega) (by simp (disch := omega) only [stb_ne, sta_ne, sti_ne, stl_ne, sti_eq, sta_eq, stb_eq, stl_eq]) mw_120 dX7_lay_94 ?_
                refine r_iconst o (v := nI 1) dX7_lay_97 (by decide) ?_
                refine r_isub o dX7_lay_98 ?_
                refine r_topi (y := nI ((inS yrq lq rz nq (ouS yrq nq lq (fun _ => 0, w0q, 0) rz)).2.2 - 1)) (nI_sub' (by omega)) ?_
                refine r_sipush o (v := nI 27720) dX7_lay_99 (by decide) ?_
                refine r_aload_n o dX7_lay_102 0 rfl ?_
                refine gfR_2 (σ := stb (sta (sti σ (32 + lq) 2 (nI ((inS yrq lq rz nq (ouS yrq nq lq (fun _ => 0, w0q, 0) rz)).2.2))) (45 + lq) (mixp (inS yrq lq rz nq (ouS yrq nq lq (fun _ => 0, w0q, 0) rz)).1 (inS yrq lq rz nq (ouS yrq nq lq (fun _ => 0, w0q, 0) rz)).2.2 p0q)) (58 + lq) ((inS yrq lq rz nq (ouS yrq nq lq (fun _ => 0, w0q, 0) rz)).2.1)) o (v := nI ((inS yrq lq rz nq (ouS yrq nq lq (fun _ => 0, w0q, 0) rz)).2.2)) (by omega) (by simp (disch := omega) only [stb_ne, sta_ne, sti_ne, stl_ne, sti_eq, sta_eq, stb_eq, stl_eq]) mw_120 dX7_lay_103 ?_
                refine r_iload o dX7_lay_106 4 rfl ?_
                refine r_isub o dX7_lay_108 ?_
                refine r_topi (y := nI ((inS yrq lq rz nq (ouS yrq nq lq (fun _ => 0, w0q, 0) rz)).2.2 - ((ouS yrq nq lq (fun _ => 0, w0q, 0) rz).2.2))) (nI_sub' (by omega)) ?_
                refine r_idiv o dX7_lay_109 (nI_z (by omega) (by omega)) ?_
                refine r_topi (y := nI (27720 / ((inS yrq lq rz nq (ouS yrq nq lq (fun _ => 0, w0q, 0) rz)).2.2 - ((ouS yrq nq lq (fun _ => 0, w0q, 0) rz).2.2)))) (pk_div (by omega) (by omega) (by omega)) ?_
                refine r_i2l o dX7_lay_110 rfl ?_
                refine r_last o (by omega) (ceJ (by omega)) ((inS yrq lq rz nq (ouS yrq nq lq (fun _ => 0, w0q, 0) rz)).2.2 - 1) rfl (by omega) (by decide) dX7_lay_111 ?_
                refine r_iinc o (v := nI (rz + 1)) (lv' := [(3, .int (nI (rz + 1))), (0, .ref (gad G (32 + lq))), (1, .ref (gad G 2)), (2, .int (nI lq)), (4, .int (nI ((ouS yrq nq lq (fun _ => 0, w0q, 0) rz).2.2))), (5, .int (nI nq))]) dX7_lay_112 3 rfl (nI_inc _) (by decide) rfl ?_
                refine r_goto o (tgt := 7) dX7_lay_115 (by decide) ?_
                exact r_to (by rw [ouS_y (Nat.lt_of_not_le hb86)]; simp only [stl_stb]) [1, 2, 3, 0] rfl (ih7 (rz + 1) (by omega) (by omega))
            · skip
              rw [nI_leI (by omega) (by omega)] at hb27
              refine r_aload_n o dX7_lay_30 1 rfl ?_
              refine gfN_2_2 o mw_89 dX7_lay_31 ?_
              refine r_iload o dX7_lay_34 5 rfl ?_
              refine r_ia (σ := stb (sta (sti σ (32 + lq) 2 (nI ((inS yrq lq rz iq (ouS yrq nq lq (fun _ => 0, w0q, 0) rz)).2.2))) (45 + lq) (mixp (inS yrq lq rz iq (ouS yrq nq lq (fun _ => 0, w0q, 0) rz)).1 (inS yrq lq rz iq (ouS yrq nq lq (fun _ => 0, w0q, 0) rz)).2.2 p0q)) (58 + lq) ((inS yrq lq rz iq (ouS yrq nq lq (fun _ => 0, w0q, 0) rz)).2.1)) o (by decide) ia_22 (f := (σ 22).1) (by simp (disch := omega) only [stb_ne, sta_ne, sti_ne, stl_ne, sti_eq, sta_eq, stb_eq, stl_eq]) iq rfl (by omega) (by decide) dX7_lay_36 ?_
              refine r_topi (y := nI (yrq iq)) (hyr _ (by omega)) ?_
              refine r_iload_n o dX7_lay_37 2 rfl ?_
              refine r_irem o dX7_lay_38 (nI_z (by omega) (by omega)) ?_
              refine r_topi (y := nI ((yrq iq) % lq)) (nI_rem' (by omega) (by omega) (by omega)) ?_
              refine r_iload_n o dX7_lay_39 3 rfl ?_
              refine r_icmp_ne o (tgt := 74) dX7_lay_40 (by decide) (fun hb40 => ?_) (fun hb40 => ?_)
              · skip
                rw [nI_eq (by omega) (by omega)] at hb40
                refine r_iinc o (v := nI (iq + 1)) (lv' := [(5, .int (nI (iq + 1))), (0, .ref (gad G (32 + lq))), (1, .ref (gad G 2)), (2, .int (nI lq)), (3, .int (nI rz)), (4, .int (nI ((ouS yrq nq lq (fun _ => 0, w0q, 0) rz).2.2)))]) dX7_lay_74 5 rfl (nI_inc _) (by decide) rfl ?_
                refine r_goto o (tgt := 21) dX7_lay_77 (by decide) ?_
                exact r_to (by rw [inS_n hb40]) [1, 2, 3, 4, 5, 0] rfl (ih21 (iq + 1) (by omega) (by omega))
              · skip
                rw [nI_eq (by omega) (by omega)] at hb40
                have hrm := cnt_room (show iq < nq by omega) hb40
                refine r_aload_n o dX7_lay_43 0 rfl ?_
                refine gfR_0 o (by omega) mw_118 dX7_lay_44 ?_
                refine r_aload_n o dX7_lay_47 0 rfl ?_
                refine gfR_2 (σ := stb (sta (sti σ (32 + lq) 2 (nI ((inS yrq lq rz iq (ouS yrq nq lq (fun _ => 0, w0q, 0) rz)).2.2))) (45 + lq) (mixp (inS yrq lq rz iq (ouS yrq nq lq (fun _ => 0, w0q, 0) rz)).1 (inS yrq lq rz iq (ouS yrq nq lq (fun _ => 0, w0q, 0) rz)).2.2 p0q)) (58 + lq) ((inS yrq lq rz iq (ouS yrq nq lq (fun _ => 0, w0q, 0) rz)).2.1)) o (v := nI ((inS yrq lq rz iq (ouS yrq nq lq (fun _ => 0, w0q, 0) rz)).2.2)) (by omega) (by simp (disch := omega) only [stb_ne, sta_ne, sti_ne, stl_ne, sti_eq, sta_eq, stb_eq, stl_eq]) mw_120 dX7_lay_48 ?_
                refine r_iload o dX7_lay_51 5 rfl ?_
                refine r_iast o (by omega) (ceP (by omega)) ((inS yrq lq rz iq (ouS yrq nq lq (fun _ => 0, w0q, 0) rz)).2.2) rfl (by omega) (by decide) dX7_lay_53 ?_
                refine r_aload_n o dX7_lay_54 0 rfl ?_
                refine gfR_1 o (by omega) mw_119 dX7_lay_55 ?_
                refine r_aload_n o dX7_lay_58 0 rfl ?_
                refine gfR_2 (σ := sti (stb (sta (sti σ (32 + lq) 2 (nI ((inS yrq lq rz iq (ouS yrq nq lq (fun _ => 0, w0q, 0) rz)).2.2))) (45 + lq) (mixp (inS yrq lq rz iq (ouS yrq nq lq (fun _ => 0, w0q, 0) rz)).1 (inS yrq lq rz iq (ouS yrq nq lq (fun _ => 0, w0q, 0) rz)).2.2 p0q)) (58 + lq) ((inS yrq lq rz iq (ouS yrq nq lq (fun _ => 0, w0q, 0) rz)).2.1)) (45 + lq) ((inS yrq lq rz iq (ouS yrq nq lq (fun _ => 0, w0q, 0) rz)).2.2) (nI iq)) o (v := nI ((inS yrq lq rz iq (ouS yrq nq lq (fun _ => 0, w0q, 0) rz)).2.2)) (by omega) (by simp (disch := omega) only [stb_ne, sta_ne, sti_ne, stl_ne, sti_eq, sta_eq, stb_eq, stl_eq]) mw_120 dX7_lay_59 ?_
                refine r_lconst o (v := 0) dX7_lay_62 rfl ?_
                refine r_last o (by omega) (ceJ (by omega)) ((inS yrq lq rz iq (ouS yrq nq lq (fun _ => 0, w0q, 0) rz)).2.2) rfl (by omega) (by decide) dX7_lay_63 ?_
                refine r_aload_n o dX7_lay_64 0 rfl ?_
                refine r_dup o dX7_lay_65 rfl ?_
                refine gfR_2 (σ := stl (sti (stb (sta (sti σ (32 + lq) 2 (nI ((inS yrq lq rz iq (ouS yrq nq lq (fun _ => 0, w0q, 0) rz)).2.2))) (45 + lq) (mixp (inS yrq lq rz iq (ouS yrq nq lq (fun _ => 0, w0q, 0) rz)).1 (inS yrq lq rz iq (ouS yrq nq lq (fun _ => 0, w0q, 0) rz)).2.2 p0q)) (58 + lq) ((inS yrq lq rz iq (ouS yrq nq lq (fun _ => 0, w0q, 0) rz)).2.1)) (45 + lq) ((inS yrq lq rz iq (ouS yrq nq lq (fun _ => 0, w0q, 0) rz)).2.2) (nI iq)) (58 + lq) ((inS yrq lq rz iq (ouS yrq nq lq (fun _ => 0, w0q, 0) rz)).2.2) 0) o (v := nI ((inS yrq lq rz iq (ouS yrq nq lq (fun _ => 0, w0q, 0) rz)).2.2)) (by omega) (by simp (disch := omega) only [stb_ne, sta_ne, sti_ne, stl_ne, sti_eq, sta_eq, stb_eq, stl_eq]) mw_120 dX7_lay_66 ?_
                refine r_iconst o (v := nI 1) dX7_lay_69 (by decide) ?_
                refine r_iadd o dX7_lay_70 ?_
                refine r_topi (y := nI ((inS yrq lq rz iq (ouS yrq nq lq (fun _ => 0, w0q, 0) rz)).2.2 + 1)) (nI_add' _ _) ?_
                refine pfR_2 o (by omega) mw_120 dX7_lay_71 ?_
                refine r_iinc o (v := nI (iq + 1)) (lv' := [(5, .int (nI (iq + 1))), (0, .ref (gad G (32 + lq))), (1, .ref (gad G 2)), (2, .int (nI lq)), (3, .int (nI rz)), (4, .int (nI ((ouS yrq nq lq (fun _ => 0, w0q, 0) rz).2.2)))]) dX7_lay_74 5 rfl (nI_inc _) (by decide) rfl ?_
                refine r_goto o (tgt := 21) dX7_lay_77 (by decide) ?_
                exact r_to (by rw [inS_y hb40]; simp (disch := omega) only [sti_stb_ne, sti_sta_ne, sti_sta, sti_sti, stl_stb, mixp_s]) [1, 2, 3, 4, 5, 0] rfl (ih21 (iq + 1) (by omega) (by omega))
        exact r_to rfl [2, 3, 4, 5, 1, 0] rfl (L21 _ 0 (by omega) (Nat.lt_succ_self _))
  exact r_to (by show sti σ (32 + lq) 2 (nI 0) = stb (sta (sti σ (32 + lq) 2 (nI 0)) (45 + lq) (mixp (fun _ => 0) 0 p0q)) (58 + lq) w0q; rw [mixp_0, ← sta_id (σ := sti σ (32 + lq) 2 (nI 0)) (cz := 45 + lq) (by rw [sti_ne (by omega)]; exact hp0), ← stb_id (σ := sti σ (32 + lq) 2 (nI 0)) (cz := 58 + lq) (by rw [sti_ne (by omega)]; exact hw0)]) [1, 2, 3, 0] rfl (L7 _ 0 (by omega) (Nat.lt_succ_self _))
set_option maxHeartbeats 4000000 in
set_option maxRecDepth 100000 in
theorem c_X7_weigh_21 (l : Launch) (G : Gl) (σ : Sto) (lq : Nat) (hlq : 2 ≤ lq ∧ lq ≤ 12) (yrq : Nat → Nat) (nq : Nat) (hla : LaidO σ lq yrq nq) (xf : Nat → Int32) (hxf : (σ 21).1 = xf) : CtL l G yX7_weigh cX7_weigh 7 (some .long) 0 0 [.ref (gad G (32 + lq)), .ref (gad G 21)] σ (fun r σ' => r = wgt yrq nq lq xf ∧ σ' = σ) := by
  refine CtL.of (by decide +kernel) (Nat.le_of_ble_eq_true rfl) (fun X o q => ?_)
  show WS X G 7 σ 0 [(0, .ref (gad G (32 + lq))), (1, .ref (gad G 21))] []
  obtain ⟨qf, kq, hk, hk24, hpl, hq24, hwg⟩ := id hla
  refine r_lconst o (v := 0) dX7_weigh_0 rfl ?_
  refine r_lstore_n o (lv' := [(2, .long 0), (0, .ref (gad G (32 + lq))), (1, .ref (gad G 21))]) dX7_weigh_1 (by decide) rfl ?_
  refine r_lconst o (v := 0) dX7_weigh_2 rfl ?_
  refine r_lstore o (lv' := [(4, .long 0), (2, .long 0), (0, .ref (gad G (32 + lq))), (1, .ref (gad G 21))]) dX7_weigh_3 (by decide) rfl ?_
  refine r_iconst o (v := nI 0) dX7_weigh_5 (by decide) ?_
  refine r_istore o (lv' := [(6, .int (nI 0)), (4, .long 0), (2, .long 0), (0, .ref (gad G (32 + lq))), (1, .ref (gad G 21))]) dX7_weigh_6 (by decide) rfl ?_
  have L8 : ∀ (n : Nat) (iq : Nat) (hiq1 : iq ≤ kq), kq - iq < n → WS X G 7 σ 8 [(0, .ref (gad G (32 + lq))), (1, .ref (gad G 21)), (2, .long ((wgS qf (σ (58 + lq)).2 xf iq).1)), (4, .long ((wgS qf (σ (58 + lq)).2 xf iq).2)), (6, .int (nI iq))] [] := by
    intro n
    induction n with
    | zero => intro iq hiq1 hm; exact absurd hm (Nat.not_lt_zero _)
    | succ n ih8 =>
      intro iq hiq1 hm
      refine r_iload o dX7_weigh_8 4 rfl ?_
      refine r_aload_n o dX7_weigh_10 0 rfl ?_
      refine gfR_2 o (v := nI kq) (by omega) hk mw_120 dX7_weigh_11 ?_
      refine r_icmp_ge o (tgt := 69) dX7_weigh_14 (by decide) (fun hb14 => ?_) (fun hb14 => ?_)
      · skip
        rw [nI_leI (by omega) (by omega)] at hb14
        obtain rfl : kq = iq := by omega
        refine r_lload_n o dX7_weigh_69 2 rfl ?_
        exact r_lreturn o q dX7_weigh_70 (⟨hwg xf, rfl⟩)
      · skip
        rw [nI_leI (by omega) (by omega)] at hb14
        refine r_lload o dX7_weigh_17 3 rfl ?_
        refine r_aload_n o dX7_weigh_19 1 rfl ?_
        refine r_aload_n o dX7_weigh_20 0 rfl ?_
        refine gfR_0 o (by omega) mw_118 dX7_weigh_21 ?_
        refine r_iload o dX7_weigh_24 4 rfl ?_
        refine r_ia o (by omega) (ceP (by omega)) (f := (σ (45 + lq)).1) rfl iq rfl (by omega) (by decide) dX7_weigh_26 ?_
        refine r_topi (y := nI (qf iq)) (hpl _ (by omega)) ?_
        refine r_ia o (by decide) ia_21 (f := xf) hxf (qf iq) rfl (hq24 iq (by omega)) (by decide) dX7_weigh_27 ?_
        refine r_i2l o dX7_weigh_28 rfl ?_
        refine r_ladd o dX7_weigh_29 ?_
        refine r_lstore o (lv' := [(4, .long (((wgS qf (σ (58 + lq)).2 xf iq).2) + ((xf (qf iq)).toInt64))), (0, .ref (gad G (32 + lq))), (1, .ref (gad G 21)), (2, .long ((wgS qf (σ (58 + lq)).2 xf iq).1)), (6, .int (nI iq))]) dX7_weigh_30 (by decide) rfl ?_
        refine r_aload_n o dX7_weigh_32 1 rfl ?_
        refine gfR_1 o (by omega) mw_119 dX7_weigh_33 ?_
        refine r_iload o dX7_weigh_36 4 rfl ?_
        refine r_la o (by omega) (ceJ (by omega)) (f := (σ (58 + lq)).2) rfl iq rfl (by omega) (by decide) dX7_weigh_38 ?_
        refine r_lconst o (v := 0) dX7_weigh_39 rfl ?_
        refine r_lcmp o dX7_weigh_40 ?_
        refine r_if_eq o (tgt := 63) dX7_weigh_41 (by decide) (fun hb41 => ?_) (fun hb41 => ?_)
        · skip
          rw [lg_cmp_eq] at hb41
          refine r_lv (lv' := [(4, .long (((wgS qf (σ (58 + lq)).2 xf iq).2) + ((xf (qf iq)).toInt64))), (0, .ref (gad G (32 + lq))), (1, .ref (gad G 21)), (2, .long ((wgS qf (σ (58 + lq)).2 xf (iq + 1)).1)), (6, .int (nI iq))]) (congrArg (fun zz => ([(4, .long (((wgS qf (σ (58 + lq)).2 xf iq).2) + ((xf (qf iq)).toInt64))), (0, .ref (gad G (32 + lq))), (1, .ref (gad G 21)), (2, .long zz), (6, .int (nI iq))] : List (Nat × Value))) (wgS_z1 hb41)) ?_
          refine r_lv (lv' := [(4, .long ((wgS qf (σ (58 + lq)).2 xf (iq + 1)).2)), (0, .ref (gad G (32 + lq))), (1, .ref (gad G 21)), (2, .long ((wgS qf (σ (58 + lq)).2 xf (iq + 1)).1)), (6, .int (nI iq))]) (congrArg (fun zz => ([(4, .long zz), (0, .ref (gad G (32 + lq))), (1, .ref (gad G 21)), (2, .long ((wgS qf (σ (58 + lq)).2 xf (iq + 1)).1)), (6, .int (nI iq))] : List (Nat × Value))) (wgS_z2 hb41)) ?_
          refine r_iinc o (v := nI (iq + 1)) (lv' := [(6, .int (nI (iq + 1))), (4, .long ((wgS qf (σ (58 + lq)).2 xf (iq + 1)).2)), (0, .ref (gad G (32 + lq))), (1, .ref (gad G 21)), (2, .long ((wgS qf (σ (58 + lq)).2 xf (iq + 1)).1))]) dX7_weigh_63 4 rfl (nI_inc _) (by decide) rfl ?_
          refine r_goto o (tgt := 8) dX7_weigh_66 (by decide) ?_
          exact r_to rfl [2, 3, 4, 1, 0] rfl (ih8 (iq + 1) (by omega) (by omega))
        · skip
          rw [lg_cmp_eq] at hb41
          refine r_lload_n o dX7_weigh_44 3 rfl ?_
          refine r_aload_n o dX7_weigh_45 1 rfl ?_
          refine gfR_1 o (by omega) mw_119 dX7_weigh_46 ?_
          refine r_iload o dX7_weigh_49 4 rfl ?_
          refine r_la o (by omega) (ceJ (by omega)) (f := (σ (58 + lq)).2) rfl iq rfl (by omega) (by decide) dX7_weigh_51 ?_
          refine r_lload o dX7_weigh_52 0 rfl ?_
          refine r_lmul o dX7_weigh_54 ?_
          refine r_lload o dX7_weigh_55 0 rfl ?_
          refine r_lmul o dX7_weigh_57 ?_
          refine r_ladd o dX7_weigh_58 ?_
          refine r_lstore_n o (lv' := [(2, .long (((wgS qf (σ (58 + lq)).2 xf iq).1) + (((((σ (58 + lq)).2) iq) * (((wgS qf (σ (58 + lq)).2 xf iq).2) + ((xf (qf iq)).toInt64))) * (((wgS qf (σ (58 + lq)).2 xf iq).2) + ((xf (qf iq)).toInt64))))), (4, .long (((wgS qf (σ (58 + lq)).2 xf iq).2) + ((xf (qf iq)).toInt64))), (0, .ref (gad G (32 + lq))), (1, .ref (gad G 21)), (6, .int (nI iq))]) dX7_weigh_59 (by decide) rfl ?_
          refine r_lconst o (v := 0) dX7_weigh_60 rfl ?_
          refine r_lstore o (lv' := [(4, .long 0), (2, .long (((wgS qf (σ (58 + lq)).2 xf iq).1) + (((((σ (58 + lq)).2) iq) * (((wgS qf (σ (58 + lq)).2 xf iq).2) + ((xf (qf iq)).toInt64))) * (((wgS qf (σ (58 + lq)).2 xf iq).2) + ((xf (qf iq)).toInt64))))), (0, .ref (gad G (32 + lq))), (1, .ref (gad G 21)), (6, .int (nI iq))]) dX7_weigh_61 (by decide) rfl ?_
          refine r_lv (lv' := [(4, .long 0), (2, .long ((wgS qf (σ (58 + lq)).2 xf (iq + 1)).1)), (0, .ref (gad G (32 + lq))), (1, .ref (gad G 21)), (6, .int (nI iq))]) (congrArg (fun zz => ([(4, .long 0), (2, .long zz), (0, .ref (gad G (32 + lq))), (1, .ref (gad G 21)), (6, .int (nI iq))] : List (Nat × Value))) (wgS_n1 hb41)) ?_
          refine r_lv (lv' := [(4, .long ((wgS qf (σ (58 + lq)).2 xf (iq + 1)).2)), (2, .long ((wgS qf (σ (58 + lq)).2 xf (iq + 1)).1)), (0, .ref (gad G (32 + lq))), (1, .ref (gad G 21)), (6, .int (nI iq))]) (congrArg (fun zz => ([(4, .long zz), (2, .long ((wgS qf (σ (58 + lq)).2 xf (iq + 1)).1)), (0, .ref (gad G (32 + lq))), (1, .ref (gad G 21)), (6, .int (nI iq))] : List (Nat × Value))) (wgS_n2 hb41)) ?_
          refine r_iinc o (v := nI (iq + 1)) (lv' := [(6, .int (nI (iq + 1))), (4, .long ((wgS qf (σ (58 + lq)).2 xf (iq + 1)).2)), (2, .long ((wgS qf (σ (58 + lq)).2 xf (iq + 1)).1)), (0, .ref (gad G (32 + lq))), (1, .ref (gad G 21))]) dX7_weigh_63 4 rfl (nI_inc _) (by decide) rfl ?_
          refine r_goto o (tgt := 8) dX7_weigh_66 (by decide) ?_
          exact r_to rfl [3, 4, 2, 1, 0] rfl (ih8 (iq + 1) (by omega) (by omega))
  exact r_to rfl [3, 4, 2, 1, 0] rfl (L8 _ 0 (by omega) (Nat.lt_succ_self _))
set_option maxHeartbeats 4000000 in
set_option maxRecDepth 100000 in
theorem c_X7_weigh_26 (l : Launch) (G : Gl) (σ : Sto) (lq : Nat) (hlq : 2 ≤ lq ∧ lq ≤ 12) (yrq : Nat → Nat) (nq : Nat) (hla : LaidO σ lq yrq nq) (xf : Nat → Int32) (hxf : (σ 26).1 = xf) : CtL l G yX7_weigh cX7_weigh 7 (some .long) 0 0 [.ref (gad G (32 + lq)), .ref (gad G 26)] σ (fun r σ' => r = wgt yrq nq lq xf ∧ σ' = σ) := by
  refine CtL.of (by decide +kernel) (Nat.le_of_ble_eq_true rfl) (fun X o q => ?_)
  show WS X G 7 σ 0 [(0, .ref (gad G (32 + lq))), (1, .ref (gad G 26))] []
  obtain ⟨qf, kq, hk, hk24, hpl, hq24, hwg⟩ := id hla
  refine r_lconst o (v := 0) dX7_weigh_0 rfl ?_
  refine r_lstore_n o (lv' := [(2, .long 0), (0, .ref (gad G (32 + lq))), (1, .ref (gad G 26))]) dX7_weigh_1 (by decide) rfl ?_
  refine r_lconst o (v := 0) dX7_weigh_2 rfl ?_
  refine r_lstore o (lv' := [(4, .long 0), (2, .long 0), (0, .ref (gad G (32 + lq))), (1, .ref (gad G 26))]) dX7_weigh_3 (by decide) rfl ?_
  refine r_iconst o (v := nI 0) dX7_weigh_5 (by decide) ?_
  refine r_istore o (lv' := [(6, .int (nI 0)), (4, .long 0), (2, .long 0), (0, .ref (gad G (32 + lq))), (1, .ref (gad G 26))]) dX7_weigh_6 (by decide) rfl ?_
  have L8 : ∀ (n : Nat) (iq : Nat) (hiq1 : iq ≤ kq), kq - iq < n → WS X G 7 σ 8 [(0, .ref (gad G (32 + lq))), (1, .ref (gad G 26)), (2, .long ((wgS qf (σ (58 + lq)).2 xf iq).1)), (4, .long ((wgS qf (σ (58 + lq)).2 xf iq).2)), (6, .int (nI iq))] [] := by
    intro n
    induction n with
    | zero => intro iq hiq1 hm; exact absurd hm (Nat.not_lt_zero _)
    | succ n ih8 =>
      intro iq hiq1 hm
      refine r_iload o dX7_weigh_8 4 rfl ?_
      refine r_aload_n o dX7_weigh_10 0 rfl ?_
      refine gfR_2 o (v := nI kq) (by omega) hk mw_120 dX7_weigh_11 ?_
      refine r_icmp_ge o (tgt := 69) dX7_weigh_14 (by decide) (fun hb14 => ?_) (fun hb14 => ?_)
      · skip
        rw [nI_leI (by omega) (by omega)] at hb14
        obtain rfl : kq = iq := by omega
        refine r_lload_n o dX7_weigh_69 2 rfl ?_
        exact r_lreturn o q dX7_weigh_70 (⟨hwg xf, rfl⟩)
      · skip
        rw [nI_leI (by omega) (by omega)] at hb14
        refine r_lload o dX7_weigh_17 3 rfl ?_
        refine r_aload_n o dX7_weigh_19 1 rfl ?_
        refine r_aload_n o dX7_weigh_20 0 rfl ?_
        refine gfR_0 o (by omega) mw_118 dX7_weigh_21 ?_
        refine r_iload o dX7_weigh_24 4 rfl ?_
        refine r_ia o (by omega) (ceP (by omega)) (f := (σ (45 + lq)).1) rfl iq rfl (by omega) (by decide) dX7_weigh_26 ?_
        refine r_topi (y := nI (qf iq)) (hpl _ (by omega)) ?_
        refine r_ia o (by decide) ia_26 (f := xf) hxf (qf iq) rfl (hq24 iq (by omega)) (by decide) dX7_weigh_27 ?_
        refine r_i2l o dX7_weigh_28 rfl ?_
        refine r_ladd o dX7_weigh_29 ?_
        refine r_lstore o (lv' := [(4, .long (((wgS qf (σ (58 + lq)).2 xf iq).2) + ((xf (qf iq)).toInt64))), (0, .ref (gad G (32 + lq))), (1, .ref (gad G 26)), (2, .long ((wgS qf (σ (58 + lq)).2 xf iq).1)), (6, .int (nI iq))]) dX7_weigh_30 (by decide) rfl ?_
        refine r_aload_n o dX7_weigh_32 1 rfl ?_
        refine gfR_1 o (by omega) mw_119 dX7_weigh_33 ?_
        refine r_iload o dX7_weigh_36 4 rfl ?_
        refine r_la o (by omega) (ceJ (by omega)) (f := (σ (58 + lq)).2) rfl iq rfl (by omega) (by decide) dX7_weigh_38 ?_
        refine r_lconst o (v := 0) dX7_weigh_39 rfl ?_
        refine r_lcmp o dX7_weigh_40 ?_
        refine r_if_eq o (tgt := 63) dX7_weigh_41 (by decide) (fun hb41 => ?_) (fun hb41 => ?_)
        · skip
          rw [lg_cmp_eq] at hb41
          refine r_lv (lv' := [(4, .long (((wgS qf (σ (58 + lq)).2 xf iq).2) + ((xf (qf iq)).toInt64))), (0, .ref (gad G (32 + lq))), (1, .ref (gad G 26)), (2, .long ((wgS qf (σ (58 + lq)).2 xf (iq + 1)).1)), (6, .int (nI iq))]) (congrArg (fun zz => ([(4, .long (((wgS qf (σ (58 + lq)).2 xf iq).2) + ((xf (qf iq)).toInt64))), (0, .ref (gad G (32 + lq))), (1, .ref (gad G 26)), (2, .long zz), (6, .int (nI iq))] : List (Nat × Value))) (wgS_z1 hb41)) ?_
          refine r_lv (lv' := [(4, .long ((wgS qf (σ (58 + lq)).2 xf (iq + 1)).2)), (0, .ref (gad G (32 + lq))), (1, .ref (gad G 26)), (2, .long ((wgS qf (σ (58 + lq)).2 xf (iq + 1)).1)), (6, .int (nI iq))]) (congrArg (fun zz => ([(4, .long zz), (0, .ref (gad G (32 + lq))), (1, .ref (gad G 26)), (2, .long ((wgS qf (σ (58 + lq)).2 xf (iq + 1)).1)), (6, .int (nI iq))] : List (Nat × Value))) (wgS_z2 hb41)) ?_
          refine r_iinc o (v := nI (iq + 1)) (lv' := [(6, .int (nI (iq + 1))), (4, .long ((wgS qf (σ (58 + lq)).2 xf (iq + 1)).2)), (0, .ref (gad G (32 + lq))), (1, .ref (gad G 26)), (2, .long ((wgS qf (σ (58 + lq)).2 xf (iq + 1)).1))]) dX7_weigh_63 4 rfl (nI_inc _) (by decide) rfl ?_
          refine r_goto o (tgt := 8) dX7_weigh_66 (by decide) ?_
          exact r_to rfl [2, 3, 4, 1, 0] rfl (ih8 (iq + 1) (by omega) (by omega))
        · skip
          rw [lg_cmp_eq] at hb41
          refine r_lload_n o dX7_weigh_44 3 rfl ?_
          refine r_aload_n o dX7_weigh_45 1 rfl ?_
          refine gfR_1 o (by omega) mw_119 dX7_weigh_46 ?_
          refine r_iload o dX7_weigh_49 4 rfl ?_
          refine r_la o (by omega) (ceJ (by omega)) (f := (σ (58 + lq)).2) rfl iq rfl (by omega) (by decide) dX7_weigh_51 ?_
          refine r_lload o dX7_weigh_52 0 rfl ?_
          refine r_lmul o dX7_weigh_54 ?_
          refine r_lload o dX7_weigh_55 0 rfl ?_
          refine r_lmul o dX7_weigh_57 ?_
          refine r_ladd o dX7_weigh_58 ?_
          refine r_lstore_n o (lv' := [(2, .long (((wgS qf (σ (58 + lq)).2 xf iq).1) + (((((σ (58 + lq)).2) iq) * (((wgS qf (σ (58 + lq)).2 xf iq).2) + ((xf (qf iq)).toInt64))) * (((wgS qf (σ (58 + lq)).2 xf iq).2) + ((xf (qf iq)).toInt64))))), (4, .long (((wgS qf (σ (58 + lq)).2 xf iq).2) + ((xf (qf iq)).toInt64))), (0, .ref (gad G (32 + lq))), (1, .ref (gad G 26)), (6, .int (nI iq))]) dX7_weigh_59 (by decide) rfl ?_
          refine r_lconst o (v := 0) dX7_weigh_60 rfl ?_
          refine r_lstore o (lv' := [(4, .long 0), (2, .long (((wgS qf (σ (58 + lq)).2 xf iq).1) + (((((σ (58 + lq)).2) iq) * (((wgS qf (σ (58 + lq)).2 xf iq).2) + ((xf (qf iq)).toInt64))) * (((wgS qf (σ (58 + lq)).2 xf iq).2) + ((xf (qf iq)).toInt64))))), (0, .ref (gad G (32 + lq))), (1, .ref (gad G 26)), (6, .int (nI iq))]) dX7_weigh_61 (by decide) rfl ?_
          refine r_lv (lv' := [(4, .long 0), (2, .long ((wgS qf (σ (58 + lq)).2 xf (iq + 1)).1)), (0, .ref (gad G (32 + lq))), (1, .ref (gad G 26)), (6, .int (nI iq))]) (congrArg (fun zz => ([(4, .long 0), (2, .long zz), (0, .ref (gad G (32 + lq))), (1, .ref (gad G 26)), (6, .int (nI iq))] : List (Nat × Value))) (wgS_n1 hb41)) ?_
          refine r_lv (lv' := [(4, .long ((wgS qf (σ (58 + lq)).2 xf (iq + 1)).2)), (2, .long ((wgS qf (σ (58 + lq)).2 xf (iq + 1)).1)), (0, .ref (gad G (32 + lq))), (1, .ref (gad G 26)), (6, .int (nI iq))]) (congrArg (fun zz => ([(4, .long zz), (2, .long ((wgS qf (σ (58 + lq)).2 xf (iq + 1)).1)), (0, .ref (gad G (32 + lq))), (1, .ref (gad G 26)), (6, .int (nI iq))] : List (Nat × Value))) (wgS_n2 hb41)) ?_
          refine r_iinc o (v := nI (iq + 1)) (lv' := [(6, .int (nI (iq + 1))), (4, .long ((wgS qf (σ (58 + lq)).2 xf (iq + 1)).2)), (2, .long ((wgS qf (σ (58 + lq)).2 xf (iq + 1)).1)), (0, .ref (gad G (32 + lq))), (1, .ref (gad G 26))]) dX7_weigh_63 4 rfl (nI_inc _) (by decide) rfl ?_
          refine r_goto o (tgt := 8) dX7_weigh_66 (by decide) ?_
          exact r_to rfl [3, 4, 2, 1, 0] rfl (ih8 (iq + 1) (by omega) (by omega))
  exact r_to rfl [3, 4, 2, 1, 0] rfl (L8 _ 0 (by omega) (Nat.lt_succ_self _))
set_option maxHeartbeats 4000000 in
set_option maxRecDepth 100000 in
theorem c_X8_lay (l : Launch) (G : Gl) (σ : Sto) (yrq : Nat → Nat) (nq : Nat) (hnq : (σ 2).1 3 = nI nq) (hn24 : nq ≤ 24) (hyr : ∀ jq, jq < nq → (σ 22).1 jq = nI (yrq jq)) (hy24 : ∀ jq, yrq jq < 24) (f1q : Nat) (t1q : Nat) (hft : 2 ≤ f1q ∧ f1q ≤ t1q ∧ t1q ≤ 12) : CtV l G yX8_lay cX8_lay 5 none 1 25 [.ref (gad G 4), .ref (gad G 2), .int (nI f1q), .int (nI t1q)] σ (fun σ' => (∀ cz, ¬ (32 ≤ cz ∧ cz < 71) → σ' cz = (sti (sti σ 4 1 (nI f1q)) 4 2 (nI t1q)) cz) ∧ ∀ jq, f1q ≤ jq → jq ≤ t1q → LaidO σ' jq yrq nq) := by
  refine CtV.of (by decide +kernel) (Nat.le_of_ble_eq_true rfl) (fun X o q => ?_)
  show WS X G 5 σ 0 [(0, .ref (gad G 4)), (1, .ref (gad G 2)), (2, .int (nI f1q)), (3, .int (nI t1q))] []
  refine r_aload_n o dX8_lay_0 0 rfl ?_
  refine r_iconst o (v := nI 2) dX8_lay_1 (by decide) ?_
  refine r_bipush o (v := nI 12) dX8_lay_2 (by decide) ?_
  refine r_iload_n o dX8_lay_4 2 rfl ?_
  refine r_min o (mw 409 (by decide +kernel) (by decide +kernel)) (mw 364 (by decide +kernel) (by decide +kernel)) (mw 47 (by decide +kernel) (by decide +kernel)) (mw 365 (by decide +kernel) (by decide +kernel)) (by decide) (Nat.le_of_ble_eq_true rfl) dX8_lay_5 ?_
  refine r_topi (y := nI f1q) (min12 (by omega)) ?_
  refine r_max o (mw 410 (by decide +kernel) (by decide +kernel)) (mw 367 (by decide +kernel) (by decide +kernel)) (mw 47 (by decide +kernel) (by decide +kernel)) (mw 368 (by decide +kernel) (by decide +kernel)) (by decide) (Nat.le_of_ble_eq_true rfl) dX8_lay_8 ?_
  refine r_topi (y := nI f1q) (max2 (by omega)) ?_
  refine pf_4_1 o mw_130 dX8_lay_11 ?_
  refine r_aload_n o dX8_lay_14 0 rfl ?_
  refine r_iconst o (v := nI 2) dX8_lay_15 (by decide) ?_
  refine r_bipush o (v := nI 12) dX8_lay_16 (by decide) ?_
  refine r_iload_n o dX8_lay_18 3 rfl ?_
  refine r_min o (mw 409 (by decide +kernel) (by decide +kernel)) (mw 364 (by decide +kernel) (by decide +kernel)) (mw 47 (by decide +kernel) (by decide +kernel)) (mw 365 (by decide +kernel) (by decide +kernel)) (by decide) (Nat.le_of_ble_eq_true rfl) dX8_lay_19 ?_
  refine r_topi (y := nI t1q) (min12 (by omega)) ?_
  refine r_max o (mw 410 (by decide +kernel) (by decide +kernel)) (mw 367 (by decide +kernel) (by decide +kernel)) (mw 47 (by decide +kernel) (by decide +kernel)) (mw 368 (by decide +kernel) (by decide +kernel)) (by decide) (Nat.le_of_ble_eq_true rfl) dX8_lay_22 ?_
  refine r_topi (y := nI t1q) (max2 (by omega)) ?_
  refine pf_4_2 o mw_131 dX8_lay_25 ?_
  refine r_aload_n o dX8_lay_28 0 rfl ?_
  refine gf_4_1 (σ := sti (sti σ 4 1 (nI f1q)) 4 2 (nI t1q)) o (v := nI f1q) rfl mw_130 dX8_lay_29 ?_
  refine r_istore o (lv' := [(4, .int (nI f1q)), (0, .ref (gad G 4)), (1, .ref (gad G 2)), (2, .int (nI f1q)), (3, .int (nI t1q))]) dX8_lay_32 (by decide) rfl ?_
  have L34 : ∀ (n : Nat) (lq : Nat) (τq : Sto) (hlq1 : f1q ≤ lq ∧ lq ≤ t1q + 1) (hag : ∀ cz, ¬ (32 ≤ cz ∧ cz < 71) → τq cz = (sti (sti σ 4 1 (nI f1q)) 4 2 (nI t1q)) cz) (hlaq : ∀ jq, f1q ≤ jq → jq < lq → LaidO τq jq yrq nq), t1q + 1 - lq < n → WS X G 5 τq 34 [(0, .ref (gad G 4)), (1, .ref (gad G 2)), (2, .int (nI f1q)), (3, .int (nI t1q)), (4, .int (nI lq))] [] := by
    intro n
    induction n with
    | zero => intro lq τq hlq1 hag hlaq hm; exact absurd hm (Nat.not_lt_zero _)
    | succ n ih34 =>
      intro lq τq hlq1 hag hlaq hm
      refine r_iload o dX8_lay_34 4 rfl ?_
      refine r_aload_n o dX8_lay_36 0 rfl ?_
      refine gf_4_2 o (v := nI t1q) (by rw [hag 4 (by omega)]; rfl) mw_131 dX8_lay_37 ?_
      refine r_icmp_gt o (tgt := 62) dX8_lay_40 (by decide) (fun hb40 => ?_) (fun hb40 => ?_)
      · skip
        rw [nI_ltI (by omega) (by omega)] at hb40
        exact r_return o q dX8_lay_62 (⟨hag, fun jq hq1 hq2 => hlaq jq hq1 (by omega)⟩)
      · skip
        rw [nI_ltI (by omega) (by omega)] at hb40
        refine r_aload_n o dX8_lay_43 0 rfl ?_
        refine gf_4_0 o mw_129 dX8_lay_44 ?_
        refine r_iload o dX8_lay_47 4 rfl ?_
        refine r_rnds o lq rfl (by omega) dX8_lay_49 ?_
        refine r_aload_n o dX8_lay_50 1 rfl ?_
        refine r_iload o dX8_lay_51 4 rfl ?_
        refine r_callVV o (As := [.ref (gad G 2), .int (nI lq)]) (st := []) (c_X7_lay (xl X) G τq yrq nq (by rw [hag 2 (by omega)]; exact hnq) hn24 (fun jq hq1 => by rw [hag 22 (by omega)]; exact hyr jq hq1) hy24 lq (by omega) ((τq (45 + lq)).1) rfl ((τq (58 + lq)).2) rfl) om_X7_lay mw_412 mw_413 mw_411 (by omega) (ceR (by omega) _) rfl rfl (by decide) rfl rfl (Nat.le_of_ble_eq_true rfl) dX8_lay_53 (fun σσ53 hp53 => ?_)
        replace hp53 := Eq.symm hp53; subst hp53
        refine r_iinc o (v := nI (lq + 1)) (lv' := [(4, .int (nI (lq + 1))), (0, .ref (gad G 4)), (1, .ref (gad G 2)), (2, .int (nI f1q)), (3, .int (nI t1q))]) dX8_lay_56 4 rfl (nI_inc _) (by decide) rfl ?_
        refine r_goto o (tgt := 34) dX8_lay_59 (by decide) ?_
        exact r_to rfl [1, 2, 3, 4, 0] rfl (ih34 (lq + 1) (stb (sta (sti τq (32 + lq) 2 (nI ((ouS yrq nq lq (fun _ => 0, ((τq (58 + lq)).2), 0) lq).2.2))) (45 + lq) (mixp (ouS yrq nq lq (fun _ => 0, ((τq (58 + lq)).2), 0) lq).1 (ouS yrq nq lq (fun _ => 0, ((τq (58 + lq)).2), 0) lq).2.2 ((τq (45 + lq)).1))) (58 + lq) ((ouS yrq nq lq (fun _ => 0, ((τq (58 + lq)).2), 0) lq).2.1)) (by omega) (fun cz hcz => by simp (disch := omega) only [stb_ne, sta_ne, sti_ne, stl_ne, sti_eq, sta_eq, stb_eq, stl_eq]; exact hag cz hcz) (fun jq hq1 hq2 => by rcases Nat.lt_or_ge jq lq with zq | zq; exact laid_old (hlaq jq hq1 zq) (by omega) (by omega) (by omega); rw [show jq = lq by omega]; exact laid_new (by omega) (by omega) hn24) (by omega))
  exact r_to rfl [1, 2, 3, 4, 0] rfl (L34 _ f1q (sti (sti σ 4 1 (nI f1q)) 4 2 (nI t1q)) (by omega) (fun _ _ => rfl) (fun jq hq1 hq2 => absurd hq2 (by omega)) (Nat.lt_succ_self _))
set_option maxHeartbeats 4000000 in
set_option maxRecDepth 100000 in
theorem c_X8_firstGreatest (l : Launch) (G : Gl) (σ : Sto) (yrq : Nat → Nat) (nq : Nat) (f1q : Nat) (t1q : Nat) (hft : 2 ≤ f1q ∧ f1q ≤ t1q ∧ t1q ≤ 12) (hf1 : (σ 4).1 1 = nI f1q) (ht1 : (σ 4).1 2 = nI t1q) (hla : ∀ jq, f1q ≤ jq → jq ≤ t1q → LaidO σ jq yrq nq) (xf : Nat → Int32) (hxf : (σ 21).1 = xf) : CtI l G yX8_firstGreatest cX8_firstGreatest 8 (some .int) 1 26 [.ref (gad G 4), .ref (gad G 21)] σ (fun r σ' => r = nI ((fgS yrq nq xf f1q (t1q + 1 - f1q)).1) ∧ σ' = σ) := by
  refine CtI.of (by decide +kernel) (Nat.le_of_ble_eq_true rfl) (fun X o q => ?_)
  show WS X G 8 σ 0 [(0, .ref (gad G 4)), (1, .ref (gad G 21))] []
  refine r_aload_n o dX8_firstGreatest_0 0 rfl ?_
  refine gf_4_1 o (v := nI f1q) hf1 mw_130 dX8_firstGreatest_1 ?_
  refine r_istore_n o (lv' := [(2, .int (nI f1q)), (0, .ref (gad G 4)), (1, .ref (gad G 21))]) dX8_firstGreatest_4 (by decide) rfl ?_
  refine r_ldc2_w o mw_427 dX8_firstGreatest_5 ?_
  refine r_lstore_n o (lv' := [(3, .long (-1)), (2, .int (nI f1q)), (0, .ref (gad G 4)), (1, .ref (gad G 21))]) dX8_firstGreatest_8 (by decide) rfl ?_
  refine r_aload_n o dX8_firstGreatest_9 2 rfl ?_
  refine gf_4_1 o (v := nI f1q) hf1 mw_130 dX8_firstGreatest_10 ?_
  refine r_istore o (lv' := [(5, .int (nI f1q)), (3, .long (-1)), (2, .int (nI f1q)), (0, .ref (gad G 4)), (1, .ref (gad G 21))]) dX8_firstGreatest_13 (by decide) rfl ?_
  have L15 : ∀ (n : Nat) (iq : Nat) (hiq1 : f1q + iq ≤ t1q + 1), t1q + 1 - f1q - iq < n → WS X G 8 σ 15 [(0, .ref (gad G 4)), (1, .ref (gad G 21)), (2, .int (nI ((fgS yrq nq xf f1q iq).1))), (3, .long ((fgS yrq nq xf f1q iq).2)), (5, .int (nI (f1q + iq)))] [] := by
    intro n
    induction n with
    | zero => intro iq hiq1 hm; exact absurd hm (Nat.not_lt_zero _)
    | succ n ih15 =>
      intro iq hiq1 hm
      refine r_iload o dX8_firstGreatest_15 4 rfl ?_
      refine r_aload_n o dX8_firstGreatest_17 0 rfl ?_
      refine gf_4_2 o (v := nI t1q) ht1 mw_131 dX8_firstGreatest_18 ?_
      refine r_icmp_gt o (tgt := 56) dX8_firstGreatest_21 (by decide) (fun hb21 => ?_) (fun hb21 => ?_)
      · skip
        rw [nI_ltI (by omega) (by omega)] at hb21
        refine r_iload_n o dX8_firstGreatest_56 2 rfl ?_
        exact r_ireturn o q dX8_firstGreatest_57 (⟨by rw [show iq = t1q + 1 - f1q by omega], rfl⟩)
      · skip
        rw [nI_ltI (by omega) (by omega)] at hb21
        refine r_aload_n o dX8_firstGreatest_24 0 rfl ?_
        refine gf_4_0 o mw_129 dX8_firstGreatest_25 ?_
        refine r_iload o dX8_firstGreatest_28 4 rfl ?_
        refine r_rnds o (f1q + iq) rfl (by omega) dX8_firstGreatest_30 ?_
        refine r_aload_n o dX8_firstGreatest_31 1 rfl ?_
        refine r_callVL o (As := [.ref (gad G 21)]) (st := []) (c_X7_weigh_21 (xl X) G σ (f1q + iq) (by omega) yrq nq (hla _ (by omega) (by omega)) xf hxf) om_X7_weigh mw_429 mw_430 mw_428 (by omega) (ceR (by omega) _) rfl rfl (by decide) rfl rfl (Nat.le_of_ble_eq_true rfl) dX8_firstGreatest_32 (fun rr32 σσ32 hp32 => ?_)
        obtain ⟨hp32, hp32b⟩ := hp32; replace hp32 := Eq.symm hp32; replace hp32b := Eq.symm hp32b; subst hp32; subst hp32b
        refine r_lstore o (lv' := [(6, .long (wgt yrq nq (f1q + iq) xf)), (0, .ref (gad G 4)), (1, .ref (gad G 21)), (2, .int (nI ((fgS yrq nq xf f1q iq).1))), (3, .long ((fgS yrq nq xf f1q iq).2)), (5, .int (nI (f1q + iq)))]) dX8_firstGreatest_35 (by decide) rfl ?_
        refine r_lload o dX8_firstGreatest_37 0 rfl ?_
        refine r_lload_n o dX8_firstGreatest_39 4 rfl ?_
        refine r_lcmp o dX8_firstGreatest_40 ?_
        refine r_if_le o (tgt := 50) dX8_firstGreatest_41 (by decide) (fun hb41 => ?_) (fun hb41 => ?_)
        · skip
          rw [lg_cmp_le] at hb41
          refine r_lv (lv' := [(6, .long (wgt yrq nq (f1q + iq) xf)), (0, .ref (gad G 4)), (1, .ref (gad G 21)), (2, .int (nI ((fgS yrq nq xf f1q (iq + 1)).1))), (3, .long ((fgS yrq nq xf f1q iq).2)), (5, .int (nI (f1q + iq)))]) (congrArg (fun zz => ([(6, .long (wgt yrq nq (f1q + iq) xf)), (0, .ref (gad G 4)), (1, .ref (gad G 21)), (2, .int zz), (3, .long ((fgS yrq nq xf f1q iq).2)), (5, .int (nI (f1q + iq)))] : List (Nat × Value))) (congrArg nI (fgS_k1 hb41))) ?_
          refine r_lv (lv' := [(6, .long (wgt yrq nq (f1q + iq) xf)), (0, .ref (gad G 4)), (1, .ref (gad G 21)), (2, .int (nI ((fgS yrq nq xf f1q (iq + 1)).1))), (3, .long ((fgS yrq nq xf f1q (iq + 1)).2)), (5, .int (nI (f1q + iq)))]) (congrArg (fun zz => ([(6, .long (wgt yrq nq (f1q + iq) xf)), (0, .ref (gad G 4)), (1, .ref (gad G 21)), (2, .int (nI ((fgS yrq nq xf f1q (iq + 1)).1))), (3, .long zz), (5, .int (nI (f1q + iq)))] : List (Nat × Value))) (fgS_k2 hb41)) ?_
          refine r_iinc o (v := nI (f1q + iq + 1)) (lv' := [(5, .int (nI (f1q + iq + 1))), (6, .long (wgt yrq nq (f1q + iq) xf)), (0, .ref (gad G 4)), (1, .ref (gad G 21)), (2, .int (nI ((fgS yrq nq xf f1q (iq + 1)).1))), (3, .long ((fgS yrq nq xf f1q (iq + 1)).2))]) dX8_firstGreatest_50 5 rfl (nI_inc _) (by decide) rfl ?_
          refine r_goto o (tgt := 15) dX8_firstGreatest_53 (by decide) ?_
          exact r_to rfl [2, 3, 4, 5, 0] rfl (ih15 (iq + 1) (by omega) (by omega))
        · skip
          rw [lg_cmp_le] at hb41
          refine r_lload o dX8_firstGreatest_44 0 rfl ?_
          refine r_lstore_n o (lv' := [(3, .long (wgt yrq nq (f1q + iq) xf)), (6, .long (wgt yrq nq (f1q + iq) xf)), (0, .ref (gad G 4)), (1, .ref (gad G 21)), (2, .int (nI ((fgS yrq nq xf f1q iq).1))), (5, .int (nI (f1q + iq)))]) dX8_firstGreatest_46 (by decide) rfl ?_
          refine r_iload o dX8_firstGreatest_47 5 rfl ?_
          refine r_istore_n o (lv' := [(2, .int (nI (f1q + iq))), (3, .long (wgt yrq nq (f1q + iq) xf)), (6, .long (wgt yrq nq (f1q + iq) xf)), (0, .ref (gad G 4)), (1, .ref (gad G 21)), (5, .int (nI (f1q + iq)))]) dX8_firstGreatest_49 (by decide) rfl ?_
          refine r_lv (lv' := [(2, .int (nI ((fgS yrq nq xf f1q (iq + 1)).1))), (3, .long (wgt yrq nq (f1q + iq) xf)), (6, .long (wgt yrq nq (f1q + iq) xf)), (0, .ref (gad G 4)), (1, .ref (gad G 21)), (5, .int (nI (f1q + iq)))]) (congrArg (fun zz => ([(2, .int zz), (3, .long (wgt yrq nq (f1q + iq) xf)), (6, .long (wgt yrq nq (f1q + iq) xf)), (0, .ref (gad G 4)), (1, .ref (gad G 21)), (5, .int (nI (f1q + iq)))] : List (Nat × Value))) (congrArg nI (fgS_t1 hb41))) ?_
          refine r_lv (lv' := [(2, .int (nI ((fgS yrq nq xf f1q (iq + 1)).1))), (3, .long ((fgS yrq nq xf f1q (iq + 1)).2)), (6, .long (wgt yrq nq (f1q + iq) xf)), (0, .ref (gad G 4)), (1, .ref (gad G 21)), (5, .int (nI (f1q + iq)))]) (congrArg (fun zz => ([(2, .int (nI ((fgS yrq nq xf f1q (iq + 1)).1))), (3, .long zz), (6, .long (wgt yrq nq (f1q + iq) xf)), (0, .ref (gad G 4)), (1, .ref (gad G 21)), (5, .int (nI (f1q + iq)))] : List (Nat × Value))) (fgS_t2 hb41)) ?_
          refine r_iinc o (v := nI (f1q + iq + 1)) (lv' := [(5, .int (nI (f1q + iq + 1))), (2, .int (nI ((fgS yrq nq xf f1q (iq + 1)).1))), (3, .long ((fgS yrq nq xf f1q (iq + 1)).2)), (6, .long (wgt yrq nq (f1q + iq) xf)), (0, .ref (gad G 4)), (1, .ref (gad G 21))]) dX8_firstGreatest_50 5 rfl (nI_inc _) (by decide) rfl ?_
          refine r_goto o (tgt := 15) dX8_firstGreatest_53 (by decide) ?_
          exact r_to rfl [4, 5, 1, 2, 0] rfl (ih15 (iq + 1) (by omega) (by omega))
  exact r_to rfl [3, 4, 2, 1, 0] rfl (L15 _ 0 (by omega) (Nat.lt_succ_self _))
set_option maxHeartbeats 4000000 in
set_option maxRecDepth 100000 in
theorem c_X8_greatest (l : Launch) (G : Gl) (σ : Sto) (yrq : Nat → Nat) (nq : Nat) (f1q : Nat) (t1q : Nat) (hft : 2 ≤ f1q ∧ f1q ≤ t1q ∧ t1q ≤ 12) (hf1 : (σ 4).1 1 = nI f1q) (ht1 : (σ 4).1 2 = nI t1q) (hla : ∀ jq, f1q ≤ jq → jq ≤ t1q → LaidO σ jq yrq nq) (xf : Nat → Int32) (hxf : (σ 21).1 = xf) : CtL l G yX8_greatest cX8_greatest 2 (some .long) 2 53 [.ref (gad G 4), .ref (gad G 21)] σ (fun r σ' => r = wgt yrq nq (fgS yrq nq xf f1q (t1q + 1 - f1q)).1 xf ∧ σ' = σ) := by
  refine CtL.of (by decide +kernel) (Nat.le_of_ble_eq_true rfl) (fun X o q => ?_)
  show WS X G 2 σ 0 [(0, .ref (gad G 4)), (1, .ref (gad G 21))] []
  have hfr := fgS_in (yrq := yrq) (nq := nq) (xf := xf) (f1q := f1q) (t1q + 1 - f1q)
  refine r_aload_n o dX8_greatest_0 0 rfl ?_
  refine gf_4_0 o mw_129 dX8_greatest_1 ?_
  refine r_aload_n o dX8_greatest_4 0 rfl ?_
  refine r_aload_n o dX8_greatest_5 1 rfl ?_
  refine r_callVI o (As := [.ref (gad G 21)]) (st := [.ref (gad G 31)]) (c_X8_firstGreatest (xl X) G σ yrq nq f1q t1q hft hf1 ht1 hla xf hxf) om_X8_firstGreatest mw_424 mw_425 mw_423 (by decide) rfl rfl rfl (by decide) rfl rfl (Nat.le_of_ble_eq_true rfl) dX8_greatest_6 (fun rr6 σσ6 hp6 => ?_)
  obtain ⟨hp6, hp6b⟩ := hp6; replace hp6 := Eq.symm hp6; replace hp6b := Eq.symm hp6b; subst hp6; subst hp6b
  refine r_rnds o ((fgS yrq nq xf f1q (t1q + 1 - f1q)).1) rfl (by omega) dX8_greatest_9 ?_
  refine r_aload_n o dX8_greatest_10 1 rfl ?_
  refine r_callVL o (As := [.ref (gad G 21)]) (st := []) (c_X7_weigh_21 (xl X) G σ ((fgS yrq nq xf f1q (t1q + 1 - f1q)).1) (by omega) yrq nq (hla _ (by omega) (by omega)) xf hxf) om_X7_weigh mw_429 mw_430 mw_428 (by omega) (ceR (by omega) _) rfl rfl (by decide) rfl rfl (Nat.le_of_ble_eq_true rfl) dX8_greatest_11 (fun rr11 σσ11 hp11 => ?_)
  obtain ⟨hp11, hp11b⟩ := hp11; replace hp11 := Eq.symm hp11; replace hp11b := Eq.symm hp11b; subst hp11; subst hp11b
  exact r_lreturn o q dX8_greatest_14 (⟨rfl, rfl⟩)
set_option maxHeartbeats 4000000 in
set_option maxRecDepth 100000 in
theorem c_X8_reach (l : Launch) (G : Gl) (σ : Sto) (yrq : Nat → Nat) (nq : Nat) (f1q : Nat) (t1q : Nat) (hft : 2 ≤ f1q ∧ f1q ≤ t1q ∧ t1q ≤ 12) (hf1 : (σ 4).1 1 = nI f1q) (ht1 : (σ 4).1 2 = nI t1q) (hla : ∀ jq, f1q ≤ jq → jq ≤ t1q → LaidO σ jq yrq nq) (xf : Nat → Int32) (hxf : (σ 26).1 = xf) (glq : Int64) : CtI l G yX8_reach cX8_reach 5 (some .boolean) 1 26 [.ref (gad G 4), .ref (gad G 26), .long glq] σ (fun r σ' => r = b01 (rchB yrq nq xf glq f1q (t1q + 1 - f1q)) ∧ σ' = σ) := by
  refine CtI.of (by decide +kernel) (Nat.le_of_ble_eq_true rfl) (fun X o q => ?_)
  show WS X G 5 σ 0 [(0, .ref (gad G 4)), (1, .ref (gad G 26)), (2, .long glq)] []
  refine r_aload_n o dX8_reach_0 0 rfl ?_
  refine gf_4_2 o (v := nI t1q) ht1 mw_131 dX8_reach_1 ?_
  refine r_istore o (lv' := [(4, .int (nI t1q)), (0, .ref (gad G 4)), (1, .ref (gad G 26)), (2, .long glq)]) dX8_reach_4 (by decide) rfl ?_
  have L6 : ∀ (n : Nat) (kq : Nat) (hkq : kq ≤ t1q + 1 - f1q) (hrq : rchB yrq nq xf glq f1q (t1q + 1 - f1q) = rchB yrq nq xf glq f1q kq), kq < n → WS X G 5 σ 6 [(0, .ref (gad G 4)), (1, .ref (gad G 26)), (2, .long glq), (4, .int (nI (f1q + kq - 1)))] [] := by
    intro n
    induction n with
    | zero => intro kq hkq hrq hm; exact absurd hm (Nat.not_lt_zero _)
    | succ n ih6 =>
      intro kq hkq hrq hm
      refine r_iload o dX8_reach_6 3 rfl ?_
      refine r_aload_n o dX8_reach_8 0 rfl ?_
      refine gf_4_1 o (v := nI f1q) hf1 mw_130 dX8_reach_9 ?_
      refine r_icmp_lt o (tgt := 39) dX8_reach_12 (by decide) (fun hb12 => ?_) (fun hb12 => ?_)
      · skip
        rw [nI_ltI (by omega) (by omega)] at hb12
        refine r_iconst o (v := nI 0) dX8_reach_39 (by decide) ?_
        exact r_zreturn o q (by decide) dX8_reach_40 (⟨b01_f' (by rw [hrq, show kq = 0 by omega]; rfl), rfl⟩)
      · skip
        rw [nI_ltI (by omega) (by omega)] at hb12
        refine r_aload_n o dX8_reach_15 0 rfl ?_
        refine gf_4_0 o mw_129 dX8_reach_16 ?_
        refine r_iload o dX8_reach_19 3 rfl ?_
        refine r_rnds o (f1q + kq - 1) rfl (by omega) dX8_reach_21 ?_
        refine r_aload_n o dX8_reach_22 1 rfl ?_
        refine r_callVL o (As := [.ref (gad G 26)]) (st := []) (c_X7_weigh_26 (xl X) G σ (f1q + kq - 1) (by omega) yrq nq (hla _ (by omega) (by omega)) xf hxf) om_X7_weigh mw_429 mw_430 mw_428 (by omega) (ceR (by omega) _) rfl rfl (by decide) rfl rfl (Nat.le_of_ble_eq_true rfl) dX8_reach_23 (fun rr23 σσ23 hp23 => ?_)
        obtain ⟨hp23, hp23b⟩ := hp23; replace hp23 := Eq.symm hp23; replace hp23b := Eq.symm hp23b; subst hp23; subst hp23b
        refine r_lload_n o dX8_reach_26 2 rfl ?_
        refine r_lcmp o dX8_reach_27 ?_
        refine r_if_lt o (tgt := 33) dX8_reach_28 (by decide) (fun hb28 => ?_) (fun hb28 => ?_)
        · skip
          rw [lg_cmp_lt] at hb28
          refine r_iinc o (v := nI (f1q + (kq - 1) - 1)) (lv' := [(4, .int (nI (f1q + (kq - 1) - 1))), (0, .ref (gad G 4)), (1, .ref (gad G 26)), (2, .long glq)]) dX8_reach_33 3 rfl (by rw [nI_dec (show 1 ≤ f1q + kq - 1 by omega)]; exact congrArg nI (by omega)) (by decide) rfl ?_
          refine r_goto o (tgt := 6) dX8_reach_36 (by decide) ?_
          exact r_to rfl [1, 2, 3, 0] rfl (ih6 (kq - 1) (by omega) (by rw [hrq, show kq = (kq - 1) + 1 by omega]; exact rch_n (by rw [show f1q + (kq - 1) = f1q + kq - 1 by omega]; exact l_nle.mpr hb28)) (by omega))
        · skip
          rw [lg_cmp_lt] at hb28
          refine r_iconst o (v := nI 1) dX8_reach_31 (by decide) ?_
          exact r_zreturn o q (by decide) dX8_reach_32 (⟨b01_t' (by rw [hrq, show kq = (kq - 1) + 1 by omega]; exact rch_y (by rw [show f1q + (kq - 1) = f1q + kq - 1 by omega]; exact l_nlt.mp hb28)), rfl⟩)
  refine r_lv (lv' := [(4, .int (nI (f1q + (t1q + 1 - f1q) - 1))), (0, .ref (gad G 4)), (1, .ref (gad G 26)), (2, .long glq)]) (congrArg (fun zz => ([(4, .int zz), (0, .ref (gad G 4)), (1, .ref (gad G 26)), (2, .long glq)] : List (Nat × Value))) (congrArg nI (show t1q = f1q + (t1q + 1 - f1q) - 1 by omega))) ?_
  exact r_to rfl [1, 2, 3, 0] rfl (L6 _ (t1q + 1 - f1q) (by omega) rfl (Nat.lt_succ_self _))
