set_option maxHeartbeats 4000000 in
set_option maxRecDepth 100000 in
theorem c_X4_swap (l : Launch) (G : Gl) (σ : Sto) (xf : Nat → Int32) (hxf : (σ 26).1 = xf) (iq : Nat) (hiq1 : iq < 24) (jq : Nat) (hj : jq < 24) : CtV l G yX4_swap cX4_swap 4 none 0 0 [.ref (gad G 5), .int (nI iq), .int (nI jq)] σ (fun σ' => σ' = sta σ 26 (swp xf iq jq)) := by
  refine CtV.of (by decide +kernel) (Nat.le_of_ble_eq_true rfl) (fun X o q => ?_)
  show WS X G 4 σ 0 [(0, .ref (gad G 5)), (1, .int (nI iq)), (2, .int (nI jq))] []
  refine r_aload_n o dX4_swap_0 0 rfl ?_
  refine gf_5_0 o mw_145 dX4_swap_1 ?_
  refine r_iload_n o dX4_swap_4 1 rfl ?_
  refine r_ia o (by decide) ia_26 (f := xf) hxf iq rfl (by omega) (by decide) dX4_swap_5 ?_
  refine r_istore_n o (lv' := [(3, .int (xf iq)), (0, .ref (gad G 5)), (1, .int (nI iq)), (2, .int (nI jq))]) dX4_swap_6 (by decide) rfl ?_
  refine r_aload_n o dX4_swap_7 1 rfl ?_
  refine gf_5_0 o mw_145 dX4_swap_8 ?_
  refine r_iload_n o dX4_swap_11 2 rfl ?_
  refine r_aload_n o dX4_swap_12 1 rfl ?_
  refine gf_5_0 o mw_145 dX4_swap_13 ?_
  refine r_iload_n o dX4_swap_16 3 rfl ?_
  refine r_ia o (by decide) ia_26 (f := xf) hxf jq rfl (by omega) (by decide) dX4_swap_17 ?_
  refine r_iast o (by decide) ia_26 iq rfl (by omega) (by decide) dX4_swap_18 ?_
  refine r_aload_n o dX4_swap_19 1 rfl ?_
  refine gf_5_0 o mw_145 dX4_swap_20 ?_
  refine r_iload_n o dX4_swap_23 3 rfl ?_
  refine r_iload_n o dX4_swap_24 0 rfl ?_
  refine r_iast o (by decide) ia_26 jq rfl (by omega) (by decide) dX4_swap_25 ?_
  exact r_return o q dX4_swap_26 (swp_sto hxf)
set_option maxHeartbeats 4000000 in
set_option maxRecDepth 100000 in
theorem c_X4_begin (l : Launch) (G : Gl) (σ : Sto) (nq : Nat) (hnq : (σ 2).1 3 = nI nq) (hn24 : nq ≤ 24) (sf : Nat → Int32) (hsf : (σ 21).1 = sf) (e0q : Nat → Int32) (he0 : (σ 26).1 = e0q) (vz : Int32) : CtV l G yX4_begin cX4_begin 4 none 0 0 [.ref (gad G 5), .ref (gad G 2), .int vz] σ (fun σ' => σ' = sta (stl (sti σ 5 1 (nI nq)) 5 2 vz.toInt64) 26 (mix sf e0q 0 nq)) := by
  refine CtV.of (by decide +kernel) (Nat.le_of_ble_eq_true rfl) (fun X o q => ?_)
  show WS X G 4 σ 0 [(0, .ref (gad G 5)), (1, .ref (gad G 2)), (2, .int vz)] []
  refine r_aload_n o dX4_begin_0 0 rfl ?_
  refine r_aload_n o dX4_begin_1 1 rfl ?_
  refine gfN_2_3 o (v := nI nq) hnq mw_92 dX4_begin_2 ?_
  refine pf_5_1 o mw_147 dX4_begin_5 ?_
  refine r_aload_n o dX4_begin_8 0 rfl ?_
  refine r_iload_n o dX4_begin_9 2 rfl ?_
  refine r_i2l o dX4_begin_10 rfl ?_
  refine pf_5_2 o mw_148 dX4_begin_11 ?_
  refine r_iconst o (v := nI 0) dX4_begin_14 (by decide) ?_
  refine r_istore_n o (lv' := [(3, .int (nI 0)), (0, .ref (gad G 5)), (1, .ref (gad G 2)), (2, .int vz)]) dX4_begin_15 (by decide) rfl ?_
  have L16 : ∀ (n : Nat) (kq : Nat) (hkq : kq ≤ nq), nq - kq < n → WS X G 4 (sta (stl (sti σ 5 1 (nI nq)) 5 2 vz.toInt64) 26 (mix sf e0q 0 kq)) 16 [(0, .ref (gad G 5)), (1, .ref (gad G 2)), (2, .int vz), (3, .int (nI kq))] [] := by
    intro n
    induction n with
    | zero => intro kq hkq hm; exact absurd hm (Nat.not_lt_zero _)
    | succ n ih16 =>
      intro kq hkq hm
      refine r_iload_n o dX4_begin_16 3 rfl ?_
      refine r_aload_n o dX4_begin_17 0 rfl ?_
      refine gf_5_1 (σ := sta (stl (sti σ 5 1 (nI nq)) 5 2 vz.toInt64) 26 (mix sf e0q 0 kq)) o (v := nI nq) rfl mw_147 dX4_begin_18 ?_
      refine r_icmp_ge o (tgt := 42) dX4_begin_21 (by decide) (fun hb21 => ?_) (fun hb21 => ?_)
      · skip
        rw [nI_leI (by omega) (by omega)] at hb21
        obtain rfl : nq = kq := by omega
        exact r_return o q dX4_begin_42 rfl
      · skip
        rw [nI_leI (by omega) (by omega)] at hb21
        refine r_aload_n o dX4_begin_24 0 rfl ?_
        refine gf_5_0 o mw_145 dX4_begin_25 ?_
        refine r_iload_n o dX4_begin_28 3 rfl ?_
        refine r_aload_n o dX4_begin_29 1 rfl ?_
        refine gfN_2_1 o mw_85 dX4_begin_30 ?_
        refine r_iload_n o dX4_begin_33 3 rfl ?_
        refine r_ia (σ := sta (stl (sti σ 5 1 (nI nq)) 5 2 vz.toInt64) 26 (mix sf e0q 0 kq)) o (by decide) ia_21 (f := sf) hsf kq rfl (by omega) (by decide) dX4_begin_34 ?_
        refine r_iast o (by decide) ia_26 kq rfl (by omega) (by decide) dX4_begin_35 ?_
        refine r_iinc o (v := nI (kq + 1)) (lv' := [(3, .int (nI (kq + 1))), (0, .ref (gad G 5)), (1, .ref (gad G 2)), (2, .int vz)]) dX4_begin_36 3 rfl (nI_inc _) (by decide) rfl ?_
        refine r_goto o (tgt := 16) dX4_begin_39 (by decide) ?_
        exact r_to (mix_fw (by omega) rfl) [1, 2, 3, 0] rfl (ih16 (kq + 1) (by omega) (by omega))
  exact r_to (by rw [mix_nil]; exact sta_id he0) [1, 2, 3, 0] rfl (L16 _ 0 (by omega) (Nat.lt_succ_self _))
set_option maxHeartbeats 4000000 in
set_option maxRecDepth 100000 in
theorem c_X4_draw (l : Launch) (G : Gl) (σ : Sto) (xf : Nat → Int32) (hxf : (σ 26).1 = xf) (nq : Nat) (hnq : (σ 5).1 1 = nI nq) (hn24 : nq ≤ 24) (sdq : Nat) (hsd : (σ 5).2 2 = lN sdq) (hsdl : sdq < 2147483648) : CtV l G yX4_draw cX4_draw 2 none 1 23 [.ref (gad G 5)] σ (fun σ' => σ' = sta (stl σ 5 2 (lN (drS (nq - 1) xf sdq).2)) 26 ((drS (nq - 1) xf sdq).1)) := by
  refine CtV.of (by decide +kernel) (Nat.le_of_ble_eq_true rfl) (fun X o q => ?_)
  show WS X G 2 σ 0 [(0, .ref (gad G 5))] []
  refine r_aload_n o dX4_draw_0 0 rfl ?_
  refine gf_5_1 o (v := nI nq) hnq mw_147 dX4_draw_1 ?_
  refine r_iconst o (v := nI 1) dX4_draw_4 (by decide) ?_
  refine r_isub o dX4_draw_5 ?_
  refine r_topi (y := nI nq - 1) rfl ?_
  refine r_istore_n o (lv' := [(1, .int (nI nq - 1)), (0, .ref (gad G 5))]) dX4_draw_6 (by decide) rfl ?_
  have L7 : ∀ (n : Nat) (kq : Nat) (gf : Nat → Int32) (seq1 : Nat) (hkq : kq ≤ nq) (hsel : seq1 < 2147483648) (hdq2 : drS (nq - 1) xf sdq = drS (kq - 1) gf seq1), kq < n → WS X G 2 (sta (stl σ 5 2 (lN seq1)) 26 gf) 7 [(0, .ref (gad G 5)), (1, .int (nI kq - 1))] [] := by
    intro n
    induction n with
    | zero => intro kq gf seq1 hkq hsel hdq2 hm; exact absurd hm (Nat.not_lt_zero _)
    | succ n ih7 =>
      intro kq gf seq1 hkq hsel hdq2 hm
      refine r_iload_n o dX4_draw_7 1 rfl ?_
      refine r_if_le o (tgt := 48) dX4_draw_8 (by decide) (fun hb8 => ?_) (fun hb8 => ?_)
      · skip
        rw [nI_le1 (by omega)] at hb8
        have hd0 : drS (nq - 1) xf sdq = (gf, seq1) := by rw [hdq2, show kq - 1 = 0 by omega]; rfl
        exact r_return o q dX4_draw_48 (by rw [hd0])
      · skip
        rw [nI_le1 (by omega)] at hb8
        obtain ⟨jq, rfl⟩ : ∃ zq, kq = zq + 2 := ⟨kq - 2, by omega⟩
        refine r_lv (lv' := [(0, .ref (gad G 5)), (1, .int (nI (jq + 1)))]) (congrArg (fun zz => ([(0, .ref (gad G 5)), (1, .int zz)] : List (Nat × Value))) (nI_pred _)) ?_
        refine r_aload_n o dX4_draw_11 0 rfl ?_
        refine r_aload_n o dX4_draw_12 0 rfl ?_
        refine gf_5_2 (σ := sta (stl σ 5 2 (lN seq1)) 26 gf) o (v := lN seq1) rfl mw_148 dX4_draw_13 ?_
        refine r_ldc2_w o mw_497 dX4_draw_16 ?_
        refine r_lmul o dX4_draw_19 ?_
        refine r_ldc2_w o mw_498 dX4_draw_20 ?_
        refine r_lrem o dX4_draw_23 (by decide) ?_
        refine r_topl (y := lrm ((lN seq1) * 16807) 2147483647) rfl ?_
        refine r_topl (y := lN (seq1 * 16807 % 2147483647)) (seed1 hsel) ?_
        refine pf_5_2 o mw_148 dX4_draw_24 ?_
        refine r_aload_n o dX4_draw_27 0 rfl ?_
        refine r_iload_n o dX4_draw_28 1 rfl ?_
        refine r_aload_n o dX4_draw_29 0 rfl ?_
        refine gf_5_2 (σ := stl (sta (stl σ 5 2 (lN seq1)) 26 gf) 5 2 (lN (seq1 * 16807 % 2147483647))) o (v := lN (seq1 * 16807 % 2147483647)) rfl mw_148 dX4_draw_30 ?_
        refine r_iload_n o dX4_draw_33 1 rfl ?_
        refine r_iconst o (v := nI 1) dX4_draw_34 (by decide) ?_
        refine r_iadd o dX4_draw_35 ?_
        refine r_topi (y := nI (jq + 1 + 1)) (nI_add' _ _) ?_
        refine r_i2l o dX4_draw_36 rfl ?_
        refine r_lrem o dX4_draw_37 (i2l_ne (by omega) (by omega)) ?_
        refine r_topl (y := lrm (lN (seq1 * 16807 % 2147483647)) ((nI (jq + 1 + 1)).toInt64)) rfl ?_
        refine r_l2i o dX4_draw_38 rfl ?_
        refine r_topi (y := nI (seq1 * 16807 % 2147483647 % (jq + 1 + 1))) (seed2 (by omega) (by omega)) ?_
        refine r_callVV o (As := [.int (nI (jq + 1)), .int (nI (seq1 * 16807 % 2147483647 % (jq + 1 + 1)))]) (st := []) (c_X4_swap (xl X) G (stl (sta (stl σ 5 2 (lN seq1)) 26 gf) 5 2 (lN (seq1 * 16807 % 2147483647))) gf rfl (jq + 1) (by omega) (seq1 * 16807 % 2147483647 % (jq + 1 + 1)) (by have hml := Nat.mod_lt (seq1 * 16807 % 2147483647) (show 0 < jq + 1 + 1 by omega); omega)) om_X4_swap mw_474 mw_10 mw_472 (by decide) rfl rfl rfl (by decide) rfl rfl (Nat.le_of_ble_eq_true rfl) dX4_draw_39 (fun σσ39 hp39 => ?_)
        replace hp39 := Eq.symm hp39; subst hp39
        refine r_iinc o (v := nI (jq + 1) - 1) (lv' := [(1, .int (nI (jq + 1) - 1)), (0, .ref (gad G 5))]) dX4_draw_42 1 rfl (nI_decm _) (by decide) rfl ?_
        refine r_goto o (tgt := 7) dX4_draw_45 (by decide) ?_
        exact r_to (by simp (disch := omega) only [stl_sta_ne, stl_stl, sta_sta]) [1, 0] rfl (ih7 (jq + 1) (swp gf (jq + 1) (seq1 * 16807 % 2147483647 % (jq + 1 + 1))) (seq1 * 16807 % 2147483647) (by omega) (by omega) (by rw [hdq2]; rfl) (by omega))
  exact r_to (by conv => lhs; rw [stl_id hsd, sta_id (σ := stl σ 5 2 (lN sdq)) (cz := 26) hxf]) [1, 0] rfl (L7 _ nq xf sdq (by omega) hsdl rfl (Nat.lt_succ_self _))
set_option maxHeartbeats 4000000 in
set_option maxRecDepth 100000 in
theorem c_X4_sort (l : Launch) (G : Gl) (σ : Sto) (xf : Nat → Int32) (hxf : (σ 26).1 = xf) (nq : Nat) (hnq : (σ 5).1 1 = nI nq) (hn24 : nq ≤ 24) (hn1 : 1 ≤ nq) : CtV l G yX4_sort cX4_sort 3 none 1 23 [.ref (gad G 5)] σ (fun σ' => σ' = sta σ 26 (srS xf nq)) := by
  refine CtV.of (by decide +kernel) (Nat.le_of_ble_eq_true rfl) (fun X o q => ?_)
  show WS X G 3 σ 0 [(0, .ref (gad G 5))] []
  refine r_iconst o (v := nI 1) dX4_sort_0 (by decide) ?_
  refine r_istore_n o (lv' := [(1, .int (nI 1)), (0, .ref (gad G 5))]) dX4_sort_1 (by decide) rfl ?_
  have L2 : ∀ (n : Nat) (eq1 : Nat) (he1 : 1 ≤ eq1 ∧ eq1 ≤ nq), nq - eq1 < n → WS X G 3 (sta σ 26 (srS xf eq1)) 2 [(0, .ref (gad G 5)), (1, .int (nI eq1))] [] := by
    intro n
    induction n with
    | zero => intro eq1 he1 hm; exact absurd hm (Nat.not_lt_zero _)
    | succ n ih2 =>
      intro eq1 he1 hm
      refine r_iload_n o dX4_sort_2 1 rfl ?_
      refine r_aload_n o dX4_sort_3 0 rfl ?_
      refine gf_5_1 (σ := sta σ 26 (srS xf eq1)) o (v := nI nq) hnq mw_147 dX4_sort_4 ?_
      refine r_icmp_ge o (tgt := 53) dX4_sort_7 (by decide) (fun hb7 => ?_) (fun hb7 => ?_)
      · skip
        rw [nI_leI (by omega) (by omega)] at hb7
        obtain rfl : nq = eq1 := by omega
        exact r_return o q dX4_sort_53 rfl
      · skip
        rw [nI_leI (by omega) (by omega)] at hb7
        refine r_iload_n o dX4_sort_10 1 rfl ?_
        refine r_istore_n o (lv' := [(2, .int (nI eq1)), (0, .ref (gad G 5)), (1, .int (nI eq1))]) dX4_sort_11 (by decide) rfl ?_
        have L12 : ∀ (n : Nat) (iq : Nat) (gf : Nat → Int32) (hiq1 : iq ≤ eq1) (hinq : srS xf (eq1 + 1) = insS iq gf), iq < n → WS X G 3 (sta σ 26 gf) 12 [(0, .ref (gad G 5)), (1, .int (nI eq1)), (2, .int (nI iq))] [] := by
          intro n
          induction n with
          | zero => intro iq gf hiq1 hinq hm; exact absurd hm (Nat.not_lt_zero _)
          | succ n ih12 =>
            intro iq gf hiq1 hinq hm
            refine r_iload_n o dX4_sort_12 2 rfl ?_
            refine r_if_le o (tgt := 47) dX4_sort_13 (by decide) (fun hb13 => ?_) (fun hb13 => ?_)
            · skip
              rw [nI_le0 (by omega)] at hb13
              obtain rfl : iq = 0 := by omega
              have hinq : srS xf (eq1 + 1) = gf := hinq
              refine r_iinc o (v := nI (eq1 + 1)) (lv' := [(1, .int (nI (eq1 + 1))), (0, .ref (gad G 5)), (2, .int (nI 0))]) dX4_sort_47 1 rfl (nI_inc _) (by decide) rfl ?_
              refine r_goto o (tgt := 2) dX4_sort_50 (by decide) ?_
              exact r_to (congrArg (sta σ 26) hinq.symm) [1, 0] rfl (ih2 (eq1 + 1) (by omega) (by omega))
            · skip
              rw [nI_le0 (by omega)] at hb13
              refine r_aload_n o dX4_sort_16 0 rfl ?_
              refine gf_5_0 o mw_145 dX4_sort_17 ?_
              refine r_iload_n o dX4_sort_20 2 rfl ?_
              refine r_iconst o (v := nI 1) dX4_sort_21 (by decide) ?_
              refine r_isub o dX4_sort_22 ?_
              refine r_topi (y := nI (iq - 1)) (nI_sub' (by omega)) ?_
              refine r_ia (σ := sta σ 26 gf) o (by decide) ia_26 (f := gf) rfl (iq - 1) rfl (by omega) (by decide) dX4_sort_23 ?_
              refine r_aload_n o dX4_sort_24 0 rfl ?_
              refine gf_5_0 o mw_145 dX4_sort_25 ?_
              refine r_iload_n o dX4_sort_28 2 rfl ?_
              refine r_ia (σ := sta σ 26 gf) o (by decide) ia_26 (f := gf) rfl iq rfl (by omega) (by decide) dX4_sort_29 ?_
              refine r_icmp_le o (tgt := 47) dX4_sort_30 (by decide) (fun hb30 => ?_) (fun hb30 => ?_)
              · skip
                have hinq : srS xf (eq1 + 1) = gf := by rw [hinq, show iq = (iq - 1) + 1 by omega]; exact insS_n (by rw [show iq - 1 + 1 = iq by omega]; exact hb30)
                refine r_iinc o (v := nI (eq1 + 1)) (lv' := [(1, .int (nI (eq1 + 1))), (0, .ref (gad G 5)), (2, .int (nI iq))]) dX4_sort_47 1 rfl (nI_inc _) (by decide) rfl ?_
                refine r_goto o (tgt := 2) dX4_sort_50 (by decide) ?_
                exact r_to (congrArg (sta σ 26) hinq.symm) [1, 0] rfl (ih2 (eq1 + 1) (by omega) (by omega))
              · skip
                have hb30 : ¬ gf (iq - 1) ≤ gf (iq - 1 + 1) := by rw [show iq - 1 + 1 = iq by omega]; exact hb30
                refine r_aload_n o dX4_sort_33 0 rfl ?_
                refine r_iload_n o dX4_sort_34 2 rfl ?_
                refine r_iconst o (v := nI 1) dX4_sort_35 (by decide) ?_
                refine r_isub o dX4_sort_36 ?_
                refine r_topi (y := nI (iq - 1)) (nI_sub' (by omega)) ?_
                refine r_iload_n o dX4_sort_37 2 rfl ?_
                refine r_callVV o (As := [.int (nI (iq - 1)), .int (nI iq)]) (st := []) (c_X4_swap (xl X) G (sta σ 26 gf) gf rfl (iq - 1) (by omega) iq (by omega)) om_X4_swap mw_474 mw_10 mw_472 (by decide) rfl rfl rfl (by decide) rfl rfl (Nat.le_of_ble_eq_true rfl) dX4_sort_38 (fun σσ38 hp38 => ?_)
                replace hp38 := Eq.symm hp38; subst hp38
                refine r_iinc o (v := nI (iq - 1)) (lv' := [(2, .int (nI (iq - 1))), (0, .ref (gad G 5)), (1, .int (nI eq1))]) dX4_sort_41 2 rfl (nI_dec (by omega)) (by decide) rfl ?_
                refine r_goto o (tgt := 12) dX4_sort_44 (by decide) ?_
                exact r_to sta_sta [1, 2, 0] rfl (ih12 (iq - 1) (swp gf (iq - 1) iq) (by omega) (by rw [hinq, show iq = (iq - 1) + 1 by omega]; exact insS_y hb30) (by omega))
        exact r_to rfl [1, 2, 0] rfl (L12 _ eq1 (srS xf eq1) (by omega) rfl (Nat.lt_succ_self _))
  exact r_to (sta_id hxf) [1, 0] rfl (L2 _ 1 (by omega) (Nat.lt_succ_self _))
set_option maxHeartbeats 4000000 in
set_option maxRecDepth 100000 in
theorem c_X4_next (l : Launch) (G : Gl) (σ : Sto) (xf : Nat → Int32) (hxf : (σ 26).1 = xf) (nq : Nat) (hnq : (σ 5).1 1 = nI nq) (hn24 : nq ≤ 24) (hn1 : 1 ≤ nq) : CtI l G yX4_next cX4_next 5 (some .boolean) 1 23 [.ref (gad G 5)] σ (fun r σ' => r = b01 (decide (0 < riS xf (nq - 1))) ∧ σ' = sta σ 26 (nxS xf nq)) := by
  refine CtI.of (by decide +kernel) (Nat.le_of_ble_eq_true rfl) (fun X o q => ?_)
  show WS X G 5 σ 0 [(0, .ref (gad G 5))] []
  have hrl := riS_le xf (nq - 1)
  refine r_aload_n o dX4_next_0 0 rfl ?_
  refine gf_5_1 o (v := nI nq) hnq mw_147 dX4_next_1 ?_
  refine r_iconst o (v := nI 2) dX4_next_4 (by decide) ?_
  refine r_isub o dX4_next_5 ?_
  refine r_topi (y := nI (nq - 1) - 1) (nI_m2 hn1 (by omega)) ?_
  refine r_istore_n o (lv' := [(1, .int (nI (nq - 1) - 1)), (0, .ref (gad G 5))]) dX4_next_6 (by decide) rfl ?_
  have L7 : ∀ (n : Nat) (kq : Nat) (hkq : kq ≤ nq - 1) (hriq : riS xf (nq - 1) = riS xf kq), kq < n → WS X G 5 σ 7 [(0, .ref (gad G 5)), (1, .int (nI kq - 1))] [] := by
    intro n
    induction n with
    | zero => intro kq hkq hriq hm; exact absurd hm (Nat.not_lt_zero _)
    | succ n ih7 =>
      intro kq hkq hriq hm
      refine r_iload_n o dX4_next_7 1 rfl ?_
      refine r_if_lt o (tgt := 34) dX4_next_8 (by decide) (fun hb8 => ?_) (fun hb8 => ?_)
      · skip
        rw [nI_lt1 (by omega)] at hb8
        subst hb8
        have hr0 : riS xf (nq - 1) = 0 := hriq
        refine r_iload_n o dX4_next_34 1 rfl ?_
        refine r_if_ge o (tgt := 40) dX4_next_35 (by decide) (fun hb35 => ?_) (fun hb35 => ?_)
        · skip
          exact absurd hb35 (by decide)
        · skip
          refine r_iconst o (v := nI 0) dX4_next_38 (by decide) ?_
          exact r_zreturn o q (by decide) dX4_next_39 (⟨b01_f' (by rw [hr0]; rfl), by rw [show nxS xf nq = xf from if_pos hr0]; exact sta_id hxf⟩)
      · skip
        rw [nI_lt1 (by omega)] at hb8
        obtain ⟨jq, rfl⟩ : ∃ zq, kq = zq + 1 := ⟨kq - 1, by omega⟩
        refine r_lv (lv' := [(0, .ref (gad G 5)), (1, .int (nI jq))]) (congrArg (fun zz => ([(0, .ref (gad G 5)), (1, .int zz)] : List (Nat × Value))) (nI_pred _)) ?_
        refine r_aload_n o dX4_next_11 0 rfl ?_
        refine gf_5_0 o mw_145 dX4_next_12 ?_
        refine r_iload_n o dX4_next_15 1 rfl ?_
        refine r_ia o (by decide) ia_26 (f := xf) hxf jq rfl (by omega) (by decide) dX4_next_16 ?_
        refine r_aload_n o dX4_next_17 0 rfl ?_
        refine gf_5_0 o mw_145 dX4_next_18 ?_
        refine r_iload_n o dX4_next_21 1 rfl ?_
        refine r_iconst o (v := nI 1) dX4_next_22 (by decide) ?_
        refine r_iadd o dX4_next_23 ?_
        refine r_topi (y := nI (jq + 1)) (nI_add' _ _) ?_
        refine r_ia o (by decide) ia_26 (f := xf) hxf (jq + 1) rfl (by omega) (by decide) dX4_next_24 ?_
        refine r_icmp_lt o (tgt := 34) dX4_next_25 (by decide) (fun hb25 => ?_) (fun hb25 => ?_)
        · skip
          have hr1 : riS xf (nq - 1) = jq + 1 := by rw [hriq]; exact riS_y hb25
          refine r_iload_n o dX4_next_34 1 rfl ?_
          refine r_if_ge o (tgt := 40) dX4_next_35 (by decide) (fun hb35 => ?_) (fun hb35 => ?_)
          · skip
            rw [nI_ge0 (by omega)] at hb35
            refine r_aload_n o dX4_next_40 0 rfl ?_
            refine gf_5_1 o (v := nI nq) hnq mw_147 dX4_next_41 ?_
            refine r_iconst o (v := nI 1) dX4_next_44 (by decide) ?_
            refine r_isub o dX4_next_45 ?_
            refine r_topi (y := nI (nq - 1)) (nI_sub' (by omega)) ?_
            refine r_istore_n o (lv' := [(2, .int (nI (nq - 1))), (0, .ref (gad G 5)), (1, .int (nI jq))]) dX4_next_46 (by decide) rfl ?_
            have L47 : ∀ (n : Nat) (gq : Nat) (hgq1 : gq ≤ nq - 1) (hgrq : grS xf jq (nq - 1) = grS xf jq gq), gq < n → WS X G 5 σ 47 [(0, .ref (gad G 5)), (1, .int (nI jq)), (2, .int (nI gq))] [] := by
              intro n
              induction n with
              | zero => intro gq hgq1 hgrq hm; exact absurd hm (Nat.not_lt_zero _)
              | succ n ih47 =>
                intro gq hgq1 hgrq hm
                refine r_iload_n o dX4_next_47 2 rfl ?_
                refine r_iload_n o dX4_next_48 1 rfl ?_
                refine r_icmp_le o (tgt := 73) dX4_next_49 (by decide) (fun hb49 => ?_) (fun hb49 => ?_)
                · skip
                  rw [nI_leI (by omega) (by omega)] at hb49
                  have hgr : grS xf jq (nq - 1) = gq := by rw [hgrq]; exact grS_a hb49
                  refine r_aload_n o dX4_next_73 0 rfl ?_
                  refine r_iload_n o dX4_next_74 1 rfl ?_
                  refine r_iload_n o dX4_next_75 2 rfl ?_
                  refine r_callVV o (As := [.int (nI jq), .int (nI gq)]) (st := []) (c_X4_swap (xl X) G σ xf hxf jq (by omega) gq (by omega)) om_X4_swap mw_474 mw_10 mw_472 (by decide) rfl rfl rfl (by decide) rfl rfl (Nat.le_of_ble_eq_true rfl) dX4_next_76 (fun σσ76 hp76 => ?_)
                  replace hp76 := Eq.symm hp76; subst hp76
                  refine r_iload_n o dX4_next_79 1 rfl ?_
                  refine r_iconst o (v := nI 1) dX4_next_80 (by decide) ?_
                  refine r_iadd o dX4_next_81 ?_
                  refine r_topi (y := nI (jq + 1)) (nI_add' _ _) ?_
                  refine r_istore_n o (lv' := [(3, .int (nI (jq + 1))), (0, .ref (gad G 5)), (1, .int (nI jq)), (2, .int (nI gq))]) dX4_next_82 (by decide) rfl ?_
                  refine r_aload_n o dX4_next_83 1 rfl ?_
                  refine gf_5_1 (σ := sta σ 26 (swp xf jq gq)) o (v := nI nq) hnq mw_147 dX4_next_84 ?_
                  refine r_iconst o (v := nI 1) dX4_next_87 (by decide) ?_
                  refine r_isub o dX4_next_88 ?_
                  refine r_topi (y := nI (nq - 1)) (nI_sub' (by omega)) ?_
                  refine r_istore o (lv' := [(4, .int (nI (nq - 1))), (3, .int (nI (jq + 1))), (0, .ref (gad G 5)), (1, .int (nI jq)), (2, .int (nI gq))]) dX4_next_89 (by decide) rfl ?_
                  have L91 : ∀ (n : Nat) (fuq : Nat) (iq : Nat) (kq : Nat) (gf : Nat → Int32) (hfq : kq < iq + fuq) (hik : 1 ≤ iq ∧ iq ≤ kq + 1 ∧ kq ≤ nq - 1) (hrvq : nxS xf nq = rvS fuq gf iq kq), fuq < n → WS X G 5 (sta σ 26 gf) 91 [(0, .ref (gad G 5)), (1, .int (nI jq)), (2, .int (nI gq)), (3, .int (nI iq)), (4, .int (nI kq))] [] := by
                    intro n
                    induction n with
                    | zero => intro fuq iq kq gf hfq hik hrvq hm; exact absurd hm (Nat.not_lt_zero _)
                    | succ n ih91 =>
                      intro fuq iq kq gf hfq hik hrvq hm
                      refine r_iload_n o dX4_next_91 3 rfl ?_
                      refine r_iload o dX4_next_92 4 rfl ?_
                      refine r_icmp_ge o (tgt := 113) dX4_next_94 (by decide) (fun hb94 => ?_) (fun hb94 => ?_)
                      · skip
                        rw [nI_leI (by omega) (by omega)] at hb94
                        refine r_iconst o (v := nI 1) dX4_next_113 (by decide) ?_
                        exact r_zreturn o q (by decide) dX4_next_114 (⟨b01_t' (by rw [hr1]; exact decide_eq_true (by omega)), by rw [hrvq, rvS_n hb94]⟩)
                      · skip
                        rw [nI_leI (by omega) (by omega)] at hb94
                        obtain ⟨fuq1, rfl⟩ : ∃ zq, fuq = zq + 1 := ⟨fuq - 1, by omega⟩
                        refine r_aload_n o dX4_next_97 0 rfl ?_
                        refine r_iload_n o dX4_next_98 3 rfl ?_
                        refine r_iload o dX4_next_99 4 rfl ?_
                        refine r_callVV o (As := [.int (nI iq), .int (nI kq)]) (st := []) (c_X4_swap (xl X) G (sta σ 26 gf) gf rfl iq (by omega) kq (by omega)) om_X4_swap mw_474 mw_10 mw_472 (by decide) rfl rfl rfl (by decide) rfl rfl (Nat.le_of_ble_eq_true rfl) dX4_next_101 (fun σσ101 hp101 => ?_)
                        replace hp101 := Eq.symm hp101; subst hp101
                        refine r_iinc o (v := nI (iq + 1)) (lv' := [(3, .int (nI (iq + 1))), (0, .ref (gad G 5)), (1, .int (nI jq)), (2, .int (nI gq)), (4, .int (nI kq))]) dX4_next_104 3 rfl (nI_inc _) (by decide) rfl ?_
                        refine r_iinc o (v := nI (kq - 1)) (lv' := [(4, .int (nI (kq - 1))), (3, .int (nI (iq + 1))), (0, .ref (gad G 5)), (1, .int (nI jq)), (2, .int (nI gq))]) dX4_next_107 4 rfl (nI_dec (by omega)) (by decide) rfl ?_
                        refine r_goto o (tgt := 91) dX4_next_110 (by decide) ?_
                        exact r_to sta_sta [2, 3, 4, 1, 0] rfl (ih91 fuq1 (iq + 1) (kq - 1) (swp gf iq kq) (by omega) (by omega) (by rw [hrvq]; exact rvS_y hb94) (by omega))
                  exact r_to rfl [2, 3, 4, 1, 0] rfl (L91 _ 24 (jq + 1) (nq - 1) (swp xf jq gq) (by omega) (by omega) (by show (if _ then _ else _) = _; rw [if_neg (by omega), hr1, show jq + 1 - 1 = jq from rfl, hgr]) (Nat.lt_succ_self _))
                · skip
                  rw [nI_leI (by omega) (by omega)] at hb49
                  refine r_aload_n o dX4_next_52 0 rfl ?_
                  refine gf_5_0 o mw_145 dX4_next_53 ?_
                  refine r_iload_n o dX4_next_56 2 rfl ?_
                  refine r_ia o (by decide) ia_26 (f := xf) hxf gq rfl (by omega) (by decide) dX4_next_57 ?_
                  refine r_aload_n o dX4_next_58 0 rfl ?_
                  refine gf_5_0 o mw_145 dX4_next_59 ?_
                  refine r_iload_n o dX4_next_62 1 rfl ?_
                  refine r_ia o (by decide) ia_26 (f := xf) hxf jq rfl (by omega) (by decide) dX4_next_63 ?_
                  refine r_icmp_gt o (tgt := 73) dX4_next_64 (by decide) (fun hb64 => ?_) (fun hb64 => ?_)
                  · skip
                    have hgr : grS xf jq (nq - 1) = gq := by rw [hgrq]; exact grS_b hb64
                    refine r_aload_n o dX4_next_73 0 rfl ?_
                    refine r_iload_n o dX4_next_74 1 rfl ?_
                    refine r_iload_n o dX4_next_75 2 rfl ?_
                    refine r_callVV o (As := [.int (nI jq), .int (nI gq)]) (st := []) (c_X4_swap (xl X) G σ xf hxf jq (by omega) gq (by omega)) om_X4_swap mw_474 mw_10 mw_472 (by decide) rfl rfl rfl (by decide) rfl rfl (Nat.le_of_ble_eq_true rfl) dX4_next_76 (fun σσ76 hp76 => ?_)
                    replace hp76 := Eq.symm hp76; subst hp76
                    refine r_iload_n o dX4_next_79 1 rfl ?_
                    refine r_iconst o (v := nI 1) dX4_next_80 (by decide) ?_
                    refine r_iadd o dX4_next_81 ?_
                    refine r_topi (y := nI (jq + 1)) (nI_add' _ _) ?_
                    refine r_istore_n o (lv' := [(3, .int (nI (jq + 1))), (0, .ref (gad G 5)), (1, .int (nI jq)), (2, .int (nI gq))]) dX4_next_82 (by decide) rfl ?_
                    refine r_aload_n o dX4_next_83 1 rfl ?_
                    refine gf_5_1 (σ := sta σ 26 (swp xf jq gq)) o (v := nI nq) hnq mw_147 dX4_next_84 ?_
                    refine r_iconst o (v := nI 1) dX4_next_87 (by decide) ?_
                    refine r_isub o dX4_next_88 ?_
                    refine r_topi (y := nI (nq - 1)) (nI_sub' (by omega)) ?_
                    refine r_istore o (lv' := [(4, .int (nI (nq - 1))), (3, .int (nI (jq + 1))), (0, .ref (gad G 5)), (1, .int (nI jq)), (2, .int (nI gq))]) dX4_next_89 (by decide) rfl ?_
                    have L91 : ∀ (n : Nat) (fuq : Nat) (iq : Nat) (kq : Nat) (gf : Nat → Int32) (hfq : kq < iq + fuq) (hik : 1 ≤ iq ∧ iq ≤ kq + 1 ∧ kq ≤ nq - 1) (hrvq : nxS xf nq = rvS fuq gf iq kq), fuq < n → WS X G 5 (sta σ 26 gf) 91 [(0, .ref (gad G 5)), (1, .int (nI jq)), (2, .int (nI gq)), (3, .int (nI iq)), (4, .int (nI kq))] [] := by
                      intro n
                      induction n with
                      | zero => intro fuq iq kq gf hfq hik hrvq hm; exact absurd hm (Nat.not_lt_zero _)
                      | succ n ih91 =>
                        intro fuq iq kq gf hfq hik hrvq hm
                        refine r_iload_n o dX4_next_91 3 rfl ?_
                        refine r_iload o dX4_next_92 4 rfl ?_
                        refine r_icmp_ge o (tgt := 113) dX4_next_94 (by decide) (fun hb94 => ?_) (fun hb94 => ?_)
                        · skip
                          rw [nI_leI (by omega) (by omega)] at hb94
                          refine r_iconst o (v := nI 1) dX4_next_113 (by decide) ?_
                          exact r_zreturn o q (by decide) dX4_next_114 (⟨b01_t' (by rw [hr1]; exact decide_eq_true (by omega)), by rw [hrvq, rvS_n hb94]⟩)
                        · skip
                          rw [nI_leI (by omega) (by omega)] at hb94
                          obtain ⟨fuq1, rfl⟩ : ∃ zq, fuq = zq + 1 := ⟨fuq - 1, by omega⟩
                          refine r_aload_n o dX4_next_97 0 rfl ?_
                          refine r_iload_n o dX4_next_98 3 rfl ?_
                          refine r_iload o dX4_next_99 4 rfl ?_
                          refine r_callVV o (As := [.int (nI iq), .int (nI kq)]) (st := []) (c_X4_swap (xl X) G (sta σ 26 gf) gf rfl iq (by omega) kq (by omega)) om_X4_swap mw_474 mw_10 mw_472 (by decide) rfl rfl rfl (by decide) rfl rfl (Nat.le_of_ble_eq_true rfl) dX4_next_101 (fun σσ101 hp101 => ?_)
                          replace hp101 := Eq.symm hp101; subst hp101
                          refine r_iinc o (v := nI (iq + 1)) (lv' := [(3, .int (nI (iq + 1))), (0, .ref (gad G 5)), (1, .int (nI jq)), (2, .int (nI gq)), (4, .int (nI kq))]) dX4_next_104 3 rfl (nI_inc _) (by decide) rfl ?_
                          refine r_iinc o (v := nI (kq - 1)) (lv' := [(4, .int (nI (kq - 1))), (3, .int (nI (iq + 1))), (0, .ref (gad G 5)), (1, .int (nI jq)), (2, .int (nI gq))]) dX4_next_107 4 rfl (nI_dec (by omega)) (by decide) rfl ?_
                          refine r_goto o (tgt := 91) dX4_next_110 (by decide) ?_
                          exact r_to sta_sta [2, 3, 4, 1, 0] rfl (ih91 fuq1 (iq + 1) (kq - 1) (swp gf iq kq) (by omega) (by omega) (by rw [hrvq]; exact rvS_y hb94) (by omega))
                    exact r_to rfl [2, 3, 4, 1, 0] rfl (L91 _ 24 (jq + 1) (nq - 1) (swp xf jq gq) (by omega) (by omega) (by show (if _ then _ else _) = _; rw [if_neg (by omega), hr1, show jq + 1 - 1 = jq from rfl, hgr]) (Nat.lt_succ_self _))
                  · skip
                    refine r_iinc o (v := nI (gq - 1)) (lv' := [(2, .int (nI (gq - 1))), (0, .ref (gad G 5)), (1, .int (nI jq))]) dX4_next_67 2 rfl (nI_dec (by omega)) (by decide) rfl ?_
                    refine r_goto o (tgt := 47) dX4_next_70 (by decide) ?_
                    exact r_to rfl [1, 2, 0] rfl (ih47 (gq - 1) (by omega) (by rw [hgrq, show gq = (gq - 1) + 1 by omega]; exact grS_c (by omega) (by rw [show gq - 1 + 1 = gq by omega]; exact hb64)) (by omega))
            exact r_to rfl [1, 2, 0] rfl (L47 _ (nq - 1) (by omega) rfl (Nat.lt_succ_self _))
          · skip
            rw [nI_ge0 (by omega)] at hb35
            exact absurd (Nat.zero_le _) hb35
        · skip
          refine r_iinc o (v := nI jq - 1) (lv' := [(1, .int (nI jq - 1)), (0, .ref (gad G 5))]) dX4_next_28 1 rfl (nI_decm _) (by decide) rfl ?_
          refine r_goto o (tgt := 7) dX4_next_31 (by decide) ?_
          exact r_to rfl [1, 0] rfl (ih7 jq (by omega) (by rw [hriq]; exact riS_n hb25) (by omega))
  exact r_to rfl [1, 0] rfl (L7 _ (nq - 1) (by omega) rfl (Nat.lt_succ_self _))
set_option maxHeartbeats 4000000 in
set_option maxRecDepth 100000 in
theorem c_X3_sideOfHeap (l : Launch) (G : Gl) (σ : Sto) (yrq : Nat → Nat) (nq : Nat) (hnq : (σ 2).1 3 = nI nq) (hn24 : nq ≤ 24) (hyr : ∀ jq, jq < nq → (σ 22).1 jq = nI (yrq jq)) (hy24 : ∀ jq, yrq jq < 24) (lq : Nat) (hlq : 2 ≤ lq ∧ lq ≤ 12) (hlen : (σ 6).1 0 = nI lq) (xf : Nat → Int32) (hxf : (σ 21).1 = xf) (yq1 : Nat) (hyq1 : yq1 < 24) (smq : Int64) : CtI l G yX3_sideOfHeap cX3_sideOfHeap 10 (some .int) 1 23 [.ref (gad G 6), .ref (gad G 2), .int (nI yq1), .long smq] σ (fun r σ' => r = sideQ yrq nq lq xf yq1 smq ∧ σ' = σ) := by
  refine CtI.of (by decide +kernel) (Nat.le_of_ble_eq_true rfl) (fun X o q => ?_)
  show WS X G 10 σ 0 [(0, .ref (gad G 6)), (1, .ref (gad G 2)), (2, .int (nI yq1)), (3, .long smq)] []
  refine r_lconst o (v := 0) dX3_sideOfHeap_0 rfl ?_
  refine r_lstore o (lv' := [(5, .long 0), (0, .ref (gad G 6)), (1, .ref (gad G 2)), (2, .int (nI yq1)), (3, .long smq)]) dX3_sideOfHeap_1 (by decide) rfl ?_
  refine r_lconst o (v := 0) dX3_sideOfHeap_3 rfl ?_
  refine r_lstore o (lv' := [(7, .long 0), (5, .long 0), (0, .ref (gad G 6)), (1, .ref (gad G 2)), (2, .int (nI yq1)), (3, .long smq)]) dX3_sideOfHeap_4 (by decide) rfl ?_
  refine r_iconst o (v := nI 0) dX3_sideOfHeap_6 (by decide) ?_
  refine r_istore o (lv' := [(9, .int (nI 0)), (7, .long 0), (5, .long 0), (0, .ref (gad G 6)), (1, .ref (gad G 2)), (2, .int (nI yq1)), (3, .long smq)]) dX3_sideOfHeap_7 (by decide) rfl ?_
  have L9 : ∀ (n : Nat) (iq : Nat) (hiq1 : iq ≤ nq), nq - iq < n → WS X G 10 σ 9 [(0, .ref (gad G 6)), (1, .ref (gad G 2)), (2, .int (nI yq1)), (3, .long smq), (5, .long (hsum yrq lq (yq1 % lq) xf iq)), (7, .long (lN (cntR yrq lq (yq1 % lq) iq))), (9, .int (nI iq))] [] := by
    intro n
    induction n with
    | zero => intro iq hiq1 hm; exact absurd hm (Nat.not_lt_zero _)
    | succ n ih9 =>
      intro iq hiq1 hm
      have hyq := hy24 iq
      have hym := Nat.mod_le (yrq iq) lq
      have hym2 := Nat.mod_le yq1 lq
      refine r_iload o dX3_sideOfHeap_9 6 rfl ?_
      refine r_aload_n o dX3_sideOfHeap_11 1 rfl ?_
      refine gfN_2_3 o (v := nI nq) hnq mw_94 dX3_sideOfHeap_12 ?_
      refine r_icmp_ge o (tgt := 71) dX3_sideOfHeap_15 (by decide) (fun hb15 => ?_) (fun hb15 => ?_)
      · skip
        rw [nI_leI (by omega) (by omega)] at hb15
        obtain rfl : nq = iq := by omega
        refine r_lload o dX3_sideOfHeap_71 4 rfl ?_
        refine r_aload_n o dX3_sideOfHeap_73 1 rfl ?_
        refine gfN_2_3 o (v := nI nq) hnq mw_94 dX3_sideOfHeap_74 ?_
        refine r_i2l o dX3_sideOfHeap_77 rfl ?_
        refine r_lmul o dX3_sideOfHeap_78 ?_
        refine r_lload_n o dX3_sideOfHeap_79 3 rfl ?_
        refine r_lload o dX3_sideOfHeap_80 5 rfl ?_
        refine r_lmul o dX3_sideOfHeap_82 ?_
        refine r_callSI o (As := [.long ((hsum yrq lq (yq1 % lq) xf nq) * ((nI nq).toInt64)), .long (smq * (lN (cntR yrq lq (yq1 % lq) nq)))]) (st := []) (c_J13_compare_74951 (xl X) G σ ((hsum yrq lq (yq1 % lq) xf nq) * ((nI nq).toInt64)) (smq * (lN (cntR yrq lq (yq1 % lq) nq)))) om_J13_compare_74951 mw_558 mw_557 (by decide) rfl rfl (Nat.le_of_ble_eq_true rfl) dX3_sideOfHeap_83 (fun rr83 σσ83 hp83 => ?_)
        obtain ⟨hp83, hp83b⟩ := hp83; replace hp83 := Eq.symm hp83; replace hp83b := Eq.symm hp83b; subst hp83; subst hp83b
        exact r_ireturn o q dX3_sideOfHeap_86 (⟨rfl, rfl⟩)
      · skip
        rw [nI_leI (by omega) (by omega)] at hb15
        refine r_aload_n o dX3_sideOfHeap_18 0 rfl ?_
        refine gf_6_0 o (v := nI lq) hlen mw_162 dX3_sideOfHeap_19 ?_
        refine r_if_le o (tgt := 71) dX3_sideOfHeap_22 (by decide) (fun hb22 => ?_) (fun hb22 => ?_)
        · skip
          rw [nI_le0 (by omega)] at hb22
          omega
        · skip
          rw [nI_le0 (by omega)] at hb22
          refine r_aload_n o dX3_sideOfHeap_25 1 rfl ?_
          refine gfN_2_2 o mw_90 dX3_sideOfHeap_26 ?_
          refine r_iload o dX3_sideOfHeap_29 6 rfl ?_
          refine r_ia o (by decide) ia_22 (f := (σ 22).1) rfl iq rfl (by omega) (by decide) dX3_sideOfHeap_31 ?_
          refine r_topi (y := nI (yrq iq)) (hyr _ (by omega)) ?_
          refine r_aload_n o dX3_sideOfHeap_32 0 rfl ?_
          refine gf_6_0 o (v := nI lq) hlen mw_162 dX3_sideOfHeap_33 ?_
          refine r_irem o dX3_sideOfHeap_36 (nI_z (by omega) (by omega)) ?_
          refine r_topi (y := nI ((yrq iq) % lq)) (nI_rem' (by omega) (by omega) (by omega)) ?_
          refine r_iload_n o dX3_sideOfHeap_37 2 rfl ?_
          refine r_aload_n o dX3_sideOfHeap_38 0 rfl ?_
          refine gf_6_0 o (v := nI lq) hlen mw_162 dX3_sideOfHeap_39 ?_
          refine r_irem o dX3_sideOfHeap_42 (nI_z (by omega) (by omega)) ?_
          refine r_topi (y := nI (yq1 % lq)) (nI_rem' (by omega) (by omega) (by omega)) ?_
          refine r_icmp_ne o (tgt := 65) dX3_sideOfHeap_43 (by decide) (fun hb43 => ?_) (fun hb43 => ?_)
          · skip
            rw [nI_eq (by omega) (by omega)] at hb43
            refine r_lv (lv' := [(0, .ref (gad G 6)), (1, .ref (gad G 2)), (2, .int (nI yq1)), (3, .long smq), (5, .long (hsum yrq lq (yq1 % lq) xf (iq + 1))), (7, .long (lN (cntR yrq lq (yq1 % lq) iq))), (9, .int (nI iq))]) (congrArg (fun zz => ([(0, .ref (gad G 6)), (1, .ref (gad G 2)), (2, .int (nI yq1)), (3, .long smq), (5, .long zz), (7, .long (lN (cntR yrq lq (yq1 % lq) iq))), (9, .int (nI iq))] : List (Nat × Value))) (hs_n hb43)) ?_
            refine r_lv (lv' := [(0, .ref (gad G 6)), (1, .ref (gad G 2)), (2, .int (nI yq1)), (3, .long smq), (5, .long (hsum yrq lq (yq1 % lq) xf (iq + 1))), (7, .long (lN (cntR yrq lq (yq1 % lq) (iq + 1)))), (9, .int (nI iq))]) (congrArg (fun zz => ([(0, .ref (gad G 6)), (1, .ref (gad G 2)), (2, .int (nI yq1)), (3, .long smq), (5, .long (hsum yrq lq (yq1 % lq) xf (iq + 1))), (7, .long zz), (9, .int (nI iq))] : List (Nat × Value))) (cn_n hb43)) ?_
            refine r_iinc o (v := nI (iq + 1)) (lv' := [(9, .int (nI (iq + 1))), (0, .ref (gad G 6)), (1, .ref (gad G 2)), (2, .int (nI yq1)), (3, .long smq), (5, .long (hsum yrq lq (yq1 % lq) xf (iq + 1))), (7, .long (lN (cntR yrq lq (yq1 % lq) (iq + 1))))]) dX3_sideOfHeap_65 6 rfl (nI_inc _) (by decide) rfl ?_
            refine r_goto o (tgt := 9) dX3_sideOfHeap_68 (by decide) ?_
            exact r_to rfl [1, 2, 3, 4, 5, 6, 0] rfl (ih9 (iq + 1) (by omega) (by omega))
          · skip
            rw [nI_eq (by omega) (by omega)] at hb43
            refine r_lload o dX3_sideOfHeap_46 4 rfl ?_
            refine r_aload_n o dX3_sideOfHeap_48 1 rfl ?_
            refine gfN_2_1 o mw_86 dX3_sideOfHeap_49 ?_
            refine r_iload o dX3_sideOfHeap_52 6 rfl ?_
            refine r_ia o (by decide) ia_21 (f := xf) hxf iq rfl (by omega) (by decide) dX3_sideOfHeap_54 ?_
            refine r_i2l o dX3_sideOfHeap_55 rfl ?_
            refine r_ladd o dX3_sideOfHeap_56 ?_
            refine r_lstore o (lv' := [(5, .long ((hsum yrq lq (yq1 % lq) xf iq) + ((xf iq).toInt64))), (0, .ref (gad G 6)), (1, .ref (gad G 2)), (2, .int (nI yq1)), (3, .long smq), (7, .long (lN (cntR yrq lq (yq1 % lq) iq))), (9, .int (nI iq))]) dX3_sideOfHeap_57 (by decide) rfl ?_
            refine r_lload o dX3_sideOfHeap_59 5 rfl ?_
            refine r_lconst o (v := 1) dX3_sideOfHeap_61 rfl ?_
            refine r_ladd o dX3_sideOfHeap_62 ?_
            refine r_lstore o (lv' := [(7, .long ((lN (cntR yrq lq (yq1 % lq) iq)) + 1)), (5, .long ((hsum yrq lq (yq1 % lq) xf iq) + ((xf iq).toInt64))), (0, .ref (gad G 6)), (1, .ref (gad G 2)), (2, .int (nI yq1)), (3, .long smq), (9, .int (nI iq))]) dX3_sideOfHeap_63 (by decide) rfl ?_
            refine r_lv (lv' := [(7, .long ((lN (cntR yrq lq (yq1 % lq) iq)) + 1)), (5, .long (hsum yrq lq (yq1 % lq) xf (iq + 1))), (0, .ref (gad G 6)), (1, .ref (gad G 2)), (2, .int (nI yq1)), (3, .long smq), (9, .int (nI iq))]) (congrArg (fun zz => ([(7, .long ((lN (cntR yrq lq (yq1 % lq) iq)) + 1)), (5, .long zz), (0, .ref (gad G 6)), (1, .ref (gad G 2)), (2, .int (nI yq1)), (3, .long smq), (9, .int (nI iq))] : List (Nat × Value))) (hs_y hb43)) ?_
            refine r_lv (lv' := [(7, .long (lN (cntR yrq lq (yq1 % lq) (iq + 1)))), (5, .long (hsum yrq lq (yq1 % lq) xf (iq + 1))), (0, .ref (gad G 6)), (1, .ref (gad G 2)), (2, .int (nI yq1)), (3, .long smq), (9, .int (nI iq))]) (congrArg (fun zz => ([(7, .long zz), (5, .long (hsum yrq lq (yq1 % lq) xf (iq + 1))), (0, .ref (gad G 6)), (1, .ref (gad G 2)), (2, .int (nI yq1)), (3, .long smq), (9, .int (nI iq))] : List (Nat × Value))) (cn_y hb43)) ?_
            refine r_iinc o (v := nI (iq + 1)) (lv' := [(9, .int (nI (iq + 1))), (7, .long (lN (cntR yrq lq (yq1 % lq) (iq + 1)))), (5, .long (hsum yrq lq (yq1 % lq) xf (iq + 1))), (0, .ref (gad G 6)), (1, .ref (gad G 2)), (2, .int (nI yq1)), (3, .long smq)]) dX3_sideOfHeap_65 6 rfl (nI_inc _) (by decide) rfl ?_
            refine r_goto o (tgt := 9) dX3_sideOfHeap_68 (by decide) ?_
            exact r_to rfl [3, 4, 5, 6, 2, 1, 0] rfl (ih9 (iq + 1) (by omega) (by omega))
  refine r_lv (lv' := [(9, .int (nI 0)), (7, .long (lN 0)), (5, .long 0), (0, .ref (gad G 6)), (1, .ref (gad G 2)), (2, .int (nI yq1)), (3, .long smq)]) (congrArg (fun zz => ([(9, .int (nI 0)), (7, .long zz), (5, .long 0), (0, .ref (gad G 6)), (1, .ref (gad G 2)), (2, .int (nI yq1)), (3, .long smq)] : List (Nat × Value))) (show (0 : Int64) = lN 0 by decide)) ?_
  exact r_to rfl [3, 4, 5, 6, 2, 1, 0] rfl (L9 _ 0 (by omega) (Nat.lt_succ_self _))
set_option maxHeartbeats 4000000 in
set_option maxRecDepth 100000 in
theorem c_X3_lookAt (l : Launch) (G : Gl) (σ : Sto) (yrq : Nat → Nat) (nq : Nat) (hnq : (σ 2).1 3 = nI nq) (hn24 : nq ≤ 24) (hyr : ∀ jq, jq < nq → (σ 22).1 jq = nI (yrq jq)) (hy24 : ∀ jq, yrq jq < 24) (lq : Nat) (hlq : 2 ≤ lq ∧ lq ≤ 12) (hlen : (σ 6).1 0 = nI lq) (xf : Nat → Int32) (hxf : (σ 21).1 = xf) (bf : Nat → Int32) (hbf : (σ 20).1 = bf) (yq1 : Nat) (hyq1 : yq1 < 24) (hdq : Nat) (hhd : (σ 6).1 1 = nI hdq) (cdq : Nat) (hcd : (σ 6).1 2 = nI cdq) : CtV l G yX3_lookAt cX3_lookAt 7 none 2 52 [.ref (gad G 6), .ref (gad G 2), .int (nI yq1)] σ (fun σ' => σ' = sti (sti σ 6 2 (nI (if sideY nq (bf yq1) (sumL xf nq) = 0 then cdq else if sideQ yrq nq lq xf yq1 (sumL xf nq) = 0 then cdq else cdq + 1))) 6 1 (nI (if sideY nq (bf yq1) (sumL xf nq) = 0 then hdq else if sideQ yrq nq lq xf yq1 (sumL xf nq) = 0 then hdq else if sideY nq (bf yq1) (sumL xf nq) = sideQ yrq nq lq xf yq1 (sumL xf nq) then hdq + 1 else hdq))) := by
  refine CtV.of (by decide +kernel) (Nat.le_of_ble_eq_true rfl) (fun X o q => ?_)
  show WS X G 7 σ 0 [(0, .ref (gad G 6)), (1, .ref (gad G 2)), (2, .int (nI yq1))] []
  refine r_aload_n o dX3_lookAt_0 1 rfl ?_
  refine r_callVL o (As := []) (st := []) (c_X0_sum (xl X) G σ nq hnq hn24 xf hxf) om_X0_sum mw_416 mw_417 mw_556 (by decide) rfl rfl rfl (by decide) rfl rfl (Nat.le_of_ble_eq_true rfl) dX3_lookAt_1 (fun rr1 σσ1 hp1 => ?_)
  obtain ⟨hp1, hp1b⟩ := hp1; replace hp1 := Eq.symm hp1; replace hp1b := Eq.symm hp1b; subst hp1; subst hp1b
  refine r_lstore_n o (lv' := [(3, .long (sumL xf nq)), (0, .ref (gad G 6)), (1, .ref (gad G 2)), (2, .int (nI yq1))]) dX3_lookAt_4 (by decide) rfl ?_
  refine r_aload_n o dX3_lookAt_5 2 rfl ?_
  refine gfN_2_0 o mw_82 dX3_lookAt_6 ?_
  refine r_iload_n o dX3_lookAt_9 3 rfl ?_
  refine r_ia o (by decide) ia_20 (f := bf) hbf yq1 rfl (by omega) (by decide) dX3_lookAt_10 ?_
  refine r_i2l o dX3_lookAt_11 rfl ?_
  refine r_aload_n o dX3_lookAt_12 2 rfl ?_
  refine gfN_2_3 o (v := nI nq) hnq mw_94 dX3_lookAt_13 ?_
  refine r_i2l o dX3_lookAt_16 rfl ?_
  refine r_lmul o dX3_lookAt_17 ?_
  refine r_lload_n o dX3_lookAt_18 0 rfl ?_
  refine r_callSI o (As := [.long (((bf yq1).toInt64) * ((nI nq).toInt64)), .long (sumL xf nq)]) (st := []) (c_J13_compare_74951 (xl X) G σ (((bf yq1).toInt64) * ((nI nq).toInt64)) (sumL xf nq)) om_J13_compare_74951 mw_558 mw_557 (by decide) rfl rfl (Nat.le_of_ble_eq_true rfl) dX3_lookAt_19 (fun rr19 σσ19 hp19 => ?_)
  obtain ⟨hp19, hp19b⟩ := hp19; replace hp19 := Eq.symm hp19; replace hp19b := Eq.symm hp19b; subst hp19; subst hp19b
  refine r_istore o (lv' := [(5, .int (cmpI (((bf yq1).toInt64) * ((nI nq).toInt64)) (sumL xf nq))), (3, .long (sumL xf nq)), (0, .ref (gad G 6)), (1, .ref (gad G 2)), (2, .int (nI yq1))]) dX3_lookAt_22 (by decide) rfl ?_
  refine r_aload_n o dX3_lookAt_24 2 rfl ?_
  refine r_aload_n o dX3_lookAt_25 3 rfl ?_
  refine r_iload_n o dX3_lookAt_26 4 rfl ?_
  refine r_lload_n o dX3_lookAt_27 1 rfl ?_
  refine r_callVI o (As := [.ref (gad G 2), .int (nI yq1), .long (sumL xf nq)]) (st := []) (c_X3_sideOfHeap (xl X) G σ yrq nq hnq hn24 hyr hy24 lq hlq hlen xf hxf yq1 hyq1 (sumL xf nq)) om_X3_sideOfHeap mw_562 mw_15 mw_560 (by decide) rfl rfl rfl (by decide) rfl rfl (Nat.le_of_ble_eq_true rfl) dX3_lookAt_28 (fun rr28 σσ28 hp28 => ?_)
  obtain ⟨hp28, hp28b⟩ := hp28; replace hp28 := Eq.symm hp28; replace hp28b := Eq.symm hp28b; subst hp28; subst hp28b
  refine r_istore o (lv' := [(6, .int (sideQ yrq nq lq xf yq1 (sumL xf nq))), (5, .int (cmpI (((bf yq1).toInt64) * ((nI nq).toInt64)) (sumL xf nq))), (3, .long (sumL xf nq)), (0, .ref (gad G 6)), (1, .ref (gad G 2)), (2, .int (nI yq1))]) dX3_lookAt_31 (by decide) rfl ?_
  refine r_lv (lv' := [(6, .int (sideQ yrq nq lq xf yq1 (sumL xf nq))), (5, .int (sideY nq (bf yq1) (sumL xf nq))), (3, .long (sumL xf nq)), (0, .ref (gad G 6)), (1, .ref (gad G 2)), (2, .int (nI yq1))]) (congrArg (fun zz => ([(6, .int (sideQ yrq nq lq xf yq1 (sumL xf nq))), (5, .int zz), (3, .long (sumL xf nq)), (0, .ref (gad G 6)), (1, .ref (gad G 2)), (2, .int (nI yq1))] : List (Nat × Value))) (rfl)) ?_
  refine r_iload o dX3_lookAt_33 1 rfl ?_
  refine r_if_eq o (tgt := 70) dX3_lookAt_35 (by decide) (fun hb35 => ?_) (fun hb35 => ?_)
  · skip
    exact r_return o q dX3_lookAt_70 (by first | (rw [if_pos hb35, if_pos hb35]; exact (sti_id hcd).trans (sti_id hhd)) | (rw [if_neg hb35, if_neg hb35, if_pos hb40, if_pos hb40]; exact (sti_id hcd).trans (sti_id hhd)) | (rw [if_neg hb35, if_neg hb35, if_neg hb40, if_neg hb40, if_neg hb57]; exact sti_id hhd) | (rw [if_neg hb35, if_neg hb35, if_neg hb40, if_neg hb40, if_pos hb57]))
  · skip
    refine r_iload o dX3_lookAt_38 0 rfl ?_
    refine r_if_eq o (tgt := 70) dX3_lookAt_40 (by decide) (fun hb40 => ?_) (fun hb40 => ?_)
    · skip
      exact r_return o q dX3_lookAt_70 (by first | (rw [if_pos hb35, if_pos hb35]; exact (sti_id hcd).trans (sti_id hhd)) | (rw [if_neg hb35, if_neg hb35, if_pos hb40, if_pos hb40]; exact (sti_id hcd).trans (sti_id hhd)) | (rw [if_neg hb35, if_neg hb35, if_neg hb40, if_neg hb40, if_neg hb57]; exact sti_id hhd) | (rw [if_neg hb35, if_neg hb35, if_neg hb40, if_neg hb40, if_pos hb57]))
    · skip
      refine r_aload_n o dX3_lookAt_43 3 rfl ?_
      refine r_dup o dX3_lookAt_44 rfl ?_
      refine gf_6_2 o (v := nI cdq) hcd mw_166 dX3_lookAt_45 ?_
      refine r_iconst o (v := nI 1) dX3_lookAt_48 (by decide) ?_
      refine r_iadd o dX3_lookAt_49 ?_
      refine r_topi (y := nI (cdq + 1)) (nI_add' _ _) ?_
      refine pf_6_2 o mw_166 dX3_lookAt_50 ?_
      refine r_iload o dX3_lookAt_53 1 rfl ?_
      refine r_iload o dX3_lookAt_55 0 rfl ?_
      refine r_icmp_ne o (tgt := 70) dX3_lookAt_57 (by decide) (fun hb57 => ?_) (fun hb57 => ?_)
      · skip
        exact r_return o q dX3_lookAt_70 (by first | (rw [if_pos hb35, if_pos hb35]; exact (sti_id hcd).trans (sti_id hhd)) | (rw [if_neg hb35, if_neg hb35, if_pos hb40, if_pos hb40]; exact (sti_id hcd).trans (sti_id hhd)) | (rw [if_neg hb35, if_neg hb35, if_neg hb40, if_neg hb40, if_neg hb57]; exact sti_id hhd) | (rw [if_neg hb35, if_neg hb35, if_neg hb40, if_neg hb40, if_pos hb57]))
      · skip
        refine r_aload_n o dX3_lookAt_60 3 rfl ?_
        refine r_dup o dX3_lookAt_61 rfl ?_
        refine gf_6_1 (σ := sti σ 6 2 (nI (cdq + 1))) o (v := nI hdq) hhd mw_164 dX3_lookAt_62 ?_
        refine r_iconst o (v := nI 1) dX3_lookAt_65 (by decide) ?_
        refine r_iadd o dX3_lookAt_66 ?_
        refine r_topi (y := nI (hdq + 1)) (nI_add' _ _) ?_
        refine pf_6_1 o mw_164 dX3_lookAt_67 ?_
        exact r_return o q dX3_lookAt_70 (by first | (rw [if_pos hb35, if_pos hb35]; exact (sti_id hcd).trans (sti_id hhd)) | (rw [if_neg hb35, if_neg hb35, if_pos hb40, if_pos hb40]; exact (sti_id hcd).trans (sti_id hhd)) | (rw [if_neg hb35, if_neg hb35, if_neg hb40, if_neg hb40, if_neg hb57]; exact sti_id hhd) | (rw [if_neg hb35, if_neg hb35, if_neg hb40, if_neg hb40, if_pos hb57]))
set_option maxHeartbeats 4000000 in
set_option maxRecDepth 100000 in
theorem c_X3_look (l : Launch) (G : Gl) (σ : Sto) (yrq : Nat → Nat) (nq : Nat) (hnq : (σ 2).1 3 = nI nq) (hn24 : nq ≤ 24) (hyr : ∀ jq, jq < nq → (σ 22).1 jq = nI (yrq jq)) (hy24 : ∀ jq, yrq jq < 24) (lq : Nat) (hlq : 2 ≤ lq ∧ lq ≤ 12) (xf : Nat → Int32) (hxf : (σ 21).1 = xf) (bf : Nat → Int32) (hbf : (σ 20).1 = bf) (y0q : Nat) (hy0 : y0q ≤ 24) : CtV l G yX3_look cX3_look 5 none 3 78 [.ref (gad G 6), .ref (gad G 2), .int (nI y0q), .int (nI lq)] σ (fun σ' => σ' = sti (sti (sti σ 6 0 (nI lq)) 6 2 (nI ((lkS yrq nq lq xf bf y0q (24 - y0q)).2))) 6 1 (nI ((lkS yrq nq lq xf bf y0q (24 - y0q)).1))) := by
  refine CtV.of (by decide +kernel) (Nat.le_of_ble_eq_true rfl) (fun X o q => ?_)
  show WS X G 5 σ 0 [(0, .ref (gad G 6)), (1, .ref (gad G 2)), (2, .int (nI y0q)), (3, .int (nI lq))] []
  refine r_aload_n o dX3_look_0 0 rfl ?_
  refine r_iload_n o dX3_look_1 3 rfl ?_
  refine pf_6_0 o mw_162 dX3_look_2 ?_
  refine r_aload_n o dX3_look_5 0 rfl ?_
  refine r_iconst o (v := nI 0) dX3_look_6 (by decide) ?_
  refine pf_6_1 o mw_164 dX3_look_7 ?_
  refine r_aload_n o dX3_look_10 0 rfl ?_
  refine r_iconst o (v := nI 0) dX3_look_11 (by decide) ?_
  refine pf_6_2 o mw_166 dX3_look_12 ?_
  refine r_iconst o (v := nI 0) dX3_look_15 (by decide) ?_
  refine r_iload_n o dX3_look_16 2 rfl ?_
  refine r_max o (mw 550 (by decide +kernel) (by decide +kernel)) (mw 367 (by decide +kernel) (by decide +kernel)) (mw 47 (by decide +kernel) (by decide +kernel)) (mw 368 (by decide +kernel) (by decide +kernel)) (by decide) (Nat.le_of_ble_eq_true rfl) dX3_look_17 ?_
  refine r_topi (y := nI y0q) (max0 (by omega)) ?_
  refine r_istore o (lv' := [(4, .int (nI y0q)), (0, .ref (gad G 6)), (1, .ref (gad G 2)), (2, .int (nI y0q)), (3, .int (nI lq))]) dX3_look_20 (by decide) rfl ?_
  have L22 : ∀ (n : Nat) (kq : Nat) (hkq : y0q + kq ≤ 24), 24 - y0q - kq < n → WS X G 5 (sti (sti (sti σ 6 0 (nI lq)) 6 2 (nI ((lkS yrq nq lq xf bf y0q kq).2))) 6 1 (nI ((lkS yrq nq lq xf bf y0q kq).1))) 22 [(0, .ref (gad G 6)), (1, .ref (gad G 2)), (2, .int (nI y0q)), (3, .int (nI lq)), (4, .int (nI (y0q + kq)))] [] := by
    intro n
    induction n with
    | zero => intro kq hkq hm; exact absurd hm (Nat.not_lt_zero _)
    | succ n ih22 =>
      intro kq hkq hm
      refine r_iload o dX3_look_22 4 rfl ?_
      refine r_bipush o (v := nI 24) dX3_look_24 (by decide) ?_
      refine r_icmp_ge o (tgt := 54) dX3_look_26 (by decide) (fun hb26 => ?_) (fun hb26 => ?_)
      · skip
        rw [nI_leI (by omega) (by omega)] at hb26
        obtain rfl : kq = 24 - y0q := by omega
        exact r_return o q dX3_look_54 rfl
      · skip
        rw [nI_leI (by omega) (by omega)] at hb26
        refine r_aload_n o dX3_look_29 1 rfl ?_
        refine gfN_2_0 o mw_82 dX3_look_30 ?_
        refine r_iload o dX3_look_33 4 rfl ?_
        refine r_ia (σ := sti (sti (sti σ 6 0 (nI lq)) 6 2 (nI ((lkS yrq nq lq xf bf y0q kq).2))) 6 1 (nI ((lkS yrq nq lq xf bf y0q kq).1))) o (by decide) ia_20 (f := bf) hbf (y0q + kq) rfl (by omega) (by decide) dX3_look_35 ?_
        refine r_ldc o mw_551 dX3_look_36 ?_
        refine r_icmp_eq o (tgt := 48) dX3_look_38 (by decide) (fun hb38 => ?_) (fun hb38 => ?_)
        · skip
          refine r_iinc o (v := nI (y0q + kq + 1)) (lv' := [(4, .int (nI (y0q + kq + 1))), (0, .ref (gad G 6)), (1, .ref (gad G 2)), (2, .int (nI y0q)), (3, .int (nI lq))]) dX3_look_48 4 rfl (nI_inc _) (by decide) rfl ?_
          refine r_goto o (tgt := 22) dX3_look_51 (by decide) ?_
          exact r_to (by rw [lkS_g hb38]) [1, 2, 3, 4, 0] rfl (ih22 (kq + 1) (by omega) (by omega))
        · skip
          refine r_aload_n o dX3_look_41 0 rfl ?_
          refine r_aload_n o dX3_look_42 1 rfl ?_
          refine r_iload o dX3_look_43 4 rfl ?_
          refine r_callVV o (As := [.ref (gad G 2), .int (nI (y0q + kq))]) (st := []) (c_X3_lookAt (xl X) G (sti (sti (sti σ 6 0 (nI lq)) 6 2 (nI ((lkS yrq nq lq xf bf y0q kq).2))) 6 1 (nI ((lkS yrq nq lq xf bf y0q kq).1))) yrq nq hnq hn24 hyr hy24 lq hlq rfl xf hxf bf hbf (y0q + kq) (by omega) ((lkS yrq nq lq xf bf y0q kq).1) rfl ((lkS yrq nq lq xf bf y0q kq).2) rfl) om_X3_lookAt mw_554 mw_14 mw_552 (by decide) rfl rfl rfl (by decide) rfl rfl (Nat.le_of_ble_eq_true rfl) dX3_look_45 (fun σσ45 hp45 => ?_)
          replace hp45 := Eq.symm hp45; subst hp45
          refine r_iinc o (v := nI (y0q + kq + 1)) (lv' := [(4, .int (nI (y0q + kq + 1))), (0, .ref (gad G 6)), (1, .ref (gad G 2)), (2, .int (nI y0q)), (3, .int (nI lq))]) dX3_look_48 4 rfl (nI_inc _) (by decide) rfl ?_
          refine r_goto o (tgt := 22) dX3_look_51 (by decide) ?_
          exact r_to (by rw [lkS_c hb38]; exact lk_sto) [1, 2, 3, 4, 0] rfl (ih22 (kq + 1) (by omega) (by omega))
  exact r_to (by show _ = sti (sti (sti σ 6 0 (nI lq)) 6 2 (nI 0)) 6 1 (nI 0); rw [sti_com (by decide)]) [1, 2, 3, 4, 0] rfl (L22 _ 0 (by omega) (Nat.lt_succ_self _))
set_option maxHeartbeats 4000000 in
set_option maxRecDepth 100000 in
theorem c_X3_putLuck (l : Launch) (G : Gl) (σ : Sto) (hdq : Nat) (hhd : (σ 6).1 1 = nI hdq) (cdq : Nat) (hcd : (σ 6).1 2 = nI cdq) (hcl : hdq ≤ cdq ∧ cdq ≤ 24) : CtV l G yX3_putLuck cX3_putLuck 7 none 2 56 [.ref (gad G 6), .ref (gad G 7)] σ (fun σ' => σ' = stl (stl σ 7 0 (fU (lkW hdq cdq (cdq + 1)).2 (1 <<< ((nI cdq).toInt64 &&& 63)))) 7 1 (fL (lkW hdq cdq (cdq + 1)).2 (1 <<< ((nI cdq).toInt64 &&& 63)))) := by
  refine CtV.of (by decide +kernel) (Nat.le_of_ble_eq_true rfl) (fun X o q => ?_)
  show WS X G 7 σ 0 [(0, .ref (gad G 6)), (1, .ref (gad G 7))] []
  refine r_lconst o (v := 1) dX3_putLuck_0 rfl ?_
  refine r_lstore_n o (lv' := [(2, .long 1), (0, .ref (gad G 6)), (1, .ref (gad G 7))]) dX3_putLuck_1 (by decide) rfl ?_
  refine r_lconst o (v := 0) dX3_putLuck_2 rfl ?_
  refine r_lstore o (lv' := [(4, .long 0), (2, .long 1), (0, .ref (gad G 6)), (1, .ref (gad G 7))]) dX3_putLuck_3 (by decide) rfl ?_
  refine r_iconst o (v := nI 0) dX3_putLuck_5 (by decide) ?_
  refine r_istore o (lv' := [(6, .int (nI 0)), (4, .long 0), (2, .long 1), (0, .ref (gad G 6)), (1, .ref (gad G 7))]) dX3_putLuck_6 (by decide) rfl ?_
  have L8 : ∀ (n : Nat) (iq : Nat) (hiq1 : iq ≤ cdq + 1), cdq + 1 - iq < n → WS X G 7 σ 8 [(0, .ref (gad G 6)), (1, .ref (gad G 7)), (2, .long ((lkW hdq cdq iq).1)), (4, .long ((lkW hdq cdq iq).2)), (6, .int (nI iq))] [] := by
    intro n
    induction n with
    | zero => intro iq hiq1 hm; exact absurd hm (Nat.not_lt_zero _)
    | succ n ih8 =>
      intro iq hiq1 hm
      refine r_iload o dX3_putLuck_8 4 rfl ?_
      refine r_aload_n o dX3_putLuck_10 0 rfl ?_
      refine gf_6_2 o (v := nI cdq) hcd mw_166 dX3_putLuck_11 ?_
      refine r_icmp_gt o (tgt := 55) dX3_putLuck_14 (by decide) (fun hb14 => ?_) (fun hb14 => ?_)
      · skip
        rw [nI_ltI (by omega) (by omega)] at hb14
        obtain rfl : iq = cdq + 1 := by omega
        refine r_aload_n o dX3_putLuck_55 1 rfl ?_
        refine r_lload o dX3_putLuck_56 3 rfl ?_
        refine r_lconst o (v := 1) dX3_putLuck_58 rfl ?_
        refine r_aload_n o dX3_putLuck_59 0 rfl ?_
        refine gf_6_2 o (v := nI cdq) hcd mw_166 dX3_putLuck_60 ?_
        refine r_lshl o dX3_putLuck_63 rfl ?_
        refine r_callVV o (As := [.long ((lkW hdq cdq (cdq + 1)).2), .long (1 <<< ((nI cdq).toInt64 &&& 63))]) (st := []) (c_X2_put_7 (xl X) G σ ((lkW hdq cdq (cdq + 1)).2) (1 <<< ((nI cdq).toInt64 &&& 63))) om_X2_put mw_438 mw_439 mw_572 (by decide) rfl rfl rfl (by decide) rfl rfl (Nat.le_of_ble_eq_true rfl) dX3_putLuck_64 (fun σσ64 hp64 => ?_)
        replace hp64 := Eq.symm hp64; subst hp64
        exact r_return o q dX3_putLuck_67 rfl
      · skip
        rw [nI_ltI (by omega) (by omega)] at hb14
        refine r_iload o dX3_putLuck_17 4 rfl ?_
        refine r_aload_n o dX3_putLuck_19 0 rfl ?_
        refine gf_6_1 o (v := nI hdq) hhd mw_164 dX3_putLuck_20 ?_
        refine r_icmp_lt o (tgt := 32) dX3_putLuck_23 (by decide) (fun hb23 => ?_) (fun hb23 => ?_)
        · skip
          rw [nI_ltI (by omega) (by omega)] at hb23
          refine r_lv (lv' := [(0, .ref (gad G 6)), (1, .ref (gad G 7)), (2, .long ((lkW hdq cdq iq).1)), (4, .long ((lkW hdq cdq (iq + 1)).2)), (6, .int (nI iq))]) (congrArg (fun zz => ([(0, .ref (gad G 6)), (1, .ref (gad G 7)), (2, .long ((lkW hdq cdq iq).1)), (4, .long zz), (6, .int (nI iq))] : List (Nat × Value))) (lkW_n hb23)) ?_
          refine r_lload_n o dX3_putLuck_32 2 rfl ?_
          refine r_aload_n o dX3_putLuck_33 0 rfl ?_
          refine gf_6_2 o (v := nI cdq) hcd mw_166 dX3_putLuck_34 ?_
          refine r_iload o dX3_putLuck_37 4 rfl ?_
          refine r_isub o dX3_putLuck_39 ?_
          refine r_topi (y := nI (cdq - iq)) (nI_sub' (by omega)) ?_
          refine r_i2l o dX3_putLuck_40 rfl ?_
          refine r_lmul o dX3_putLuck_41 ?_
          refine r_iload o dX3_putLuck_42 4 rfl ?_
          refine r_iconst o (v := nI 1) dX3_putLuck_44 (by decide) ?_
          refine r_iadd o dX3_putLuck_45 ?_
          refine r_topi (y := nI (iq + 1)) (nI_add' _ _) ?_
          refine r_i2l o dX3_putLuck_46 rfl ?_
          refine r_ldiv o dX3_putLuck_47 (i2l_ne (by omega) (by omega)) ?_
          refine r_lstore_n o (lv' := [(2, .long ((((lkW hdq cdq iq).1) * ((nI (cdq - iq)).toInt64)) / ((nI (iq + 1)).toInt64))), (0, .ref (gad G 6)), (1, .ref (gad G 7)), (4, .long ((lkW hdq cdq (iq + 1)).2)), (6, .int (nI iq))]) dX3_putLuck_48 (by decide) rfl ?_
          refine r_iinc o (v := nI (iq + 1)) (lv' := [(6, .int (nI (iq + 1))), (2, .long ((((lkW hdq cdq iq).1) * ((nI (cdq - iq)).toInt64)) / ((nI (iq + 1)).toInt64))), (0, .ref (gad G 6)), (1, .ref (gad G 7)), (4, .long ((lkW hdq cdq (iq + 1)).2))]) dX3_putLuck_49 4 rfl (nI_inc _) (by decide) rfl ?_
          refine r_goto o (tgt := 8) dX3_putLuck_52 (by decide) ?_
          exact r_to rfl [2, 3, 1, 4, 0] rfl (ih8 (iq + 1) (by omega) (by omega))
        · skip
          rw [nI_ltI (by omega) (by omega)] at hb23
          refine r_lload o dX3_putLuck_26 3 rfl ?_
          refine r_lload_n o dX3_putLuck_28 2 rfl ?_
          refine r_ladd o dX3_putLuck_29 ?_
          refine r_lstore o (lv' := [(4, .long (((lkW hdq cdq iq).2) + ((lkW hdq cdq iq).1))), (0, .ref (gad G 6)), (1, .ref (gad G 7)), (2, .long ((lkW hdq cdq iq).1)), (6, .int (nI iq))]) dX3_putLuck_30 (by decide) rfl ?_
          refine r_lv (lv' := [(4, .long ((lkW hdq cdq (iq + 1)).2)), (0, .ref (gad G 6)), (1, .ref (gad G 7)), (2, .long ((lkW hdq cdq iq).1)), (6, .int (nI iq))]) (congrArg (fun zz => ([(4, .long zz), (0, .ref (gad G 6)), (1, .ref (gad G 7)), (2, .long ((lkW hdq cdq iq).1)), (6, .int (nI iq))] : List (Nat × Value))) (lkW_y hb23)) ?_
          refine r_lload_n o dX3_putLuck_32 3 rfl ?_
          refine r_aload_n o dX3_putLuck_33 1 rfl ?_
          refine gf_6_2 o (v := nI cdq) hcd mw_166 dX3_putLuck_34 ?_
          refine r_iload o dX3_putLuck_37 4 rfl ?_
          refine r_isub o dX3_putLuck_39 ?_
          refine r_topi (y := nI (cdq - iq)) (nI_sub' (by omega)) ?_
          refine r_i2l o dX3_putLuck_40 rfl ?_
          refine r_lmul o dX3_putLuck_41 ?_
          refine r_iload o dX3_putLuck_42 4 rfl ?_
          refine r_iconst o (v := nI 1) dX3_putLuck_44 (by decide) ?_
          refine r_iadd o dX3_putLuck_45 ?_
          refine r_topi (y := nI (iq + 1)) (nI_add' _ _) ?_
          refine r_i2l o dX3_putLuck_46 rfl ?_
          refine r_ldiv o dX3_putLuck_47 (i2l_ne (by omega) (by omega)) ?_
          refine r_lstore_n o (lv' := [(2, .long ((((lkW hdq cdq iq).1) * ((nI (cdq - iq)).toInt64)) / ((nI (iq + 1)).toInt64))), (4, .long ((lkW hdq cdq (iq + 1)).2)), (0, .ref (gad G 6)), (1, .ref (gad G 7)), (6, .int (nI iq))]) dX3_putLuck_48 (by decide) rfl ?_
          refine r_iinc o (v := nI (iq + 1)) (lv' := [(6, .int (nI (iq + 1))), (2, .long ((((lkW hdq cdq iq).1) * ((nI (cdq - iq)).toInt64)) / ((nI (iq + 1)).toInt64))), (4, .long ((lkW hdq cdq (iq + 1)).2)), (0, .ref (gad G 6)), (1, .ref (gad G 7))]) dX3_putLuck_49 4 rfl (nI_inc _) (by decide) rfl ?_
          refine r_goto o (tgt := 8) dX3_putLuck_52 (by decide) ?_
          exact r_to rfl [3, 4, 1, 2, 0] rfl (ih8 (iq + 1) (by omega) (by omega))
  exact r_to rfl [3, 4, 2, 1, 0] rfl (L8 _ 0 (by omega) (Nat.lt_succ_self _))
