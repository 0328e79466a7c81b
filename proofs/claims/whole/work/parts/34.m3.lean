set_option maxHeartbeats 4000000 in
set_option maxRecDepth 100000 in
theorem c_X10_layNumbers (l : Launch) (G : Gl) (σ : Sto) (fq : Nat → Int32) (hfq : (σ 73).1 = fq) (g1 : Nat → Int32) (hg1 : (σ 76).1 = g1) (g2 : Nat → Int32) (hg2 : (σ 75).1 = g2) (endq : Nat) (hend : endq ≤ 24) : CtV l G yX10_layNumbers cX10_layNumbers 3 none 0 0 [.ref (gad G 11), .int (nI endq)] σ (fun σ' => σ' = sta (sta (sti σ 11 7 (nI (gcnt fq endq))) 76 (gnum fq g1 endq)) 75 (gyr fq g2 endq)) := by
  refine CtV.of (by decide +kernel) (Nat.le_of_ble_eq_true rfl) (fun X o q => ?_)
  show WS X G 3 σ 0 [(0, .ref (gad G 11)), (1, .int (nI endq))] []
  refine r_aload_n o dX10_layNumbers_0 0 rfl ?_
  refine r_iconst o (v := nI 0) dX10_layNumbers_1 (by decide) ?_
  refine pf_11_7 o mw_705 dX10_layNumbers_2 ?_
  refine r_iconst o (v := nI 0) dX10_layNumbers_5 (by decide) ?_
  refine r_istore_n o (lv' := [(2, .int (nI 0)), (0, .ref (gad G 11)), (1, .int (nI endq))]) dX10_layNumbers_6 (by decide) rfl ?_
  have L7 : ∀ (n : Nat) (kq : Nat) (hkq : kq ≤ endq), endq - kq < n → WS X G 3 (sta (sta (sti σ 11 7 (nI (gcnt fq kq))) 76 (gnum fq g1 kq)) 75 (gyr fq g2 kq)) 7 [(0, .ref (gad G 11)), (1, .int (nI endq)), (2, .int (nI kq))] [] := by
    intro n
    induction n with
    | zero => intro kq hkq hm; exact absurd hm (Nat.not_lt_zero _)
    | succ n ih7 =>
      intro kq hkq hm
      have hgc := gcnt_le fq kq
      refine r_iload_n o dX10_layNumbers_7 2 rfl ?_
      refine r_iload_n o dX10_layNumbers_8 1 rfl ?_
      refine r_icmp_ge o (tgt := 64) dX10_layNumbers_9 (by decide) (fun hb9 => ?_) (fun hb9 => ?_)
      · skip
        rw [nI_leI (by omega) (by omega)] at hb9
        obtain rfl : kq = endq := by omega
        exact r_return o q dX10_layNumbers_64 rfl
      · skip
        rw [nI_leI (by omega) (by omega)] at hb9
        refine r_aload_n o dX10_layNumbers_12 0 rfl ?_
        refine gf_11_3 o mw_701 dX10_layNumbers_13 ?_
        refine r_iload_n o dX10_layNumbers_16 2 rfl ?_
        refine r_ia (σ := sta (sta (sti σ 11 7 (nI (gcnt fq kq))) 76 (gnum fq g1 kq)) 75 (gyr fq g2 kq)) o (by decide) ia_73 (f := fq) hfq kq rfl (by omega) (by decide) dX10_layNumbers_17 ?_
        refine r_ldc o mw_697 dX10_layNumbers_18 ?_
        refine r_icmp_eq o (tgt := 58) dX10_layNumbers_20 (by decide) (fun hb20 => ?_) (fun hb20 => ?_)
        · skip
          refine r_iinc o (v := nI (kq + 1)) (lv' := [(2, .int (nI (kq + 1))), (0, .ref (gad G 11)), (1, .int (nI endq))]) dX10_layNumbers_58 2 rfl (nI_inc _) (by decide) rfl ?_
          refine r_goto o (tgt := 7) dX10_layNumbers_61 (by decide) ?_
          exact r_to (by rw [gcnt_g hb20, gnum_g hb20, gyr_g hb20]) [1, 2, 0] rfl (ih7 (kq + 1) (by omega) (by omega))
        · skip
          refine r_aload_n o dX10_layNumbers_23 0 rfl ?_
          refine gf_11_5 o mw_703 dX10_layNumbers_24 ?_
          refine r_aload_n o dX10_layNumbers_27 0 rfl ?_
          refine gf_11_7 (σ := sta (sta (sti σ 11 7 (nI (gcnt fq kq))) 76 (gnum fq g1 kq)) 75 (gyr fq g2 kq)) o (v := nI (gcnt fq kq)) rfl mw_705 dX10_layNumbers_28 ?_
          refine r_iload_n o dX10_layNumbers_31 2 rfl ?_
          refine r_iast o (by decide) ia_75 (gcnt fq kq) rfl (by omega) (by decide) dX10_layNumbers_32 ?_
          refine r_aload_n o dX10_layNumbers_33 0 rfl ?_
          refine gf_11_6 o mw_704 dX10_layNumbers_34 ?_
          refine r_aload_n o dX10_layNumbers_37 0 rfl ?_
          refine gf_11_7 (σ := sti (sta (sta (sti σ 11 7 (nI (gcnt fq kq))) 76 (gnum fq g1 kq)) 75 (gyr fq g2 kq)) 75 (gcnt fq kq) (nI kq)) o (v := nI (gcnt fq kq)) rfl mw_705 dX10_layNumbers_38 ?_
          refine r_aload_n o dX10_layNumbers_41 0 rfl ?_
          refine gf_11_3 o mw_701 dX10_layNumbers_42 ?_
          refine r_iload_n o dX10_layNumbers_45 2 rfl ?_
          refine r_ia (σ := sti (sta (sta (sti σ 11 7 (nI (gcnt fq kq))) 76 (gnum fq g1 kq)) 75 (gyr fq g2 kq)) 75 (gcnt fq kq) (nI kq)) o (by decide) ia_73 (f := fq) hfq kq rfl (by omega) (by decide) dX10_layNumbers_46 ?_
          refine r_iast o (by decide) ia_76 (gcnt fq kq) rfl (by omega) (by decide) dX10_layNumbers_47 ?_
          refine r_aload_n o dX10_layNumbers_48 0 rfl ?_
          refine r_dup o dX10_layNumbers_49 rfl ?_
          refine gf_11_7 (σ := sti (sti (sta (sta (sti σ 11 7 (nI (gcnt fq kq))) 76 (gnum fq g1 kq)) 75 (gyr fq g2 kq)) 75 (gcnt fq kq) (nI kq)) 76 (gcnt fq kq) (fq kq)) o (v := nI (gcnt fq kq)) rfl mw_705 dX10_layNumbers_50 ?_
          refine r_iconst o (v := nI 1) dX10_layNumbers_53 (by decide) ?_
          refine r_iadd o dX10_layNumbers_54 ?_
          refine r_topi (y := nI (gcnt fq kq + 1)) (nI_add' _ _) ?_
          refine pf_11_7 o mw_705 dX10_layNumbers_55 ?_
          refine r_iinc o (v := nI (kq + 1)) (lv' := [(2, .int (nI (kq + 1))), (0, .ref (gad G 11)), (1, .int (nI endq))]) dX10_layNumbers_58 2 rfl (nI_inc _) (by decide) rfl ?_
          refine r_goto o (tgt := 7) dX10_layNumbers_61 (by decide) ?_
          exact r_to (by rw [gcnt_n hb20, gnum_n hb20, gyr_n hb20]; simp only [sti_sta_ne, sti_sta, sti_sti, ne_eq, Nat.reduceEqDiff, not_false_eq_true]) [1, 2, 0] rfl (ih7 (kq + 1) (by omega) (by omega))
  exact r_to (by show sti σ 11 7 (nI 0) = sta (sta (sti σ 11 7 (nI 0)) 76 g1) 75 g2; rw [← sta_id (σ := sti σ 11 7 (nI 0)) (cz := 76) hg1, ← sta_id (σ := sti σ 11 7 (nI 0)) (cz := 75) hg2]) [1, 2, 0] rfl (L7 _ 0 (by omega) (Nat.lt_succ_self _))
set_option maxHeartbeats 4000000 in
set_option maxRecDepth 100000 in
theorem c_X10_layHeaps (l : Launch) (G : Gl) (σ : Sto) (yrq : Nat → Nat) (nq : Nat) (hnq : (σ 11).1 7 = nI nq) (hn24 : nq ≤ 24) (hyr : ∀ jq, jq < nq → (σ 75).1 jq = nI (yrq jq)) (hyl : ∀ jq, yrq jq < 24) (xf : Nat → Int32) (hxf : (σ 76).1 = xf) (lq : Nat) (hlq : 2 ≤ lq ∧ lq ≤ 12) : CtV l G yX10_layHeaps cX10_layHeaps 3 none 0 0 [.ref (gad G 11), .int (nI lq)] σ (fun σ' => (∀ rq, rq < lq → (σ' 77).2 rq = hsum yrq lq rq xf nq ∧ (σ' 78).1 rq = nI (cntR yrq lq rq nq)) ∧ ∀ cz, cz ≠ 77 → cz ≠ 78 → σ' cz = σ cz) := by
  refine CtV.of (by decide +kernel) (Nat.le_of_ble_eq_true rfl) (fun X o q => ?_)
  show WS X G 3 σ 0 [(0, .ref (gad G 11)), (1, .int (nI lq))] []
  refine r_iconst o (v := nI 0) dX10_layHeaps_0 (by decide) ?_
  refine r_istore_n o (lv' := [(2, .int (nI 0)), (0, .ref (gad G 11)), (1, .int (nI lq))]) dX10_layHeaps_1 (by decide) rfl ?_
  have L2 : ∀ (n : Nat) (kq : Nat) (sf9 : Nat → Int64) (mf9 : Nat → Int32) (hkq : kq ≤ lq) (hz9 : ∀ rq, rq < kq → sf9 rq = 0 ∧ mf9 rq = nI 0), lq - kq < n → WS X G 3 (sta (stb σ 77 sf9) 78 mf9) 2 [(0, .ref (gad G 11)), (1, .int (nI lq)), (2, .int (nI kq))] [] := by
    intro n
    induction n with
    | zero => intro kq sf9 mf9 hkq hz9 hm; exact absurd hm (Nat.not_lt_zero _)
    | succ n ih2 =>
      intro kq sf9 mf9 hkq hz9 hm
      refine r_iload_n o dX10_layHeaps_2 2 rfl ?_
      refine r_iload_n o dX10_layHeaps_3 1 rfl ?_
      refine r_icmp_ge o (tgt := 27) dX10_layHeaps_4 (by decide) (fun hb4 => ?_) (fun hb4 => ?_)
      · skip
        rw [nI_leI (by omega) (by omega)] at hb4
        refine r_iconst o (v := nI 0) dX10_layHeaps_27 (by decide) ?_
        refine r_istore_n o (lv' := [(2, .int (nI 0)), (0, .ref (gad G 11)), (1, .int (nI lq))]) dX10_layHeaps_28 (by decide) rfl ?_
        have L29 : ∀ (n : Nat) (iq : Nat) (sf8 : Nat → Int64) (mf8 : Nat → Int32) (hiq : iq ≤ nq) (hz8 : ∀ rq, rq < lq → sf8 rq = hsum yrq lq rq xf iq ∧ mf8 rq = nI (cntR yrq lq rq iq)), nq - iq < n → WS X G 3 (sta (stb σ 77 sf8) 78 mf8) 29 [(0, .ref (gad G 11)), (1, .int (nI lq)), (2, .int (nI iq))] [] := by
          intro n
          induction n with
          | zero => intro iq sf8 mf8 hiq hz8 hm; exact absurd hm (Nat.not_lt_zero _)
          | succ n ih29 =>
            intro iq sf8 mf8 hiq hz8 hm
            refine r_iload_n o dX10_layHeaps_29 2 rfl ?_
            refine r_aload_n o dX10_layHeaps_30 0 rfl ?_
            refine gf_11_7 (σ := sta (stb σ 77 sf8) 78 mf8) o (v := nI nq) hnq mw_705 dX10_layHeaps_31 ?_
            refine r_icmp_ge o (tgt := 83) dX10_layHeaps_34 (by decide) (fun hb34 => ?_) (fun hb34 => ?_)
            · skip
              rw [nI_leI (by omega) (by omega)] at hb34
              obtain rfl : iq = nq := by omega
              exact r_return o q dX10_layHeaps_83 (⟨fun rq hr => ⟨(hz8 rq hr).1, (hz8 rq hr).2⟩, fun cz h1 h2 => by simp (disch := omega) only [sta_ne, stb_ne]⟩)
            · skip
              rw [nI_leI (by omega) (by omega)] at hb34
              have hml : yrq iq % lq < lq := Nat.mod_lt _ (by omega)
              have hyi := hyl iq
              refine r_aload_n o dX10_layHeaps_37 0 rfl ?_
              refine gf_11_8 o mw_706 dX10_layHeaps_38 ?_
              refine r_aload_n o dX10_layHeaps_41 0 rfl ?_
              refine gf_11_5 o mw_703 dX10_layHeaps_42 ?_
              refine r_iload_n o dX10_layHeaps_45 2 rfl ?_
              refine r_ia (σ := sta (stb σ 77 sf8) 78 mf8) o (by decide) ia_75 (f := (σ 75).1) rfl iq rfl (by omega) (by decide) dX10_layHeaps_46 ?_
              refine r_topi (y := nI (yrq iq)) (hyr _ (by omega)) ?_
              refine r_iload_n o dX10_layHeaps_47 1 rfl ?_
              refine r_irem o dX10_layHeaps_48 (nI_z (by omega) (by omega)) ?_
              refine r_topi (y := nI ((yrq iq) % lq)) (nI_rem' (by omega) (by omega) (by omega)) ?_
              refine r_dup2_11 o dX10_layHeaps_49 rfl rfl ?_
              refine r_la (σ := sta (stb σ 77 sf8) 78 mf8) o (by decide) la_77 (f := sf8) rfl ((yrq iq) % lq) rfl (by omega) (by decide) dX10_layHeaps_50 ?_
              refine r_aload_n o dX10_layHeaps_51 0 rfl ?_
              refine gf_11_6 o mw_704 dX10_layHeaps_52 ?_
              refine r_iload_n o dX10_layHeaps_55 2 rfl ?_
              refine r_ia (σ := sta (stb σ 77 sf8) 78 mf8) o (by decide) ia_76 (f := xf) hxf iq rfl (by omega) (by decide) dX10_layHeaps_56 ?_
              refine r_i2l o dX10_layHeaps_57 rfl ?_
              refine r_ladd o dX10_layHeaps_58 ?_
              refine r_last o (by decide) la_77 ((yrq iq) % lq) rfl (by omega) (by decide) dX10_layHeaps_59 ?_
              refine r_aload_n o dX10_layHeaps_60 0 rfl ?_
              refine gf_11_9 o mw_707 dX10_layHeaps_61 ?_
              refine r_aload_n o dX10_layHeaps_64 0 rfl ?_
              refine gf_11_5 o mw_703 dX10_layHeaps_65 ?_
              refine r_iload_n o dX10_layHeaps_68 2 rfl ?_
              refine r_ia (σ := stl (sta (stb σ 77 sf8) 78 mf8) 77 ((yrq iq) % lq) ((sf8 ((yrq iq) % lq)) + ((xf iq).toInt64))) o (by decide) ia_75 (f := (σ 75).1) rfl iq rfl (by omega) (by decide) dX10_layHeaps_69 ?_
              refine r_topi (y := nI (yrq iq)) (hyr _ (by omega)) ?_
              refine r_iload_n o dX10_layHeaps_70 1 rfl ?_
              refine r_irem o dX10_layHeaps_71 (nI_z (by omega) (by omega)) ?_
              refine r_topi (y := nI ((yrq iq) % lq)) (nI_rem' (by omega) (by omega) (by omega)) ?_
              refine r_dup2_11 o dX10_layHeaps_72 rfl rfl ?_
              refine r_ia (σ := stl (sta (stb σ 77 sf8) 78 mf8) 77 ((yrq iq) % lq) ((sf8 ((yrq iq) % lq)) + ((xf iq).toInt64))) o (by decide) ia_78 (f := mf8) rfl ((yrq iq) % lq) rfl (by omega) (by decide) dX10_layHeaps_73 ?_
              refine r_iconst o (v := nI 1) dX10_layHeaps_74 (by decide) ?_
              refine r_iadd o dX10_layHeaps_75 ?_
              refine r_iast o (by decide) ia_78 ((yrq iq) % lq) rfl (by omega) (by decide) dX10_layHeaps_76 ?_
              refine r_iinc o (v := nI (iq + 1)) (lv' := [(2, .int (nI (iq + 1))), (0, .ref (gad G 11)), (1, .int (nI lq))]) dX10_layHeaps_77 2 rfl (nI_inc _) (by decide) rfl ?_
              refine r_goto o (tgt := 29) dX10_layHeaps_80 (by decide) ?_
              exact r_to (by rw [stl_sta_ne (by decide), stl_stb, sti_sta]) [1, 2, 0] rfl (ih29 (iq + 1) (vp_updL sf8 (yrq iq % lq) (sf8 (yrq iq % lq) + (xf iq).toInt64)) (upd mf8 (yrq iq % lq) (mf8 (yrq iq % lq) + nI 1)) (by omega) (lh_step (by omega) hz8) (by omega))
        exact r_to rfl [1, 2, 0] rfl (L29 _ 0 sf9 mf9 (by omega) (fun rq hr => hz9 rq (by omega)) (Nat.lt_succ_self _))
      · skip
        rw [nI_leI (by omega) (by omega)] at hb4
        refine r_aload_n o dX10_layHeaps_7 0 rfl ?_
        refine gf_11_8 o mw_706 dX10_layHeaps_8 ?_
        refine r_iload_n o dX10_layHeaps_11 2 rfl ?_
        refine r_lconst o (v := 0) dX10_layHeaps_12 rfl ?_
        refine r_last o (by decide) la_77 kq rfl (by omega) (by decide) dX10_layHeaps_13 ?_
        refine r_aload_n o dX10_layHeaps_14 0 rfl ?_
        refine gf_11_9 o mw_707 dX10_layHeaps_15 ?_
        refine r_iload_n o dX10_layHeaps_18 2 rfl ?_
        refine r_iconst o (v := nI 0) dX10_layHeaps_19 (by decide) ?_
        refine r_iast o (by decide) ia_78 kq rfl (by omega) (by decide) dX10_layHeaps_20 ?_
        refine r_iinc o (v := nI (kq + 1)) (lv' := [(2, .int (nI (kq + 1))), (0, .ref (gad G 11)), (1, .int (nI lq))]) dX10_layHeaps_21 2 rfl (nI_inc _) (by decide) rfl ?_
        refine r_goto o (tgt := 2) dX10_layHeaps_24 (by decide) ?_
        exact r_to (by rw [stl_sta_ne (by decide), stl_stb, sti_sta]) [1, 2, 0] rfl (ih2 (kq + 1) (vp_updL sf9 kq 0) (upd mf9 kq (nI 0)) (by omega) (fun rq hr => by by_cases hz : rq = kq; (subst hz; rw [pk_us]; exact ⟨if_pos rfl, rfl⟩); rw [pk_un hz]; exact ⟨(if_neg hz).trans (hz9 rq (by omega)).1, (hz9 rq (by omega)).2⟩) (by omega))
  exact r_to (by rw [← stb_id rfl]; exact sta_id rfl) [1, 2, 0] rfl (L2 _ 0 ((σ 77).2) ((σ 78).1) (by omega) (fun rq hr => absurd hr (Nat.not_lt_zero rq)) (Nat.lt_succ_self _))
set_option maxHeartbeats 4000000 in
set_option maxRecDepth 100000 in
theorem c_X10_sumOf (l : Launch) (G : Gl) (σ : Sto) (nq : Nat) (hnq : (σ 11).1 7 = nI nq) (hn24 : nq ≤ 24) (xf : Nat → Int32) (hxf : (σ 76).1 = xf) : CtL l G yX10_sumOf cX10_sumOf 4 (some .long) 0 0 [.ref (gad G 11)] σ (fun r σ' => r = sumL xf nq ∧ σ' = σ) := by
  refine CtL.of (by decide +kernel) (Nat.le_of_ble_eq_true rfl) (fun X o q => ?_)
  show WS X G 4 σ 0 [(0, .ref (gad G 11))] []
  refine r_lconst o (v := 0) dX10_sumOf_0 rfl ?_
  refine r_lstore_n o (lv' := [(1, .long 0), (0, .ref (gad G 11))]) dX10_sumOf_1 (by decide) rfl ?_
  refine r_iconst o (v := nI 0) dX10_sumOf_2 (by decide) ?_
  refine r_istore_n o (lv' := [(3, .int (nI 0)), (1, .long 0), (0, .ref (gad G 11))]) dX10_sumOf_3 (by decide) rfl ?_
  have L4 : ∀ (n : Nat) (kq : Nat) (hkq : kq ≤ nq), nq - kq < n → WS X G 4 σ 4 [(0, .ref (gad G 11)), (1, .long (sumL xf kq)), (3, .int (nI kq))] [] := by
    intro n
    induction n with
    | zero => intro kq hkq hm; exact absurd hm (Nat.not_lt_zero _)
    | succ n ih4 =>
      intro kq hkq hm
      refine r_iload_n o dX10_sumOf_4 2 rfl ?_
      refine r_aload_n o dX10_sumOf_5 0 rfl ?_
      refine gf_11_7 o (v := nI nq) hnq mw_705 dX10_sumOf_6 ?_
      refine r_icmp_ge o (tgt := 28) dX10_sumOf_9 (by decide) (fun hb9 => ?_) (fun hb9 => ?_)
      · skip
        rw [nI_leI (by omega) (by omega)] at hb9
        obtain rfl : kq = nq := by omega
        refine r_lload_n o dX10_sumOf_28 1 rfl ?_
        exact r_lreturn o q dX10_sumOf_29 (⟨rfl, rfl⟩)
      · skip
        rw [nI_leI (by omega) (by omega)] at hb9
        refine r_lload_n o dX10_sumOf_12 1 rfl ?_
        refine r_aload_n o dX10_sumOf_13 0 rfl ?_
        refine gf_11_6 o mw_704 dX10_sumOf_14 ?_
        refine r_iload_n o dX10_sumOf_17 2 rfl ?_
        refine r_ia o (by decide) ia_76 (f := xf) hxf kq rfl (by omega) (by decide) dX10_sumOf_18 ?_
        refine r_i2l o dX10_sumOf_19 rfl ?_
        refine r_ladd o dX10_sumOf_20 ?_
        refine r_lstore_n o (lv' := [(1, .long ((sumL xf kq) + ((xf kq).toInt64))), (0, .ref (gad G 11)), (3, .int (nI kq))]) dX10_sumOf_21 (by decide) rfl ?_
        refine r_iinc o (v := nI (kq + 1)) (lv' := [(3, .int (nI (kq + 1))), (1, .long ((sumL xf kq) + ((xf kq).toInt64))), (0, .ref (gad G 11))]) dX10_sumOf_22 2 rfl (nI_inc _) (by decide) rfl ?_
        refine r_goto o (tgt := 4) dX10_sumOf_25 (by decide) ?_
        exact r_to rfl [2, 1, 0] rfl (ih4 (kq + 1) (by omega) (by omega))
  exact r_to rfl [2, 1, 0] rfl (L4 _ 0 (by omega) (Nat.lt_succ_self _))
set_option maxHeartbeats 4000000 in
set_option maxRecDepth 100000 in
theorem c_X10_upperOf (l : Launch) (G : Gl) (σ : Sto) (yrq : Nat → Nat) (nq : Nat) (hnq : (σ 11).1 7 = nI nq) (hn24 : nq ≤ 24) (hyr : ∀ jq, jq < nq → (σ 75).1 jq = nI (yrq jq)) (hyl : ∀ jq, yrq jq < 24) (xf : Nat → Int32) (hxf : (σ 76).1 = xf) (lq : Nat) (hlq : 2 ≤ lq ∧ lq ≤ 12) : CtL l G yX10_upperOf cX10_upperOf 7 (some .long) 1 23 [.ref (gad G 11), .int (nI lq)] σ (fun r σ' => r = upF yrq nq xf lq ∧ (∀ cz, cz ≠ 77 → cz ≠ 78 → σ' cz = σ cz)) := by
  refine CtL.of (by decide +kernel) (Nat.le_of_ble_eq_true rfl) (fun X o q => ?_)
  show WS X G 7 σ 0 [(0, .ref (gad G 11)), (1, .int (nI lq))] []
  refine r_aload_n o dX10_upperOf_0 0 rfl ?_
  refine r_iload_n o dX10_upperOf_1 1 rfl ?_
  refine r_callVV o (As := [.int (nI lq)]) (st := []) (c_X10_layHeaps (xl X) G σ yrq nq hnq hn24 hyr hyl xf hxf lq hlq) om_X10_layHeaps mw_880 mw_25 mw_878 (by decide) rfl rfl rfl (by decide) rfl rfl (Nat.le_of_ble_eq_true rfl) dX10_upperOf_2 (fun σσ2 hp2 => ?_)
  obtain ⟨hh, hk⟩ := hp2
  have hn2 : (σσ2 11).1 7 = nI nq := by rw [hk 11 (by decide) (by decide)]; exact hnq
  have hx2 : (σσ2 76).1 = xf := by rw [hk 76 (by decide) (by decide)]; exact hxf
  refine r_aload_n o dX10_upperOf_5 0 rfl ?_
  refine r_callVL o (As := []) (st := []) (c_X10_sumOf (xl X) G σσ2 nq hn2 hn24 xf hx2) om_X10_sumOf mw_871 mw_23 mw_869 (by decide) rfl rfl rfl (by decide) rfl rfl (Nat.le_of_ble_eq_true rfl) dX10_upperOf_6 (fun rr6 σσ6 hp6 => ?_)
  obtain ⟨hp6, hp6b⟩ := hp6; replace hp6 := Eq.symm hp6; replace hp6b := Eq.symm hp6b; subst hp6; subst hp6b
  refine r_lstore_n o (lv' := [(2, .long (sumL xf nq)), (0, .ref (gad G 11)), (1, .int (nI lq))]) dX10_upperOf_9 (by decide) rfl ?_
  refine r_lload_n o dX10_upperOf_10 0 rfl ?_
  refine r_lneg o dX10_upperOf_11 ?_
  refine r_lload_n o dX10_upperOf_12 0 rfl ?_
  refine r_lmul o dX10_upperOf_13 ?_
  refine r_ldc2_w o mw_873 dX10_upperOf_14 ?_
  refine r_lmul o dX10_upperOf_17 ?_
  refine r_lstore o (lv' := [(4, .long (((-(sumL xf nq)) * (sumL xf nq)) * 27720)), (2, .long (sumL xf nq)), (0, .ref (gad G 11)), (1, .int (nI lq))]) dX10_upperOf_18 (by decide) rfl ?_
  refine r_iconst o (v := nI 0) dX10_upperOf_20 (by decide) ?_
  refine r_istore o (lv' := [(6, .int (nI 0)), (4, .long (((-(sumL xf nq)) * (sumL xf nq)) * 27720)), (2, .long (sumL xf nq)), (0, .ref (gad G 11)), (1, .int (nI lq))]) dX10_upperOf_21 (by decide) rfl ?_
  have L23 : ∀ (n : Nat) (kq : Nat) (hkq : kq ≤ lq), lq - kq < n → WS X G 7 σσ2 23 [(0, .ref (gad G 11)), (1, .int (nI lq)), (2, .long (sumL xf nq)), (4, .long (upR yrq nq lq xf kq)), (6, .int (nI kq))] [] := by
    intro n
    induction n with
    | zero => intro kq hkq hm; exact absurd hm (Nat.not_lt_zero _)
    | succ n ih23 =>
      intro kq hkq hm
      have hcl := cntR_le yrq lq kq nq
      refine r_iload o dX10_upperOf_23 4 rfl ?_
      refine r_iload_n o dX10_upperOf_25 1 rfl ?_
      refine r_icmp_ge o (tgt := 88) dX10_upperOf_26 (by decide) (fun hb26 => ?_) (fun hb26 => ?_)
      · skip
        rw [nI_leI (by omega) (by omega)] at hb26
        obtain rfl : kq = lq := by omega
        refine r_lload o dX10_upperOf_88 3 rfl ?_
        exact r_lreturn o q dX10_upperOf_90 (⟨upR_l hn24, hk⟩)
      · skip
        rw [nI_leI (by omega) (by omega)] at hb26
        refine r_lload o dX10_upperOf_29 3 rfl ?_
        refine r_aload_n o dX10_upperOf_31 0 rfl ?_
        refine gf_11_9 o mw_707 dX10_upperOf_32 ?_
        refine r_iload o dX10_upperOf_35 4 rfl ?_
        refine r_ia o (by decide) ia_78 (f := (σσ2 78).1) rfl kq rfl (by omega) (by decide) dX10_upperOf_37 ?_
        refine r_topi (y := nI (cntR yrq lq kq nq)) ((hh kq (by omega)).2) ?_
        refine r_if_ne o (tgt := 45) dX10_upperOf_38 (by decide) (fun hb38 => ?_) (fun hb38 => ?_)
        · skip
          rw [nI_eq0 (by omega)] at hb38
          refine r_aload_n o dX10_upperOf_45 0 rfl ?_
          refine gf_11_8 o mw_706 dX10_upperOf_46 ?_
          refine r_iload o dX10_upperOf_49 4 rfl ?_
          refine r_la o (by decide) la_77 (f := (σσ2 77).2) rfl kq rfl (by omega) (by decide) dX10_upperOf_51 ?_
          refine r_topl (y := hsum yrq lq kq xf nq) ((hh kq (by omega)).1) ?_
          refine r_aload_n o dX10_upperOf_52 0 rfl ?_
          refine gf_11_8 o mw_706 dX10_upperOf_53 ?_
          refine r_iload o dX10_upperOf_56 4 rfl ?_
          refine r_la o (by decide) la_77 (f := (σσ2 77).2) rfl kq rfl (by omega) (by decide) dX10_upperOf_58 ?_
          refine r_topl (y := hsum yrq lq kq xf nq) ((hh kq (by omega)).1) ?_
          refine r_lmul o dX10_upperOf_59 ?_
          refine r_ldc2_w o mw_873 dX10_upperOf_60 ?_
          refine r_aload_n o dX10_upperOf_63 0 rfl ?_
          refine gf_11_9 o mw_707 dX10_upperOf_64 ?_
          refine r_iload o dX10_upperOf_67 4 rfl ?_
          refine r_ia o (by decide) ia_78 (f := (σσ2 78).1) rfl kq rfl (by omega) (by decide) dX10_upperOf_69 ?_
          refine r_topi (y := nI (cntR yrq lq kq nq)) ((hh kq (by omega)).2) ?_
          refine r_i2l o dX10_upperOf_70 rfl ?_
          refine r_ldiv o dX10_upperOf_71 (i2l_ne (by omega) (by omega)) ?_
          refine r_lmul o dX10_upperOf_72 ?_
          refine r_aload_n o dX10_upperOf_73 0 rfl ?_
          refine gf_11_7 o (v := nI nq) hn2 mw_705 dX10_upperOf_74 ?_
          refine r_i2l o dX10_upperOf_77 rfl ?_
          refine r_lmul o dX10_upperOf_78 ?_
          refine r_topl (y := if cntR yrq lq kq nq = 0 then 0 else hsum yrq lq kq xf nq * hsum yrq lq kq xf nq * (27720 / (nI (cntR yrq lq kq nq)).toInt64) * (nI nq).toInt64) (by rw [if_neg hb38]) ?_
          refine r_ladd o dX10_upperOf_79 ?_
          refine r_lstore o (lv' := [(4, .long ((upR yrq nq lq xf kq) + (if cntR yrq lq kq nq = 0 then 0 else hsum yrq lq kq xf nq * hsum yrq lq kq xf nq * (27720 / (nI (cntR yrq lq kq nq)).toInt64) * (nI nq).toInt64))), (0, .ref (gad G 11)), (1, .int (nI lq)), (2, .long (sumL xf nq)), (6, .int (nI kq))]) dX10_upperOf_80 (by decide) rfl ?_
          refine r_lv (lv' := [(4, .long (upR yrq nq lq xf (kq + 1))), (0, .ref (gad G 11)), (1, .int (nI lq)), (2, .long (sumL xf nq)), (6, .int (nI kq))]) (congrArg (fun zz => ([(4, .long zz), (0, .ref (gad G 11)), (1, .int (nI lq)), (2, .long (sumL xf nq)), (6, .int (nI kq))] : List (Nat × Value))) (rfl)) ?_
          refine r_iinc o (v := nI (kq + 1)) (lv' := [(6, .int (nI (kq + 1))), (4, .long (upR yrq nq lq xf (kq + 1))), (0, .ref (gad G 11)), (1, .int (nI lq)), (2, .long (sumL xf nq))]) dX10_upperOf_82 4 rfl (nI_inc _) (by decide) rfl ?_
          refine r_goto o (tgt := 23) dX10_upperOf_85 (by decide) ?_
          exact r_to rfl [2, 3, 4, 1, 0] rfl (ih23 (kq + 1) (by omega) (by omega))
        · skip
          rw [nI_eq0 (by omega)] at hb38
          refine r_lconst o (v := 0) dX10_upperOf_41 rfl ?_
          refine r_goto o (tgt := 79) dX10_upperOf_42 (by decide) ?_
          refine r_topl (y := if cntR yrq lq kq nq = 0 then 0 else hsum yrq lq kq xf nq * hsum yrq lq kq xf nq * (27720 / (nI (cntR yrq lq kq nq)).toInt64) * (nI nq).toInt64) (by rw [if_pos hb38]) ?_
          refine r_ladd o dX10_upperOf_79 ?_
          refine r_lstore o (lv' := [(4, .long ((upR yrq nq lq xf kq) + (if cntR yrq lq kq nq = 0 then 0 else hsum yrq lq kq xf nq * hsum yrq lq kq xf nq * (27720 / (nI (cntR yrq lq kq nq)).toInt64) * (nI nq).toInt64))), (0, .ref (gad G 11)), (1, .int (nI lq)), (2, .long (sumL xf nq)), (6, .int (nI kq))]) dX10_upperOf_80 (by decide) rfl ?_
          refine r_lv (lv' := [(4, .long (upR yrq nq lq xf (kq + 1))), (0, .ref (gad G 11)), (1, .int (nI lq)), (2, .long (sumL xf nq)), (6, .int (nI kq))]) (congrArg (fun zz => ([(4, .long zz), (0, .ref (gad G 11)), (1, .int (nI lq)), (2, .long (sumL xf nq)), (6, .int (nI kq))] : List (Nat × Value))) (rfl)) ?_
          refine r_iinc o (v := nI (kq + 1)) (lv' := [(6, .int (nI (kq + 1))), (4, .long (upR yrq nq lq xf (kq + 1))), (0, .ref (gad G 11)), (1, .int (nI lq)), (2, .long (sumL xf nq))]) dX10_upperOf_82 4 rfl (nI_inc _) (by decide) rfl ?_
          refine r_goto o (tgt := 23) dX10_upperOf_85 (by decide) ?_
          exact r_to rfl [2, 3, 4, 1, 0] rfl (ih23 (kq + 1) (by omega) (by omega))
  exact r_to rfl [3, 4, 2, 1, 0] rfl (L23 _ 0 (by omega) (Nat.lt_succ_self _))
set_option maxHeartbeats 4000000 in
set_option maxRecDepth 100000 in
theorem c_X10_lowerOf (l : Launch) (G : Gl) (σ : Sto) (nq : Nat) (hnq : (σ 11).1 7 = nI nq) (hn24 : nq ≤ 24) (xf : Nat → Int32) (hxf : (σ 76).1 = xf) : CtL l G yX10_lowerOf cX10_lowerOf 6 (some .long) 1 23 [.ref (gad G 11)] σ (fun r σ' => r = loF nq xf ∧ σ' = σ) := by
  refine CtL.of (by decide +kernel) (Nat.le_of_ble_eq_true rfl) (fun X o q => ?_)
  show WS X G 6 σ 0 [(0, .ref (gad G 11))] []
  refine r_aload_n o dX10_lowerOf_0 0 rfl ?_
  refine r_callVL o (As := []) (st := []) (c_X10_sumOf (xl X) G σ nq hnq hn24 xf hxf) om_X10_sumOf mw_871 mw_23 mw_869 (by decide) rfl rfl rfl (by decide) rfl rfl (Nat.le_of_ble_eq_true rfl) dX10_lowerOf_1 (fun rr1 σσ1 hp1 => ?_)
  obtain ⟨hp1, hp1b⟩ := hp1; replace hp1 := Eq.symm hp1; replace hp1b := Eq.symm hp1b; subst hp1; subst hp1b
  refine r_lstore_n o (lv' := [(1, .long (sumL xf nq)), (0, .ref (gad G 11))]) dX10_lowerOf_4 (by decide) rfl ?_
  refine r_lconst o (v := 0) dX10_lowerOf_5 rfl ?_
  refine r_lstore_n o (lv' := [(3, .long 0), (1, .long (sumL xf nq)), (0, .ref (gad G 11))]) dX10_lowerOf_6 (by decide) rfl ?_
  refine r_iconst o (v := nI 0) dX10_lowerOf_7 (by decide) ?_
  refine r_istore o (lv' := [(5, .int (nI 0)), (3, .long 0), (1, .long (sumL xf nq)), (0, .ref (gad G 11))]) dX10_lowerOf_8 (by decide) rfl ?_
  have L10 : ∀ (n : Nat) (kq : Nat) (hkq : kq ≤ nq), nq - kq < n → WS X G 6 σ 10 [(0, .ref (gad G 11)), (1, .long (sumL xf nq)), (3, .long (sqL xf kq)), (5, .int (nI kq))] [] := by
    intro n
    induction n with
    | zero => intro kq hkq hm; exact absurd hm (Nat.not_lt_zero _)
    | succ n ih10 =>
      intro kq hkq hm
      refine r_iload o dX10_lowerOf_10 3 rfl ?_
      refine r_aload_n o dX10_lowerOf_12 0 rfl ?_
      refine gf_11_7 o (v := nI nq) hnq mw_705 dX10_lowerOf_13 ?_
      refine r_icmp_ge o (tgt := 45) dX10_lowerOf_16 (by decide) (fun hb16 => ?_) (fun hb16 => ?_)
      · skip
        rw [nI_leI (by omega) (by omega)] at hb16
        obtain rfl : nq = kq := by omega
        refine r_lload_n o dX10_lowerOf_45 2 rfl ?_
        refine r_aload_n o dX10_lowerOf_46 0 rfl ?_
        refine gf_11_7 o (v := nI nq) hnq mw_705 dX10_lowerOf_47 ?_
        refine r_i2l o dX10_lowerOf_50 rfl ?_
        refine r_lmul o dX10_lowerOf_51 ?_
        refine r_lload_n o dX10_lowerOf_52 1 rfl ?_
        refine r_lload_n o dX10_lowerOf_53 1 rfl ?_
        refine r_lmul o dX10_lowerOf_54 ?_
        refine r_lsub o dX10_lowerOf_55 ?_
        refine r_ldc2_w o mw_873 dX10_lowerOf_56 ?_
        refine r_lmul o dX10_lowerOf_59 ?_
        exact r_lreturn o q dX10_lowerOf_60 (⟨loF_e, rfl⟩)
      · skip
        rw [nI_leI (by omega) (by omega)] at hb16
        refine r_lload_n o dX10_lowerOf_19 2 rfl ?_
        refine r_aload_n o dX10_lowerOf_20 0 rfl ?_
        refine gf_11_6 o mw_704 dX10_lowerOf_21 ?_
        refine r_iload o dX10_lowerOf_24 3 rfl ?_
        refine r_ia o (by decide) ia_76 (f := xf) hxf kq rfl (by omega) (by decide) dX10_lowerOf_26 ?_
        refine r_i2l o dX10_lowerOf_27 rfl ?_
        refine r_aload_n o dX10_lowerOf_28 0 rfl ?_
        refine gf_11_6 o mw_704 dX10_lowerOf_29 ?_
        refine r_iload o dX10_lowerOf_32 3 rfl ?_
        refine r_ia o (by decide) ia_76 (f := xf) hxf kq rfl (by omega) (by decide) dX10_lowerOf_34 ?_
        refine r_i2l o dX10_lowerOf_35 rfl ?_
        refine r_lmul o dX10_lowerOf_36 ?_
        refine r_ladd o dX10_lowerOf_37 ?_
        refine r_lstore_n o (lv' := [(3, .long ((sqL xf kq) + (((xf kq).toInt64) * ((xf kq).toInt64)))), (0, .ref (gad G 11)), (1, .long (sumL xf nq)), (5, .int (nI kq))]) dX10_lowerOf_38 (by decide) rfl ?_
        refine r_iinc o (v := nI (kq + 1)) (lv' := [(5, .int (nI (kq + 1))), (3, .long ((sqL xf kq) + (((xf kq).toInt64) * ((xf kq).toInt64)))), (0, .ref (gad G 11)), (1, .long (sumL xf nq))]) dX10_lowerOf_39 3 rfl (nI_inc _) (by decide) rfl ?_
        refine r_goto o (tgt := 10) dX10_lowerOf_42 (by decide) ?_
        exact r_to rfl [2, 3, 1, 0] rfl (ih10 (kq + 1) (by omega) (by omega))
  exact r_to rfl [3, 2, 1, 0] rfl (L10 _ 0 (by omega) (Nat.lt_succ_self _))
set_option maxHeartbeats 4000000 in
set_option maxRecDepth 100000 in
theorem c_X10_greatestOf (l : Launch) (G : Gl) (σ : Sto) (yrq : Nat → Nat) (nq : Nat) (hnq : (σ 11).1 7 = nI nq) (hn24 : nq ≤ 24) (hyr : ∀ jq, jq < nq → (σ 75).1 jq = nI (yrq jq)) (hyl : ∀ jq, yrq jq < 24) (xf : Nat → Int32) (hxf : (σ 76).1 = xf) (f1q : Nat) (t1q : Nat) (hft : 2 ≤ f1q ∧ f1q ≤ t1q ∧ t1q ≤ 12) : CtL l G yX10_greatestOf cX10_greatestOf 8 (some .long) 2 49 [.ref (gad G 11), .int (nI f1q), .int (nI t1q)] σ (fun r σ' => r = mxU yrq nq xf f1q (t1q - f1q) ∧ (∀ cz, cz ≠ 77 → cz ≠ 78 → σ' cz = σ cz)) := by
  refine CtL.of (by decide +kernel) (Nat.le_of_ble_eq_true rfl) (fun X o q => ?_)
  show WS X G 8 σ 0 [(0, .ref (gad G 11)), (1, .int (nI f1q)), (2, .int (nI t1q))] []
  refine r_aload_n o dX10_greatestOf_0 0 rfl ?_
  refine r_iload_n o dX10_greatestOf_1 1 rfl ?_
  refine r_callVL o (As := [.int (nI f1q)]) (st := []) (c_X10_upperOf (xl X) G σ yrq nq hnq hn24 hyr hyl xf hxf f1q (by omega)) om_X10_upperOf mw_876 mw_24 mw_874 (by decide) rfl rfl rfl (by decide) rfl rfl (Nat.le_of_ble_eq_true rfl) dX10_greatestOf_2 (fun rr2 σσ2 hp2 => ?_)
  obtain ⟨hr2, hk⟩ := hp2
  subst hr2
  refine r_lstore_n o (lv' := [(3, .long (upF yrq nq xf f1q)), (0, .ref (gad G 11)), (1, .int (nI f1q)), (2, .int (nI t1q))]) dX10_greatestOf_5 (by decide) rfl ?_
  refine r_iload_n o dX10_greatestOf_6 2 rfl ?_
  refine r_iconst o (v := nI 1) dX10_greatestOf_7 (by decide) ?_
  refine r_iadd o dX10_greatestOf_8 ?_
  refine r_topi (y := nI (f1q + 1)) (nI_add' _ _) ?_
  refine r_istore o (lv' := [(5, .int (nI (f1q + 1))), (3, .long (upF yrq nq xf f1q)), (0, .ref (gad G 11)), (1, .int (nI f1q)), (2, .int (nI t1q))]) dX10_greatestOf_9 (by decide) rfl ?_
  have L11 : ∀ (n : Nat) (iq : Nat) (τq : Sto) (hiq : iq ≤ t1q - f1q) (hkt : ∀ cz, cz ≠ 77 → cz ≠ 78 → τq cz = σ cz), t1q - f1q - iq < n → WS X G 8 τq 11 [(0, .ref (gad G 11)), (1, .int (nI f1q)), (2, .int (nI t1q)), (3, .long (mxU yrq nq xf f1q iq)), (5, .int (nI (f1q + (iq + 1))))] [] := by
    intro n
    induction n with
    | zero => intro iq τq hiq hkt hm; exact absurd hm (Nat.not_lt_zero _)
    | succ n ih11 =>
      intro iq τq hiq hkt hm
      refine r_iload o dX10_greatestOf_11 4 rfl ?_
      refine r_iload_n o dX10_greatestOf_13 2 rfl ?_
      refine r_icmp_gt o (tgt := 45) dX10_greatestOf_14 (by decide) (fun hb14 => ?_) (fun hb14 => ?_)
      · skip
        rw [nI_ltI (by omega) (by omega)] at hb14
        obtain rfl : iq = t1q - f1q := by omega
        refine r_lload_n o dX10_greatestOf_45 3 rfl ?_
        exact r_lreturn o q dX10_greatestOf_46 (⟨rfl, hkt⟩)
      · skip
        rw [nI_ltI (by omega) (by omega)] at hb14
        refine r_aload_n o dX10_greatestOf_17 0 rfl ?_
        refine r_iload o dX10_greatestOf_18 4 rfl ?_
        refine r_callVL o (As := [.int (nI (f1q + (iq + 1)))]) (st := []) (c_X10_upperOf (xl X) G τq yrq nq (by rw [hkt 11 (by decide) (by decide)]; exact hnq) hn24 (fun jq hj => by rw [hkt 75 (by decide) (by decide)]; exact hyr jq hj) hyl xf (by rw [hkt 76 (by decide) (by decide)]; exact hxf) (f1q + (iq + 1)) (by omega)) om_X10_upperOf mw_876 mw_24 mw_874 (by decide) rfl rfl rfl (by decide) rfl rfl (Nat.le_of_ble_eq_true rfl) dX10_greatestOf_20 (fun rr20 σσ20 hp20 => ?_)
        obtain ⟨hr20, hk20⟩ := hp20
        subst hr20
        refine r_lstore o (lv' := [(6, .long (upF yrq nq xf (f1q + (iq + 1)))), (0, .ref (gad G 11)), (1, .int (nI f1q)), (2, .int (nI t1q)), (3, .long (mxU yrq nq xf f1q iq)), (5, .int (nI (f1q + (iq + 1))))]) dX10_greatestOf_23 (by decide) rfl ?_
        refine r_lload o dX10_greatestOf_25 0 rfl ?_
        refine r_lload_n o dX10_greatestOf_27 4 rfl ?_
        refine r_lcmp o dX10_greatestOf_28 ?_
        refine r_if_le o (tgt := 37) dX10_greatestOf_29 (by decide) (fun hb29 => ?_) (fun hb29 => ?_)
        · skip
          rw [lg_cmp_le] at hb29
          refine r_lload_n o dX10_greatestOf_37 4 rfl ?_
          refine r_lstore_n o (lv' := [(3, .long (mxU yrq nq xf f1q iq)), (6, .long (upF yrq nq xf (f1q + (iq + 1)))), (0, .ref (gad G 11)), (1, .int (nI f1q)), (2, .int (nI t1q)), (5, .int (nI (f1q + (iq + 1))))]) dX10_greatestOf_38 (by decide) rfl ?_
          refine r_lv (lv' := [(3, .long (mxU yrq nq xf f1q (iq + 1))), (6, .long (upF yrq nq xf (f1q + (iq + 1)))), (0, .ref (gad G 11)), (1, .int (nI f1q)), (2, .int (nI t1q)), (5, .int (nI (f1q + (iq + 1))))]) (congrArg (fun zz => ([(3, .long zz), (6, .long (upF yrq nq xf (f1q + (iq + 1)))), (0, .ref (gad G 11)), (1, .int (nI f1q)), (2, .int (nI t1q)), (5, .int (nI (f1q + (iq + 1))))] : List (Nat × Value))) (show mxU yrq nq xf f1q iq = mxU yrq nq xf f1q (iq + 1) from (if_neg (fun hz => absurd hb29 (l_nle.mpr hz))).symm)) ?_
          refine r_iinc o (v := nI (f1q + (iq + 1) + 1)) (lv' := [(5, .int (nI (f1q + (iq + 1) + 1))), (3, .long (mxU yrq nq xf f1q (iq + 1))), (6, .long (upF yrq nq xf (f1q + (iq + 1)))), (0, .ref (gad G 11)), (1, .int (nI f1q)), (2, .int (nI t1q))]) dX10_greatestOf_39 5 rfl (nI_inc _) (by decide) rfl ?_
          refine r_goto o (tgt := 11) dX10_greatestOf_42 (by decide) ?_
          exact r_to rfl [3, 4, 5, 1, 0] rfl (ih11 (iq + 1) σσ20 (by omega) (fun cz hc1 hc2 => (hk20 cz hc1 hc2).trans (hkt cz hc1 hc2)) (by omega))
        · skip
          rw [lg_cmp_le] at hb29
          refine r_lload o dX10_greatestOf_32 0 rfl ?_
          refine r_goto o (tgt := 38) dX10_greatestOf_34 (by decide) ?_
          refine r_lstore_n o (lv' := [(3, .long (upF yrq nq xf (f1q + (iq + 1)))), (6, .long (upF yrq nq xf (f1q + (iq + 1)))), (0, .ref (gad G 11)), (1, .int (nI f1q)), (2, .int (nI t1q)), (5, .int (nI (f1q + (iq + 1))))]) dX10_greatestOf_38 (by decide) rfl ?_
          refine r_lv (lv' := [(3, .long (mxU yrq nq xf f1q (iq + 1))), (6, .long (upF yrq nq xf (f1q + (iq + 1)))), (0, .ref (gad G 11)), (1, .int (nI f1q)), (2, .int (nI t1q)), (5, .int (nI (f1q + (iq + 1))))]) (congrArg (fun zz => ([(3, .long zz), (6, .long (upF yrq nq xf (f1q + (iq + 1)))), (0, .ref (gad G 11)), (1, .int (nI f1q)), (2, .int (nI t1q)), (5, .int (nI (f1q + (iq + 1))))] : List (Nat × Value))) (show upF yrq nq xf (f1q + (iq + 1)) = mxU yrq nq xf f1q (iq + 1) from (if_pos (l_nle.mp hb29)).symm)) ?_
          refine r_iinc o (v := nI (f1q + (iq + 1) + 1)) (lv' := [(5, .int (nI (f1q + (iq + 1) + 1))), (3, .long (mxU yrq nq xf f1q (iq + 1))), (6, .long (upF yrq nq xf (f1q + (iq + 1)))), (0, .ref (gad G 11)), (1, .int (nI f1q)), (2, .int (nI t1q))]) dX10_greatestOf_39 5 rfl (nI_inc _) (by decide) rfl ?_
          refine r_goto o (tgt := 11) dX10_greatestOf_42 (by decide) ?_
          exact r_to rfl [3, 4, 5, 1, 0] rfl (ih11 (iq + 1) σσ20 (by omega) (fun cz hc1 hc2 => (hk20 cz hc1 hc2).trans (hkt cz hc1 hc2)) (by omega))
  exact r_to rfl [2, 3, 4, 1, 0] rfl (L11 _ 0 σσ2 (by omega) hk (Nat.lt_succ_self _))
set_option maxHeartbeats 4000000 in
set_option maxRecDepth 100000 in
theorem c_X10_exchange (l : Launch) (G : Gl) (σ : Sto) (xf : Nat → Int32) (hxf : (σ 76).1 = xf) (aq : Nat) (haq : aq < 24) (bq : Nat) (hbq : bq < 24) : CtV l G yX10_exchange cX10_exchange 4 none 0 0 [.ref (gad G 11), .int (nI aq), .int (nI bq)] σ (fun σ' => σ' = sta σ 76 (swp xf aq bq)) := by
  refine CtV.of (by decide +kernel) (Nat.le_of_ble_eq_true rfl) (fun X o q => ?_)
  show WS X G 4 σ 0 [(0, .ref (gad G 11)), (1, .int (nI aq)), (2, .int (nI bq))] []
  refine r_aload_n o dX10_exchange_0 0 rfl ?_
  refine gf_11_6 o mw_704 dX10_exchange_1 ?_
  refine r_iload_n o dX10_exchange_4 1 rfl ?_
  refine r_ia o (by decide) ia_76 (f := xf) hxf aq rfl (by omega) (by decide) dX10_exchange_5 ?_
  refine r_istore_n o (lv' := [(3, .int (xf aq)), (0, .ref (gad G 11)), (1, .int (nI aq)), (2, .int (nI bq))]) dX10_exchange_6 (by decide) rfl ?_
  refine r_aload_n o dX10_exchange_7 1 rfl ?_
  refine gf_11_6 o mw_704 dX10_exchange_8 ?_
  refine r_iload_n o dX10_exchange_11 2 rfl ?_
  refine r_aload_n o dX10_exchange_12 1 rfl ?_
  refine gf_11_6 o mw_704 dX10_exchange_13 ?_
  refine r_iload_n o dX10_exchange_16 3 rfl ?_
  refine r_ia o (by decide) ia_76 (f := xf) hxf bq rfl (by omega) (by decide) dX10_exchange_17 ?_
  refine r_topi (y := xf bq) rfl ?_
  refine r_iast o (by decide) ia_76 aq rfl (by omega) (by decide) dX10_exchange_18 ?_
  refine r_aload_n o dX10_exchange_19 1 rfl ?_
  refine gf_11_6 o mw_704 dX10_exchange_20 ?_
  refine r_iload_n o dX10_exchange_23 3 rfl ?_
  refine r_iload_n o dX10_exchange_24 0 rfl ?_
  refine r_iast o (by decide) ia_76 bq rfl (by omega) (by decide) dX10_exchange_25 ?_
  exact r_return o q dX10_exchange_26 (swp_sto hxf)
set_option maxHeartbeats 4000000 in
set_option maxRecDepth 100000 in
theorem c_X10_lowest (l : Launch) (G : Gl) (σ : Sto) (upq : Int64) (anq : Nat) (hal : anq < 2 ^ 63) (han : (if upq < 0 then -upq else upq) = lN anq) (bnq : Nat) (hbn : 0 < bnq ∧ bnq < 2 ^ 63) (pz : Int32) : CtL l G yX10_lowest cX10_lowest 11 (some .long) 0 0 [.long upq, .long (lN bnq), .int pz] σ (fun r σ' => r = lwS upq anq bnq pz ∧ σ' = σ) := by
  refine CtL.of (by decide +kernel) (Nat.le_of_ble_eq_true rfl) (fun X o q => ?_)
  show WS X G 11 σ 0 [(0, .long upq), (2, .long (lN bnq)), (4, .int pz)] []
  have hgg := gcd_le (aq := anq) hbn.1
  refine r_lload_n o dX10_lowest_0 0 rfl ?_
  refine r_lconst o (v := 0) dX10_lowest_1 rfl ?_
  refine r_lcmp o dX10_lowest_2 ?_
  refine r_if_ge o (tgt := 11) dX10_lowest_3 (by decide) (fun hb3 => ?_) (fun hb3 => ?_)
  · skip
    rw [lg_cmp_ge] at hb3
    refine r_lload_n o dX10_lowest_11 0 rfl ?_
    refine r_topl (y := lN anq) (by rw [← han]; first | rw [if_pos (l_nle.mp hb3)] | rw [if_neg (l_nlt.mpr hb3)]) ?_
    refine r_lstore o (lv' := [(5, .long (lN anq)), (0, .long upq), (2, .long (lN bnq)), (4, .int pz)]) dX10_lowest_12 (by decide) rfl ?_
    refine r_lload_n o dX10_lowest_14 2 rfl ?_
    refine r_lstore o (lv' := [(7, .long (lN bnq)), (5, .long (lN anq)), (0, .long upq), (2, .long (lN bnq)), (4, .int pz)]) dX10_lowest_15 (by decide) rfl ?_
    have L17 : ∀ (n : Nat) (xn9 : Nat) (yn9 : Nat) (hx9 : xn9 < 2 ^ 63) (hy9 : yn9 < 2 ^ 63) (hg9 : Nat.gcd xn9 yn9 = Nat.gcd anq bnq), yn9 < n → WS X G 11 σ 17 [(0, .long upq), (2, .long (lN bnq)), (4, .int pz), (5, .long (lN xn9)), (7, .long (lN yn9))] [] := by
      intro n
      induction n with
      | zero => intro xn9 yn9 hx9 hy9 hg9 hm; exact absurd hm (Nat.not_lt_zero _)
      | succ n ih17 =>
        intro xn9 yn9 hx9 hy9 hg9 hm
        refine r_lload o dX10_lowest_17 4 rfl ?_
        refine r_lconst o (v := 0) dX10_lowest_19 rfl ?_
        refine r_lcmp o dX10_lowest_20 ?_
        refine r_if_eq o (tgt := 42) dX10_lowest_21 (by decide) (fun hb21 => ?_) (fun hb21 => ?_)
        · skip
          rw [lg_cmp_eq] at hb21
          have hye := lN_z hy9 hb21
          rw [hye, Nat.gcd_zero_right] at hg9
          refine r_lv (lv' := [(0, .long upq), (2, .long (lN bnq)), (4, .int pz), (5, .long (lN (Nat.gcd anq bnq))), (7, .long (lN yn9))]) (congrArg (fun zz => ([(0, .long upq), (2, .long (lN bnq)), (4, .int pz), (5, .long zz), (7, .long (lN yn9))] : List (Nat × Value))) (by rw [hg9])) ?_
          refine r_iload o dX10_lowest_42 2 rfl ?_
          refine r_if_ne o (tgt := 54) dX10_lowest_44 (by decide) (fun hb44 => ?_) (fun hb44 => ?_)
          · skip
            refine r_lload_n o dX10_lowest_54 1 rfl ?_
            refine r_lload o dX10_lowest_55 3 rfl ?_
            refine r_ldiv o dX10_lowest_57 (lN_ne hgg.1 (by omega)) ?_
            exact r_lreturn o q dX10_lowest_58 (⟨by unfold lwS; first | rw [if_pos hb44] | rw [if_neg hb44], rfl⟩)
          · skip
            refine r_lload_n o dX10_lowest_47 0 rfl ?_
            refine r_lload o dX10_lowest_48 3 rfl ?_
            refine r_ldiv o dX10_lowest_50 (lN_ne hgg.1 (by omega)) ?_
            refine r_goto o (tgt := 58) dX10_lowest_51 (by decide) ?_
            exact r_lreturn o q dX10_lowest_58 (⟨by unfold lwS; first | rw [if_pos hb44] | rw [if_neg hb44], rfl⟩)
        · skip
          rw [lg_cmp_eq] at hb21
          have hyp : 0 < yn9 := Nat.pos_of_ne_zero (fun hz => hb21 (by rw [hz]; rfl))
          refine r_lload o dX10_lowest_24 3 rfl ?_
          refine r_lload o dX10_lowest_26 4 rfl ?_
          refine r_lrem o dX10_lowest_28 (lN_ne hyp hy9) ?_
          refine r_topl (y := lrm (lN xn9) (lN yn9)) rfl ?_
          refine r_lstore o (lv' := [(9, .long (lrm (lN xn9) (lN yn9))), (0, .long upq), (2, .long (lN bnq)), (4, .int pz), (5, .long (lN xn9)), (7, .long (lN yn9))]) dX10_lowest_29 (by decide) rfl ?_
          refine r_lv (lv' := [(9, .long (lN (xn9 % yn9))), (0, .long upq), (2, .long (lN bnq)), (4, .int pz), (5, .long (lN xn9)), (7, .long (lN yn9))]) (congrArg (fun zz => ([(9, .long zz), (0, .long upq), (2, .long (lN bnq)), (4, .int pz), (5, .long (lN xn9)), (7, .long (lN yn9))] : List (Nat × Value))) (pk_lRem hx9 hyp hy9)) ?_
          refine r_lload o dX10_lowest_31 5 rfl ?_
          refine r_lstore o (lv' := [(5, .long (lN yn9)), (9, .long (lN (xn9 % yn9))), (0, .long upq), (2, .long (lN bnq)), (4, .int pz), (7, .long (lN yn9))]) dX10_lowest_33 (by decide) rfl ?_
          refine r_lload o dX10_lowest_35 1 rfl ?_
          refine r_lstore o (lv' := [(7, .long (lN (xn9 % yn9))), (5, .long (lN yn9)), (9, .long (lN (xn9 % yn9))), (0, .long upq), (2, .long (lN bnq)), (4, .int pz)]) dX10_lowest_37 (by decide) rfl ?_
          refine r_goto o (tgt := 17) dX10_lowest_39 (by decide) ?_
          exact r_to rfl [3, 4, 5, 1, 0] rfl (ih17 yn9 (xn9 % yn9) hy9 (by have hml := Nat.mod_lt xn9 hyp; omega) (by rw [gcd_stp, hg9]) (by have hml := Nat.mod_lt xn9 hyp; omega))
    exact r_to rfl [2, 3, 4, 1, 0] rfl (L17 _ anq bnq hal hbn.2 rfl (Nat.lt_succ_self _))
  · skip
    rw [lg_cmp_ge] at hb3
    refine r_lload_n o dX10_lowest_6 0 rfl ?_
    refine r_lneg o dX10_lowest_7 ?_
    refine r_goto o (tgt := 12) dX10_lowest_8 (by decide) ?_
    refine r_topl (y := lN anq) (by rw [← han]; first | rw [if_pos (l_nle.mp hb3)] | rw [if_neg (l_nlt.mpr hb3)]) ?_
    refine r_lstore o (lv' := [(5, .long (lN anq)), (0, .long upq), (2, .long (lN bnq)), (4, .int pz)]) dX10_lowest_12 (by decide) rfl ?_
    refine r_lload_n o dX10_lowest_14 2 rfl ?_
    refine r_lstore o (lv' := [(7, .long (lN bnq)), (5, .long (lN anq)), (0, .long upq), (2, .long (lN bnq)), (4, .int pz)]) dX10_lowest_15 (by decide) rfl ?_
    have L17 : ∀ (n : Nat) (xn9 : Nat) (yn9 : Nat) (hx9 : xn9 < 2 ^ 63) (hy9 : yn9 < 2 ^ 63) (hg9 : Nat.gcd xn9 yn9 = Nat.gcd anq bnq), yn9 < n → WS X G 11 σ 17 [(0, .long upq), (2, .long (lN bnq)), (4, .int pz), (5, .long (lN xn9)), (7, .long (lN yn9))] [] := by
      intro n
      induction n with
      | zero => intro xn9 yn9 hx9 hy9 hg9 hm; exact absurd hm (Nat.not_lt_zero _)
      | succ n ih17 =>
        intro xn9 yn9 hx9 hy9 hg9 hm
        refine r_lload o dX10_lowest_17 4 rfl ?_
        refine r_lconst o (v := 0) dX10_lowest_19 rfl ?_
        refine r_lcmp o dX10_lowest_20 ?_
        refine r_if_eq o (tgt := 42) dX10_lowest_21 (by decide) (fun hb21 => ?_) (fun hb21 => ?_)
        · skip
          rw [lg_cmp_eq] at hb21
          have hye := lN_z hy9 hb21
          rw [hye, Nat.gcd_zero_right] at hg9
          refine r_lv (lv' := [(0, .long upq), (2, .long (lN bnq)), (4, .int pz), (5, .long (lN (Nat.gcd anq bnq))), (7, .long (lN yn9))]) (congrArg (fun zz => ([(0, .long upq), (2, .long (lN bnq)), (4, .int pz), (5, .long zz), (7, .long (lN yn9))] : List (Nat × Value))) (by rw [hg9])) ?_
          refine r_iload o dX10_lowest_42 2 rfl ?_
          refine r_if_ne o (tgt := 54) dX10_lowest_44 (by decide) (fun hb44 => ?_) (fun hb44 => ?_)
          · skip
            refine r_lload_n o dX10_lowest_54 1 rfl ?_
            refine r_lload o dX10_lowest_55 3 rfl ?_
            refine r_ldiv o dX10_lowest_57 (lN_ne hgg.1 (by omega)) ?_
            exact r_lreturn o q dX10_lowest_58 (⟨by unfold lwS; first | rw [if_pos hb44] | rw [if_neg hb44], rfl⟩)
          · skip
            refine r_lload_n o dX10_lowest_47 0 rfl ?_
            refine r_lload o dX10_lowest_48 3 rfl ?_
            refine r_ldiv o dX10_lowest_50 (lN_ne hgg.1 (by omega)) ?_
            refine r_goto o (tgt := 58) dX10_lowest_51 (by decide) ?_
            exact r_lreturn o q dX10_lowest_58 (⟨by unfold lwS; first | rw [if_pos hb44] | rw [if_neg hb44], rfl⟩)
        · skip
          rw [lg_cmp_eq] at hb21
          have hyp : 0 < yn9 := Nat.pos_of_ne_zero (fun hz => hb21 (by rw [hz]; rfl))
          refine r_lload o dX10_lowest_24 3 rfl ?_
          refine r_lload o dX10_lowest_26 4 rfl ?_
          refine r_lrem o dX10_lowest_28 (lN_ne hyp hy9) ?_
          refine r_topl (y := lrm (lN xn9) (lN yn9)) rfl ?_
          refine r_lstore o (lv' := [(9, .long (lrm (lN xn9) (lN yn9))), (0, .long upq), (2, .long (lN bnq)), (4, .int pz), (5, .long (lN xn9)), (7, .long (lN yn9))]) dX10_lowest_29 (by decide) rfl ?_
          refine r_lv (lv' := [(9, .long (lN (xn9 % yn9))), (0, .long upq), (2, .long (lN bnq)), (4, .int pz), (5, .long (lN xn9)), (7, .long (lN yn9))]) (congrArg (fun zz => ([(9, .long zz), (0, .long upq), (2, .long (lN bnq)), (4, .int pz), (5, .long (lN xn9)), (7, .long (lN yn9))] : List (Nat × Value))) (pk_lRem hx9 hyp hy9)) ?_
          refine r_lload o dX10_lowest_31 5 rfl ?_
          refine r_lstore o (lv' := [(5, .long (lN yn9)), (9, .long (lN (xn9 % yn9))), (0, .long upq), (2, .long (lN bnq)), (4, .int pz), (7, .long (lN yn9))]) dX10_lowest_33 (by decide) rfl ?_
          refine r_lload o dX10_lowest_35 1 rfl ?_
          refine r_lstore o (lv' := [(7, .long (lN (xn9 % yn9))), (5, .long (lN yn9)), (9, .long (lN (xn9 % yn9))), (0, .long upq), (2, .long (lN bnq)), (4, .int pz)]) dX10_lowest_37 (by decide) rfl ?_
          refine r_goto o (tgt := 17) dX10_lowest_39 (by decide) ?_
          exact r_to rfl [3, 4, 5, 1, 0] rfl (ih17 yn9 (xn9 % yn9) hy9 (by have hml := Nat.mod_lt xn9 hyp; omega) (by rw [gcd_stp, hg9]) (by have hml := Nat.mod_lt xn9 hyp; omega))
    exact r_to rfl [2, 3, 4, 1, 0] rfl (L17 _ anq bnq hal hbn.2 rfl (Nat.lt_succ_self _))
