set_option maxHeartbeats 4000000 in
set_option maxRecDepth 100000 in
/-- THE LAW's loop over the script -/
theorem law_loop {X : Cx} {G : Gl} {bq Lq ncq nsq : Nat} {xv : Nat → Int32} (o : OkL X G bq Lq xv ncq nsq) : ∀ (nq iq : Nat) (σ : Sto), LIx σ → iq ≤ Lq + 5 → Lq + 6 - iq < nq → WT X G ncq nsq σ 18 [(3, .int (nI iq)), (2, .ref (gad G 11)), (1, .ref (gad G 0)), (0, .ref bq)] []
  | 0, _, _, _, _, h => absurd h (Nat.not_lt_zero _)
  | nq + 1, iq, σ, hli, hiq, hm => by
    have hL := o.2.2.2.2.2.2.2.2.2.2.2.2.2.1
    refine tw_iload o dL_law_18 0 rfl ?_
    refine tw_aload o dL_law_19 3 rfl ?_
    refine tw_slen o dL_law_20 ?_
    refine tw_iconst o (v := nI 5) dL_law_21 (by decide) ?_
    refine tw_isub o dL_law_22 ?_
    refine tw_icmp_gt o (tgt := 1029) dL_law_23 (by decide) (fun z => ?_) (fun z => ?_)
    · refine tw_iconst o (v := 1) dL_law_1029 (by decide) ?_
      exact tw_ret1 o dL_law_1030
    · rw [fa_lt, nI_subI (by omega) (by omega), nI_toInt (by omega)] at z
      have hi : iq + 5 ≤ Lq := by omega
      have K : ∀ τq : Sto, LIx τq → WT X G ncq nsq τq 1023 [(3, .int (nI iq)), (2, .ref (gad G 11)), (1, .ref (gad G 0)), (0, .ref bq)] [] := fun τq hx => by
        refine tw_iinc o (v := nI (iq + 5)) (lv' := [(3, .int (nI (iq + 5))), (2, .ref (gad G 11)), (1, .ref (gad G 0)), (0, .ref bq)]) dL_law_1023 0 rfl (by rw [show Int32.ofInt 5 = nI 5 by decide]; exact nI_add' iq 5) (by decide) rfl ?_
        refine tw_goto o (tgt := 18) dL_law_1026 (by decide) ?_
        exact law_loop o nq (iq + 5) τq hx (by omega) (by omega)
      refine tw_aload o dL_law_26 3 rfl ?_
      refine tw_iload o dL_law_27 0 rfl ?_
      refine tw_sld o (kq := iq) (by omega) dL_law_28 ?_
      refine tw_bipush o (v := 31) dL_law_29 (by decide) ?_
      refine tw_iand o dL_law_31 ?_
      generalize xv iq &&& 31 = xz
      by_cases h0 : xz = nI 0
      · refine tw_top h0 ?_
        exact tw_tableIn o (off := 120) (tgt := 152) dL_law_32 (by decide) (by decide) rfl (by decide) (cs_year o hi hli K)
      by_cases h1 : xz = nI 1
      · refine tw_top h1 ?_
        exact tw_tableIn o (off := 163) (tgt := 195) dL_law_32 (by decide) (by decide) rfl (by decide) (cs_say o hi hli K)
      by_cases h2 : xz = nI 2
      · refine tw_top h2 ?_
        exact tw_tableIn o (off := 186) (tgt := 218) dL_law_32 (by decide) (by decide) rfl (by decide) (cs_wipe o hi hli K)
      by_cases h3 : xz = nI 3
      · refine tw_top h3 ?_
        exact tw_tableIn o (off := 199) (tgt := 231) dL_law_32 (by decide) (by decide) rfl (by decide) (cs_fault o hi hli K)
      by_cases h4 : xz = nI 4
      · refine tw_top h4 ?_
        exact tw_tableIn o (off := 212) (tgt := 244) dL_law_32 (by decide) (by decide) rfl (by decide) (cs_dealt o hi hli K)
      by_cases h5 : xz = nI 5
      · refine tw_top h5 ?_
        exact tw_tableIn o (off := 245) (tgt := 277) dL_law_32 (by decide) (by decide) rfl (by decide) (cs_share o hi hli K)
      by_cases h6 : xz = nI 6
      · refine tw_top h6 ?_
        exact tw_tableIn o (off := 289) (tgt := 321) dL_law_32 (by decide) (by decide) rfl (by decide) (cs_odds o hi hli K)
      by_cases h7 : xz = nI 7
      · refine tw_top h7 ?_
        exact tw_tableIn o (off := 333) (tgt := 365) dL_law_32 (by decide) (by decide) rfl (by decide) (cs_tried o hi hli K)
      by_cases h8 : xz = nI 8
      · refine tw_top h8 ?_
        exact tw_tableIn o (off := 387) (tgt := 419) dL_law_32 (by decide) (by decide) rfl (by decide) (cs_drawn o hi hli K)
      by_cases h9 : xz = nI 9
      · refine tw_top h9 ?_
        exact tw_tableIn o (off := 440) (tgt := 472) dL_law_32 (by decide) (by decide) rfl (by decide) (cs_together o hi hli K)
      by_cases h10 : xz = nI 10
      · refine tw_top h10 ?_
        exact tw_tableIn o (off := 494) (tgt := 526) dL_law_32 (by decide) (by decide) rfl (by decide) (cs_go o hi hli K)
      by_cases h11 : xz = nI 11
      · refine tw_top h11 ?_
        exact tw_tableIn o (off := 527) (tgt := 559) dL_law_32 (by decide) (by decide) rfl (by decide) (cs_waves o hi hli K)
      by_cases h12 : xz = nI 12
      · refine tw_top h12 ?_
        exact tw_tableIn o (off := 571) (tgt := 603) dL_law_32 (by decide) (by decide) rfl (by decide) (cs_found o hi hli K)
      by_cases h13 : xz = nI 13
      · refine tw_top h13 ?_
        exact tw_tableIn o (off := 614) (tgt := 646) dL_law_32 (by decide) (by decide) rfl (by decide) (cs_luck o hi hli K)
      by_cases h14 : xz = nI 14
      · refine tw_top h14 ?_
        exact tw_tableIn o (off := 658) (tgt := 690) dL_law_32 (by decide) (by decide) rfl (by decide) (cs_trial o hi hli K)
      by_cases h15 : xz = nI 15
      · refine tw_top h15 ?_
        exact tw_tableIn o (off := 691) (tgt := 723) dL_law_32 (by decide) (by decide) rfl (by decide) (cs_of o hi hli K)
      by_cases h16 : xz = nI 16
      · refine tw_top h16 ?_
        exact tw_tableIn o (off := 724) (tgt := 756) dL_law_32 (by decide) (by decide) rfl (by decide) (cs_print o hi hli K)
      by_cases h17 : xz = nI 17
      · refine tw_top h17 ?_
        exact tw_tableIn o (off := 773) (tgt := 805) dL_law_32 (by decide) (by decide) rfl (by decide) (cs_lean o hi hli K)
      by_cases h18 : xz = nI 18
      · refine tw_top h18 ?_
        exact tw_tableIn o (off := 797) (tgt := 829) dL_law_32 (by decide) (by decide) rfl (by decide) (cs_reads o hi hli K)
      by_cases h19 : xz = nI 19
      · refine tw_top h19 ?_
        exact tw_tableIn o (off := 830) (tgt := 862) dL_law_32 (by decide) (by decide) rfl (by decide) (cs_bar o hi hli K)
      by_cases h20 : xz = nI 20
      · refine tw_top h20 ?_
        exact tw_tableIn o (off := 853) (tgt := 885) dL_law_32 (by decide) (by decide) rfl (by decide) (cs_club o hi hli K)
      by_cases h21 : xz = nI 21
      · refine tw_top h21 ?_
        exact tw_tableIn o (off := 866) (tgt := 898) dL_law_32 (by decide) (by decide) rfl (by decide) (cs_least o hi hli K)
      by_cases h22 : xz = nI 22
      · refine tw_top h22 ?_
        exact tw_tableIn o (off := 899) (tgt := 931) dL_law_32 (by decide) (by decide) rfl (by decide) (cs_truth o hi hli K)
      by_cases h23 : xz = nI 23
      · refine tw_top h23 ?_
        exact tw_tableIn o (off := 922) (tgt := 954) dL_law_32 (by decide) (by decide) rfl (by decide) (cs_good o hi hli K)
      by_cases h24 : xz = nI 24
      · refine tw_top h24 ?_
        exact tw_tableIn o (off := 945) (tgt := 977) dL_law_32 (by decide) (by decide) rfl (by decide) (cs_best o hi hli K)
      by_cases h25 : xz = nI 25
      · refine tw_top h25 ?_
        exact tw_tableIn o (off := 968) (tgt := 1000) dL_law_32 (by decide) (by decide) rfl (by decide) (cs_told o hi hli K)
      exact tw_tableOut o (tgt := 1023) dL_law_32 (by have e0 := neN h0 (by decide); have e1 := neN h1 (by decide); have e2 := neN h2 (by decide); have e3 := neN h3 (by decide); have e4 := neN h4 (by decide); have e5 := neN h5 (by decide); have e6 := neN h6 (by decide); have e7 := neN h7 (by decide); have e8 := neN h8 (by decide); have e9 := neN h9 (by decide); have e10 := neN h10 (by decide); have e11 := neN h11 (by decide); have e12 := neN h12 (by decide); have e13 := neN h13 (by decide); have e14 := neN h14 (by decide); have e15 := neN h15 (by decide); have e16 := neN h16 (by decide); have e17 := neN h17 (by decide); have e18 := neN h18 (by decide); have e19 := neN h19 (by decide); have e20 := neN h20 (by decide); have e21 := neN h21 (by decide); have e22 := neN h22 (by decide); have e23 := neN h23 (by decide); have e24 := neN h24 (by decide); have e25 := neN h25 (by decide); omega) (by decide) (K σ hli)
