theorem in17 {kq : Nat} (h : kq ≤ 24) (hb : inB (nI 1) (nI 7) (nI kq) = true) : 1 ≤ kq ∧ kq ≤ 7 := by
  obtain ⟨iq, h1, h2, h3⟩ := inB_lo (by decide) (by decide) hb
  have := (nI_eq (by omega) (by omega)).mp h1
  omega
theorem od_g0 {yrq : Nat → Nat} {nq f1q wq : Nat} {x0 : Nat → Int32} (h1 : nq ≤ 7) : (visM nq 0).countP (gdOrd yrq nq f1q wq x0) = 1 := by
  have e : gdOrd yrq nq f1q wq x0 (encq (itL nq 0) / 8 ^ (1 + nq)) = true := by
    unfold gdOrd
    have hx : mxU yrq nq (xP x0 (encq (itL nq 0) / 8 ^ (1 + nq))) f1q wq = mxU yrq nq x0 f1q wq := mx_cong (fun iq hi => by
      rw [xP_D (hOk_it h1 0).2 iq]
      show x0 ((hS0 nq).getD (1 + nq + iq) 0) = x0 iq
      rw [s0_p hi]) wq
    rw [hx, decide_eq_true (show mxU yrq nq x0 f1q wq ≤ mxU yrq nq x0 f1q wq by rw [fa_le64]; exact Int.le_refl _), Bool.or_true]
  show (encq (itL nq 0) / 8 ^ (1 + nq) :: []).countP _ = 1
  rw [List.countP_cons, if_pos e]
  rfl
set_option maxHeartbeats 4000000 in
set_option maxRecDepth 100000 in
theorem c_X10_oddsOf (l : Launch) (G : Gl) (σ : Sto) (s0q : Sto) (dfq : Nat → Int32) (hnm : NmX s0q σ dfq 24 (nuF dfq 24)) (hn7 : 1 ≤ (gcnt dfq 24) ∧ (gcnt dfq 24) ≤ 7) (f1q : Nat) (t1q : Nat) (hft : 2 ≤ f1q ∧ f1q ≤ t1q ∧ t1q ≤ 12) (pz : Int32) : CtL l G yX10_oddsOf cX10_oddsOf 10 (some .long) 3 76 [.ref (gad G 11), .int (nI f1q), .int (nI t1q), .int pz] σ (fun r σ' => r = fX (nI ((visM (gcnt dfq 24) (tmq (gcnt dfq 24))).countP (gdOrd (yeF dfq 24) (gcnt dfq 24) f1q (t1q - f1q) (nuF dfq 24)))).toInt64 (nI (visM (gcnt dfq 24) (tmq (gcnt dfq 24))).length).toInt64 pz ∧ keepM s0q σ') := by
  refine CtL.of (by decide +kernel) (Nat.le_of_ble_eq_true rfl) (fun X o q => ?_)
  show WS X G 10 σ 0 [(0, .ref (gad G 11)), (1, .int (nI f1q)), (2, .int (nI t1q)), (3, .int pz)] []
  refine r_aload_n o dX10_oddsOf_0 0 rfl ?_
  refine r_iload_n o dX10_oddsOf_1 1 rfl ?_
  refine r_iload_n o dX10_oddsOf_2 2 rfl ?_
  refine r_callVL o (As := [.int (nI f1q), .int (nI t1q)]) (st := []) (c_X10_grK (xl X) G σ s0q dfq 24 (by omega) (nuF dfq 24) hnm f1q t1q hft) om_X10_greatestOf mw_900 mw_27 mw_898 (by decide) rfl rfl rfl (by decide) rfl rfl (Nat.le_of_ble_eq_true rfl) dX10_oddsOf_3 (fun rr3 σσ3 hp3 => ?_)
  obtain ⟨hu3, hnm2, h79a⟩ := hp3
  subst hu3
  refine r_lstore o (lv' := [(4, .long (mxU (yeF dfq 24) (gcnt dfq 24) (nuF dfq 24) f1q (t1q - f1q))), (0, .ref (gad G 11)), (1, .int (nI f1q)), (2, .int (nI t1q)), (3, .int pz)]) dX10_oddsOf_6 (by decide) rfl ?_
  refine r_aload_n o dX10_oddsOf_8 1 rfl ?_
  refine r_callVL o (As := []) (st := []) (c_X10_loN (xl X) G σσ3 s0q dfq 24 (by omega) (nuF dfq 24) hnm2) om_X10_lowerOf mw_867 mw_22 mw_865 (by decide) rfl rfl rfl (by decide) rfl rfl (Nat.le_of_ble_eq_true rfl) dX10_oddsOf_9 (fun rr9 σσ9 hp9 => ?_)
  obtain ⟨hp9, hp9b⟩ := hp9; replace hp9 := Eq.symm hp9; replace hp9b := Eq.symm hp9b; subst hp9; subst hp9b
  refine r_lconst o (v := 0) dX10_oddsOf_12 rfl ?_
  refine r_lcmp o dX10_oddsOf_13 ?_
  have J22 : WS X G 10 σσ3 22 [(0, .ref (gad G 11)), (1, .int (nI f1q)), (2, .int (nI t1q)), (3, .int pz), (4, .long (mxU (yeF dfq 24) (gcnt dfq 24) (nuF dfq 24) f1q (t1q - f1q)))] [.int (b01 (decide (loF (gcnt dfq 24) (nuF dfq 24) = 0)))] := by
    refine r_istore o (lv' := [(6, .int (b01 (decide (loF (gcnt dfq 24) (nuF dfq 24) = 0)))), (0, .ref (gad G 11)), (1, .int (nI f1q)), (2, .int (nI t1q)), (3, .int pz), (4, .long (mxU (yeF dfq 24) (gcnt dfq 24) (nuF dfq 24) f1q (t1q - f1q)))]) dX10_oddsOf_22 (by decide) rfl ?_
    refine r_iconst o (v := nI 1) dX10_oddsOf_24 (by decide) ?_
    refine r_istore o (lv' := [(7, .int (nI 1)), (6, .int (b01 (decide (loF (gcnt dfq 24) (nuF dfq 24) = 0)))), (0, .ref (gad G 11)), (1, .int (nI f1q)), (2, .int (nI t1q)), (3, .int pz), (4, .long (mxU (yeF dfq 24) (gcnt dfq 24) (nuF dfq 24) f1q (t1q - f1q)))]) dX10_oddsOf_25 (by decide) rfl ?_
    refine r_iconst o (v := nI 1) dX10_oddsOf_27 (by decide) ?_
    refine r_istore o (lv' := [(8, .int (nI 1)), (7, .int (nI 1)), (6, .int (b01 (decide (loF (gcnt dfq 24) (nuF dfq 24) = 0)))), (0, .ref (gad G 11)), (1, .int (nI f1q)), (2, .int (nI t1q)), (3, .int pz), (4, .long (mxU (yeF dfq 24) (gcnt dfq 24) (nuF dfq 24) f1q (t1q - f1q)))]) dX10_oddsOf_28 (by decide) rfl ?_
    refine r_iconst o (v := nI 0) dX10_oddsOf_30 (by decide) ?_
    refine r_istore o (lv' := [(9, .int (nI 0)), (8, .int (nI 1)), (7, .int (nI 1)), (6, .int (b01 (decide (loF (gcnt dfq 24) (nuF dfq 24) = 0)))), (0, .ref (gad G 11)), (1, .int (nI f1q)), (2, .int (nI t1q)), (3, .int pz), (4, .long (mxU (yeF dfq 24) (gcnt dfq 24) (nuF dfq 24) f1q (t1q - f1q)))]) dX10_oddsOf_31 (by decide) rfl ?_
    have L33 : ∀ (n : Nat) (kq : Nat) (τq : Sto) (hkq : kq ≤ (gcnt dfq 24)) (hnt : NmX s0q τq dfq 24 (nuF dfq 24)) (htz : ∀ iq, iq < kq → (τq 79).1 iq = nI 0), (gcnt dfq 24) - kq < n → WS X G 10 τq 33 [(0, .ref (gad G 11)), (1, .int (nI f1q)), (2, .int (nI t1q)), (3, .int pz), (4, .long (mxU (yeF dfq 24) (gcnt dfq 24) (nuF dfq 24) f1q (t1q - f1q))), (6, .int (b01 (decide (loF (gcnt dfq 24) (nuF dfq 24) = 0)))), (7, .int (nI 1)), (8, .int (nI 1)), (9, .int (nI kq))] [] := by
      intro n
      induction n with
      | zero => intro kq τq hkq hnt htz hm; exact absurd hm (Nat.not_lt_zero _)
      | succ n ih33 =>
        intro kq τq hkq hnt htz hm
        refine r_iload o dX10_oddsOf_33 8 rfl ?_
        refine r_aload_n o dX10_oddsOf_35 0 rfl ?_
        refine gf_11_7 o (v := nI (gcnt dfq 24)) hnt.1 mw_705 dX10_oddsOf_36 ?_
        refine r_icmp_ge o (tgt := 56) dX10_oddsOf_39 (by decide) (fun hb39 => ?_) (fun hb39 => ?_)
        · skip
          rw [nI_leI (by omega) (by omega)] at hb39
          have hke0 : kq = (gcnt dfq 24) := by omega
          have hoi0 : OdI s0q τq dfq 0 := od_0 hnt (fun iq hi => htz iq (by omega))
          refine r_iconst o (v := nI 0) dX10_oddsOf_56 (by decide) ?_
          refine r_istore o (lv' := [(9, .int (nI 0)), (0, .ref (gad G 11)), (1, .int (nI f1q)), (2, .int (nI t1q)), (3, .int pz), (4, .long (mxU (yeF dfq 24) (gcnt dfq 24) (nuF dfq 24) f1q (t1q - f1q))), (6, .int (b01 (decide (loF (gcnt dfq 24) (nuF dfq 24) = 0)))), (7, .int (nI 1)), (8, .int (nI 1))]) dX10_oddsOf_57 (by decide) rfl ?_
          have L59 : ∀ (n : Nat) (jq : Nat) (kq : Nat) (alq : Nat) (goq : Nat) (τq : Sto) (hjq : jq ≤ tmq (gcnt dfq 24)) (hoi : OdI s0q τq dfq jq) (hke : (itL (gcnt dfq 24) jq).getD 0 0 = kq) (hal : (visM (gcnt dfq 24) jq).length = alq) (hgo : (visM (gcnt dfq 24) jq).countP (gdOrd (yeF dfq 24) (gcnt dfq 24) f1q (t1q - f1q) (nuF dfq 24)) = goq), tmq (gcnt dfq 24) - jq < n → WS X G 10 τq 59 [(0, .ref (gad G 11)), (1, .int (nI f1q)), (2, .int (nI t1q)), (3, .int pz), (4, .long (mxU (yeF dfq 24) (gcnt dfq 24) (nuF dfq 24) f1q (t1q - f1q))), (6, .int (b01 (decide (loF (gcnt dfq 24) (nuF dfq 24) = 0)))), (7, .int (nI alq)), (8, .int (nI goq)), (9, .int (nI kq))] [] := by
            intro n
            induction n with
            | zero => intro jq kq alq goq τq hjq hoi hke hal hgo hm; exact absurd hm (Nat.not_lt_zero _)
            | succ n ih59 =>
              intro jq kq alq goq τq hjq hoi hke hal hgo hm
              have hk8 : kq < 8 := by rw [← hke]; exact gd_lt (hOk_it hn7.2 jq).2 0
              refine r_iload o dX10_oddsOf_59 8 rfl ?_
              refine r_aload_n o dX10_oddsOf_61 0 rfl ?_
              refine gf_11_7 o (v := nI (gcnt dfq 24)) hoi.1.1 mw_705 dX10_oddsOf_62 ?_
              refine r_icmp_ge o (tgt := 165) dX10_oddsOf_65 (by decide) (fun hb65 => ?_) (fun hb65 => ?_)
              · skip
                rw [nI_leI (by omega) (by omega)] at hb65
                have hje := od_e hn7.1 hn7.2 hjq hke hb65
                subst hje
                have hvl := vis_len (nq := (gcnt dfq 24)) (tmq (gcnt dfq 24))
                have htl := tm_le (nq := (gcnt dfq 24))
                refine r_iload o dX10_oddsOf_165 7 rfl ?_
                refine r_i2l o dX10_oddsOf_167 rfl ?_
                refine r_iload o dX10_oddsOf_168 6 rfl ?_
                refine r_i2l o dX10_oddsOf_170 rfl ?_
                refine r_iload_n o dX10_oddsOf_171 3 rfl ?_
                refine r_callSL o (As := [.long ((nI goq).toInt64), .long ((nI alq).toInt64), .int pz]) (st := []) (c_X10_lowF (xl X) G τq ((nI goq).toInt64) ((nI alq).toInt64) ((i2l_bd _).1) ((i2l_bd _).2) (by rw [nl_ti (by omega)]; omega) pz) om_X10_lowest mw_883 mw_882 (by decide) rfl rfl (Nat.le_of_ble_eq_true rfl) dX10_oddsOf_172 (fun rr172 σσ172 hp172 => ?_)
                obtain ⟨hp172, hp172b⟩ := hp172; replace hp172 := Eq.symm hp172; replace hp172b := Eq.symm hp172b; subst hp172; subst hp172b
                exact r_lreturn o q dX10_oddsOf_175 (⟨by rw [hal, hgo], hoi.1.2.2.2.2⟩)
              · skip
                rw [nI_leI (by omega) (by omega)] at hb65
                have hkl : kq < (gcnt dfq 24) := by omega
                obtain ⟨tq1, htq1⟩ : ∃ zq, (itL (gcnt dfq 24) jq).getD (1 + kq) 0 = zq := ⟨_, rfl⟩
                have htk : (τq 79).1 kq = nI tq1 := by rw [← htq1]; exact hoi.2 kq hkl
                have ht8 : tq1 < 8 := by rw [← htq1]; exact gd_lt (hOk_it hn7.2 jq).2 _
                refine r_aload_n o dX10_oddsOf_68 0 rfl ?_
                refine gf_11_10 o mw_708 dX10_oddsOf_69 ?_
                refine r_iload o dX10_oddsOf_72 8 rfl ?_
                refine r_ia o (by decide) ia_79 (f := (τq 79).1) rfl kq rfl (by omega) (by decide) dX10_oddsOf_74 ?_
                refine r_topi (y := nI tq1) htk ?_
                refine r_iload o dX10_oddsOf_75 8 rfl ?_
                refine r_icmp_ge o (tgt := 151) dX10_oddsOf_77 (by decide) (fun hb77 => ?_) (fun hb77 => ?_)
                · skip
                  rw [nI_leI (by omega) (by omega)] at hb77
                  have hge : ¬ tq1 < kq := by omega
                  refine r_aload_n o dX10_oddsOf_151 0 rfl ?_
                  refine gf_11_10 o mw_708 dX10_oddsOf_152 ?_
                  refine r_iload o dX10_oddsOf_155 8 rfl ?_
                  refine r_iconst o (v := nI 0) dX10_oddsOf_157 (by decide) ?_
                  refine r_iast o (by decide) ia_79 kq rfl (by omega) (by decide) dX10_oddsOf_158 ?_
                  refine r_iinc o (v := nI (kq + 1)) (lv' := [(9, .int (nI (kq + 1))), (0, .ref (gad G 11)), (1, .int (nI f1q)), (2, .int (nI t1q)), (3, .int pz), (4, .long (mxU (yeF dfq 24) (gcnt dfq 24) (nuF dfq 24) f1q (t1q - f1q))), (6, .int (b01 (decide (loF (gcnt dfq 24) (nuF dfq 24) = 0)))), (7, .int (nI alq)), (8, .int (nI goq))]) dX10_oddsOf_159 8 rfl (nI_inc _) (by decide) rfl ?_
                  refine r_goto o (tgt := 59) dX10_oddsOf_162 (by decide) ?_
                  exact r_to rfl [1, 2, 3, 4, 5, 6, 7, 8, 0] rfl (ih59 (jq + 1) (kq + 1) alq goq (sti τq 79 kq (nI 0)) (od_s hn7.1 hn7.2 hjq hke hkl) (od_n hn7.2 hoi hke hkl htq1 hge) (od_k1 hn7.2 hke hkl htq1 hge) (by rw [od_k hn7.2 hke htq1 hge]; exact hal) (by rw [od_k hn7.2 hke htq1 hge]; exact hgo) (by have := od_s hn7.1 hn7.2 hjq hke hkl; omega))
                · skip
                  rw [nI_leI (by omega) (by omega)] at hb77
                  have hlt : tq1 < kq := by omega
                  have hxa := xa_lt hlt
                  refine r_aload_n o dX10_oddsOf_80 0 rfl ?_
                  refine r_iload o dX10_oddsOf_81 8 rfl ?_
                  refine r_iconst o (v := nI 2) dX10_oddsOf_83 (by decide) ?_
                  refine r_irem o dX10_oddsOf_84 (nI_z (by omega) (by omega)) ?_
                  refine r_topi (y := nI (kq % 2)) (nI_rem' (by omega) (by omega) (by omega)) ?_
                  have J99 : WS X G 10 τq 99 [(0, .ref (gad G 11)), (1, .int (nI f1q)), (2, .int (nI t1q)), (3, .int pz), (4, .long (mxU (yeF dfq 24) (gcnt dfq 24) (nuF dfq 24) f1q (t1q - f1q))), (6, .int (b01 (decide (loF (gcnt dfq 24) (nuF dfq 24) = 0)))), (7, .int (nI alq)), (8, .int (nI goq)), (9, .int (nI kq))] [.int (nI (xaq kq tq1)), .ref (gad G 11)] := by
                    refine r_iload o dX10_oddsOf_99 8 rfl ?_
                    refine r_callVV o (As := [.int (nI (xaq kq tq1)), .int (nI kq)]) (st := []) (c_X10_exN (xl X) G τq s0q dfq 24 (by omega) (xD (nuF dfq 24) (gcnt dfq 24) (itL (gcnt dfq 24) jq)) hoi.1 (xaq kq tq1) (by omega) kq hkl) om_X10_exchange mw_904 mw_28 mw_902 (by decide) rfl rfl rfl (by decide) rfl rfl (Nat.le_of_ble_eq_true rfl) dX10_oddsOf_101 (fun σσ101 hp101 => ?_)
                    obtain ⟨hnx, h79⟩ := hp101
                    refine r_iinc o (v := nI (alq + 1)) (lv' := [(7, .int (nI (alq + 1))), (0, .ref (gad G 11)), (1, .int (nI f1q)), (2, .int (nI t1q)), (3, .int pz), (4, .long (mxU (yeF dfq 24) (gcnt dfq 24) (nuF dfq 24) f1q (t1q - f1q))), (6, .int (b01 (decide (loF (gcnt dfq 24) (nuF dfq 24) = 0)))), (8, .int (nI goq)), (9, .int (nI kq))]) dX10_oddsOf_104 6 rfl (nI_inc _) (by decide) rfl ?_
                    refine r_iload o dX10_oddsOf_107 7 rfl ?_
                    refine r_iload o dX10_oddsOf_109 6 rfl ?_
                    refine r_if_ne o (tgt := 126) dX10_oddsOf_111 (by decide) (fun hb111 => ?_) (fun hb111 => ?_)
                    · skip
                      rw [b01_ne0] at hb111
                      refine r_iconst o (v := nI 1) dX10_oddsOf_126 (by decide) ?_
                      refine r_goto o (tgt := 131) dX10_oddsOf_127 (by decide) ?_
                      refine r_iadd o dX10_oddsOf_131 ?_
                      refine r_topi (y := nI (goq + 1)) (nI_add' _ _) ?_
                      refine r_istore o (lv' := [(8, .int (nI (goq + 1))), (7, .int (nI (alq + 1))), (0, .ref (gad G 11)), (1, .int (nI f1q)), (2, .int (nI t1q)), (3, .int pz), (4, .long (mxU (yeF dfq 24) (gcnt dfq 24) (nuF dfq 24) f1q (t1q - f1q))), (6, .int (b01 (decide (loF (gcnt dfq 24) (nuF dfq 24) = 0)))), (9, .int (nI kq))]) dX10_oddsOf_132 (by decide) rfl ?_
                      refine r_aload_n o dX10_oddsOf_134 2 rfl ?_
                      refine gf_11_10 o mw_708 dX10_oddsOf_135 ?_
                      refine r_iload o dX10_oddsOf_138 8 rfl ?_
                      refine r_dup2_11 o dX10_oddsOf_140 rfl rfl ?_
                      refine r_ia o (by decide) ia_79 (f := (σσ101 79).1) rfl kq rfl (by omega) (by decide) dX10_oddsOf_141 ?_
                      refine r_topi (y := nI tq1) (by rw [h79]; exact htk) ?_
                      refine r_iconst o (v := nI 1) dX10_oddsOf_142 (by decide) ?_
                      refine r_iadd o dX10_oddsOf_143 ?_
                      refine r_topi (y := nI (tq1 + 1)) (nI_add' _ _) ?_
                      refine r_iast o (by decide) ia_79 kq rfl (by omega) (by decide) dX10_oddsOf_144 ?_
                      refine r_iconst o (v := nI 0) dX10_oddsOf_145 (by decide) ?_
                      refine r_istore o (lv' := [(9, .int (nI 0)), (8, .int (nI (goq + 1))), (7, .int (nI (alq + 1))), (0, .ref (gad G 11)), (1, .int (nI f1q)), (2, .int (nI t1q)), (3, .int pz), (4, .long (mxU (yeF dfq 24) (gcnt dfq 24) (nuF dfq 24) f1q (t1q - f1q))), (6, .int (b01 (decide (loF (gcnt dfq 24) (nuF dfq 24) = 0))))]) dX10_oddsOf_146 (by decide) rfl ?_
                      refine r_goto o (tgt := 59) dX10_oddsOf_148 (by decide) ?_
                      exact r_to rfl [3, 4, 5, 6, 7, 8, 2, 1, 0] rfl (ih59 (jq + 1) 0 (alq + 1) (goq + 1) (sti σσ101 79 kq (nI (tq1 + 1))) (od_s hn7.1 hn7.2 hjq hke hkl) (od_y hn7.2 hoi hke hkl htq1 hlt hnx h79) (od_k0 hn7.2 hke hkl htq1 hlt) (od_l hn7.2 hke hkl htq1 hlt hal) (od_g hn7.2 hke hkl htq1 hlt hgo (by first | exact Or.inl hb111 | exact Or.inr (l_nlt.mp hb123))) (by have := od_s hn7.1 hn7.2 hjq hke hkl; omega))
                    · skip
                      rw [b01_eq0] at hb111
                      refine r_aload_n o dX10_oddsOf_114 1 rfl ?_
                      refine r_iload_n o dX10_oddsOf_115 2 rfl ?_
                      refine r_iload_n o dX10_oddsOf_116 3 rfl ?_
                      refine r_callVL o (As := [.int (nI f1q), .int (nI t1q)]) (st := [.int (nI goq)]) (c_X10_grK (xl X) G σσ101 s0q dfq 24 (by omega) (swp (xD (nuF dfq 24) (gcnt dfq 24) (itL (gcnt dfq 24) jq)) (xaq kq tq1) kq) hnx f1q t1q hft) om_X10_greatestOf mw_900 mw_27 mw_898 (by decide) rfl rfl rfl (by decide) rfl rfl (Nat.le_of_ble_eq_true rfl) dX10_oddsOf_117 (fun rr117 σσ117 hp117 => ?_)
                      obtain ⟨hu117, hng, h79b⟩ := hp117
                      subst hu117
                      refine r_lload o dX10_oddsOf_120 5 rfl ?_
                      refine r_lcmp o dX10_oddsOf_122 ?_
                      refine r_if_lt o (tgt := 130) dX10_oddsOf_123 (by decide) (fun hb123 => ?_) (fun hb123 => ?_)
                      · skip
                        rw [lg_cmp_lt] at hb123
                        refine r_iconst o (v := nI 0) dX10_oddsOf_130 (by decide) ?_
                        refine r_iadd o dX10_oddsOf_131 ?_
                        refine r_topi (y := nI (goq + 0)) (nI_add' _ _) ?_
                        refine r_istore o (lv' := [(8, .int (nI (goq + 0))), (7, .int (nI (alq + 1))), (0, .ref (gad G 11)), (1, .int (nI f1q)), (2, .int (nI t1q)), (3, .int pz), (4, .long (mxU (yeF dfq 24) (gcnt dfq 24) (nuF dfq 24) f1q (t1q - f1q))), (6, .int (b01 (decide (loF (gcnt dfq 24) (nuF dfq 24) = 0)))), (9, .int (nI kq))]) dX10_oddsOf_132 (by decide) rfl ?_
                        refine r_aload_n o dX10_oddsOf_134 2 rfl ?_
                        refine gf_11_10 o mw_708 dX10_oddsOf_135 ?_
                        refine r_iload o dX10_oddsOf_138 8 rfl ?_
                        refine r_dup2_11 o dX10_oddsOf_140 rfl rfl ?_
                        refine r_ia o (by decide) ia_79 (f := (σσ117 79).1) rfl kq rfl (by omega) (by decide) dX10_oddsOf_141 ?_
                        refine r_topi (y := nI tq1) (by rw [h79b, h79]; exact htk) ?_
                        refine r_iconst o (v := nI 1) dX10_oddsOf_142 (by decide) ?_
                        refine r_iadd o dX10_oddsOf_143 ?_
                        refine r_topi (y := nI (tq1 + 1)) (nI_add' _ _) ?_
                        refine r_iast o (by decide) ia_79 kq rfl (by omega) (by decide) dX10_oddsOf_144 ?_
                        refine r_iconst o (v := nI 0) dX10_oddsOf_145 (by decide) ?_
                        refine r_istore o (lv' := [(9, .int (nI 0)), (8, .int (nI (goq + 0))), (7, .int (nI (alq + 1))), (0, .ref (gad G 11)), (1, .int (nI f1q)), (2, .int (nI t1q)), (3, .int pz), (4, .long (mxU (yeF dfq 24) (gcnt dfq 24) (nuF dfq 24) f1q (t1q - f1q))), (6, .int (b01 (decide (loF (gcnt dfq 24) (nuF dfq 24) = 0))))]) dX10_oddsOf_146 (by decide) rfl ?_
                        refine r_goto o (tgt := 59) dX10_oddsOf_148 (by decide) ?_
                        exact r_to rfl [3, 4, 5, 6, 7, 8, 2, 1, 0] rfl (ih59 (jq + 1) 0 (alq + 1) (goq + 0) (sti σσ117 79 kq (nI (tq1 + 1))) (od_s hn7.1 hn7.2 hjq hke hkl) (od_y hn7.2 hoi hke hkl htq1 hlt hng (h79b.trans h79)) (od_k0 hn7.2 hke hkl htq1 hlt) (od_l hn7.2 hke hkl htq1 hlt hal) (od_b hn7.2 hke hkl htq1 hlt hgo hb111 hb123) (by have := od_s hn7.1 hn7.2 hjq hke hkl; omega))
                      · skip
                        rw [lg_cmp_lt] at hb123
                        refine r_iconst o (v := nI 1) dX10_oddsOf_126 (by decide) ?_
                        refine r_goto o (tgt := 131) dX10_oddsOf_127 (by decide) ?_
                        refine r_iadd o dX10_oddsOf_131 ?_
                        refine r_topi (y := nI (goq + 1)) (nI_add' _ _) ?_
                        refine r_istore o (lv' := [(8, .int (nI (goq + 1))), (7, .int (nI (alq + 1))), (0, .ref (gad G 11)), (1, .int (nI f1q)), (2, .int (nI t1q)), (3, .int pz), (4, .long (mxU (yeF dfq 24) (gcnt dfq 24) (nuF dfq 24) f1q (t1q - f1q))), (6, .int (b01 (decide (loF (gcnt dfq 24) (nuF dfq 24) = 0)))), (9, .int (nI kq))]) dX10_oddsOf_132 (by decide) rfl ?_
                        refine r_aload_n o dX10_oddsOf_134 2 rfl ?_
                        refine gf_11_10 o mw_708 dX10_oddsOf_135 ?_
                        refine r_iload o dX10_oddsOf_138 8 rfl ?_
                        refine r_dup2_11 o dX10_oddsOf_140 rfl rfl ?_
                        refine r_ia o (by decide) ia_79 (f := (σσ117 79).1) rfl kq rfl (by omega) (by decide) dX10_oddsOf_141 ?_
                        refine r_topi (y := nI tq1) (by rw [h79b, h79]; exact htk) ?_
                        refine r_iconst o (v := nI 1) dX10_oddsOf_142 (by decide) ?_
                        refine r_iadd o dX10_oddsOf_143 ?_
                        refine r_topi (y := nI (tq1 + 1)) (nI_add' _ _) ?_
                        refine r_iast o (by decide) ia_79 kq rfl (by omega) (by decide) dX10_oddsOf_144 ?_
                        refine r_iconst o (v := nI 0) dX10_oddsOf_145 (by decide) ?_
                        refine r_istore o (lv' := [(9, .int (nI 0)), (8, .int (nI (goq + 1))), (7, .int (nI (alq + 1))), (0, .ref (gad G 11)), (1, .int (nI f1q)), (2, .int (nI t1q)), (3, .int pz), (4, .long (mxU (yeF dfq 24) (gcnt dfq 24) (nuF dfq 24) f1q (t1q - f1q))), (6, .int (b01 (decide (loF (gcnt dfq 24) (nuF dfq 24) = 0))))]) dX10_oddsOf_146 (by decide) rfl ?_
                        refine r_goto o (tgt := 59) dX10_oddsOf_148 (by decide) ?_
                        exact r_to rfl [3, 4, 5, 6, 7, 8, 2, 1, 0] rfl (ih59 (jq + 1) 0 (alq + 1) (goq + 1) (sti σσ117 79 kq (nI (tq1 + 1))) (od_s hn7.1 hn7.2 hjq hke hkl) (od_y hn7.2 hoi hke hkl htq1 hlt hng (h79b.trans h79)) (od_k0 hn7.2 hke hkl htq1 hlt) (od_l hn7.2 hke hkl htq1 hlt hal) (od_g hn7.2 hke hkl htq1 hlt hgo (by first | exact Or.inl hb111 | exact Or.inr (l_nlt.mp hb123))) (by have := od_s hn7.1 hn7.2 hjq hke hkl; omega))
                  refine r_if_ne o (tgt := 92) dX10_oddsOf_85 (by decide) (fun hb85 => ?_) (fun hb85 => ?_)
                  · skip
                    rw [nI_eq0 (by omega)] at hb85
                    refine r_aload_n o dX10_oddsOf_92 0 rfl ?_
                    refine gf_11_10 o mw_708 dX10_oddsOf_93 ?_
                    refine r_iload o dX10_oddsOf_96 8 rfl ?_
                    refine r_ia o (by decide) ia_79 (f := (τq 79).1) rfl kq rfl (by omega) (by decide) dX10_oddsOf_98 ?_
                    refine r_topi (y := nI tq1) htk ?_
                    refine r_topi (y := nI (xaq kq tq1)) (congrArg nI (if_neg hb85).symm) ?_
                    exact r_to rfl [0, 1, 2, 3, 4, 5, 6, 7, 8] rfl J99
                  · skip
                    rw [nI_eq0 (by omega)] at hb85
                    refine r_iconst o (v := nI 0) dX10_oddsOf_88 (by decide) ?_
                    refine r_goto o (tgt := 99) dX10_oddsOf_89 (by decide) ?_
                    refine r_topi (y := nI (xaq kq tq1)) (congrArg nI (if_pos hb85).symm) ?_
                    exact r_to rfl [0, 1, 2, 3, 4, 5, 6, 7, 8] rfl J99
          exact r_to rfl [1, 2, 3, 4, 5, 6, 7, 8, 0] rfl (L59 _ 0 0 1 1 τq (Nat.zero_le _) hoi0 rfl rfl (od_g0 hn7.2) (Nat.lt_succ_self _))
        · skip
          rw [nI_leI (by omega) (by omega)] at hb39
          refine r_aload_n o dX10_oddsOf_42 0 rfl ?_
          refine gf_11_10 o mw_708 dX10_oddsOf_43 ?_
          refine r_iload o dX10_oddsOf_46 8 rfl ?_
          refine r_iconst o (v := nI 0) dX10_oddsOf_48 (by decide) ?_
          refine r_iast o (by decide) ia_79 kq rfl (by omega) (by decide) dX10_oddsOf_49 ?_
          refine r_iinc o (v := nI (kq + 1)) (lv' := [(9, .int (nI (kq + 1))), (0, .ref (gad G 11)), (1, .int (nI f1q)), (2, .int (nI t1q)), (3, .int pz), (4, .long (mxU (yeF dfq 24) (gcnt dfq 24) (nuF dfq 24) f1q (t1q - f1q))), (6, .int (b01 (decide (loF (gcnt dfq 24) (nuF dfq 24) = 0)))), (7, .int (nI 1)), (8, .int (nI 1))]) dX10_oddsOf_50 8 rfl (nI_inc _) (by decide) rfl ?_
          refine r_goto o (tgt := 33) dX10_oddsOf_53 (by decide) ?_
          exact r_to rfl [1, 2, 3, 4, 5, 6, 7, 8, 0] rfl (ih33 (kq + 1) (sti τq 79 kq (nI 0)) (by omega) (od_z hnt) (od_z2 htz) (by omega))
    exact r_to rfl [4, 5, 6, 7, 8, 3, 2, 1, 0] rfl (L33 _ 0 σσ3 (by omega) hnm2 (fun iq hi => absurd hi (Nat.not_lt_zero iq)) (Nat.lt_succ_self _))
  refine r_if_ne o (tgt := 21) dX10_oddsOf_14 (by decide) (fun hb14 => ?_) (fun hb14 => ?_)
  · skip
    rw [lg_cmp_eq] at hb14
    refine r_iconst o (v := nI 0) dX10_oddsOf_21 (by decide) ?_
    refine r_topi (y := b01 (decide (loF (gcnt dfq 24) (nuF dfq 24) = 0))) (b01_f' (decide_eq_false hb14)) ?_
    exact r_to rfl [1, 2, 3, 4, 0] rfl J22
  · skip
    rw [lg_cmp_eq] at hb14
    refine r_iconst o (v := nI 1) dX10_oddsOf_17 (by decide) ?_
    refine r_goto o (tgt := 22) dX10_oddsOf_18 (by decide) ?_
    refine r_topi (y := b01 (decide (loF (gcnt dfq 24) (nuF dfq 24) = 0))) (b01_t' (decide_eq_true hb14)) ?_
    exact r_to rfl [1, 2, 3, 4, 0] rfl J22
set_option maxHeartbeats 4000000 in
set_option maxRecDepth 100000 in
theorem c_X10_tried (l : Launch) (G : Gl) (σ : Sto) (sn : Nat → Nat) (cntq : Nat) (hp : PadM σ sn cntq) (hyb : ∀ rq, rq < 6 → BdF (yrF σ rq)) (rz : Int32) (lz : Int32) (l2z : Int32) (pz : Int32) : CtL l G yX10_tried cX10_tried 5 (some .long) 5 115 [.ref (gad G 11), .int rz, .int lz, .int l2z, .int pz] σ (fun r σ' => r = (if refI (inB (nI 0) (nI 5) rz) ((inB (nI 2) (nI 12) lz && (inB (nI 2) (nI 12) l2z && (decide (lz ≤ l2z) && inB (nI 0) (nI 1) pz)))) (fltF sn cntq 21 0) = 0 then (if inB (nI 1) (nI 7) (nI (gcnt (dlM σ sn cntq rz.toNatClampNeg) 24)) = false then -1000000000000000003 else fX (nI (coR (yeF (dlM σ sn cntq rz.toNatClampNeg) 24) (gcnt (dlM σ sn cntq rz.toNatClampNeg) 24) lz.toNatClampNeg (l2z.toNatClampNeg + 1 - lz.toNatClampNeg) (wgt (yeF (dlM σ sn cntq rz.toNatClampNeg) 24) (gcnt (dlM σ sn cntq rz.toNatClampNeg) 24) (fgS (yeF (dlM σ sn cntq rz.toNatClampNeg) 24) (gcnt (dlM σ sn cntq rz.toNatClampNeg) 24) (nuF (dlM σ sn cntq rz.toNatClampNeg) 24) lz.toNatClampNeg (l2z.toNatClampNeg + 1 - lz.toNatClampNeg)).1 (nuF (dlM σ sn cntq rz.toNatClampNeg) 24)) 5040 (srS (nuF (dlM σ sn cntq rz.toNatClampNeg) 24) (gcnt (dlM σ sn cntq rz.toNatClampNeg) 24))).1).toInt64 (nI (coR (yeF (dlM σ sn cntq rz.toNatClampNeg) 24) (gcnt (dlM σ sn cntq rz.toNatClampNeg) 24) lz.toNatClampNeg (l2z.toNatClampNeg + 1 - lz.toNatClampNeg) (wgt (yeF (dlM σ sn cntq rz.toNatClampNeg) 24) (gcnt (dlM σ sn cntq rz.toNatClampNeg) 24) (fgS (yeF (dlM σ sn cntq rz.toNatClampNeg) 24) (gcnt (dlM σ sn cntq rz.toNatClampNeg) 24) (nuF (dlM σ sn cntq rz.toNatClampNeg) 24) lz.toNatClampNeg (l2z.toNatClampNeg + 1 - lz.toNatClampNeg)).1 (nuF (dlM σ sn cntq rz.toNatClampNeg) 24)) 5040 (srS (nuF (dlM σ sn cntq rz.toNatClampNeg) 24) (gcnt (dlM σ sn cntq rz.toNatClampNeg) 24))).2).toInt64 pz) else LOSTq + (refI (inB (nI 0) (nI 5) rz) ((inB (nI 2) (nI 12) lz && (inB (nI 2) (nI 12) l2z && (decide (lz ≤ l2z) && inB (nI 0) (nI 1) pz)))) (fltF sn cntq 21 0)).toInt64) ∧ keepM σ σ') := by
  refine CtL.of (by decide +kernel) (Nat.le_of_ble_eq_true rfl) (fun X o q => ?_)
  show WS X G 5 σ 0 [(0, .ref (gad G 11)), (1, .int rz), (2, .int lz), (3, .int l2z), (4, .int pz)] []
  obtain ⟨hcq, hcnt, hsg, hsn⟩ := id hp
  refine r_iload_n o dX10_tried_0 1 rfl ?_
  refine r_callSI o (As := [.int rz]) (st := []) (c_X10_isRow (xl X) G σ rz) om_X10_isRow mw_779 mw_778 (by decide) rfl rfl (Nat.le_of_ble_eq_true rfl) dX10_tried_1 (fun rr1 σσ1 hp1 => ?_)
  obtain ⟨hp1, hp1b⟩ := hp1; replace hp1 := Eq.symm hp1; replace hp1b := Eq.symm hp1b; subst hp1; subst hp1b
  refine r_if_ne o (tgt := 11) dX10_tried_4 (by decide) (fun hb4 => ?_) (fun hb4 => ?_)
  · skip
    rw [b01_ne0] at hb4
    have hk1 := hb4
    obtain ⟨hr1, hr2⟩ := inB_nI (n := 5) (by decide) hk1
    refine r_iload_n o dX10_tried_11 2 rfl ?_
    refine r_callSI o (As := [.int lz]) (st := []) (c_X10_isLength (xl X) G σ lz) om_X10_isLength mw_852 mw_851 (by decide) rfl rfl (Nat.le_of_ble_eq_true rfl) dX10_tried_12 (fun rr12 σσ12 hp12 => ?_)
    obtain ⟨hp12, hp12b⟩ := hp12; replace hp12 := Eq.symm hp12; replace hp12b := Eq.symm hp12b; subst hp12; subst hp12b
    refine r_if_eq o (tgt := 38) dX10_tried_15 (by decide) (fun hb15 => ?_) (fun hb15 => ?_)
    · skip
      rw [b01_eq0] at hb15
      refine r_ldc2_w o mw_859 dX10_tried_38 ?_
      exact r_lreturn o q dX10_tried_41 (⟨by rw [rf_2 hb4 (by first | (rw [hb15]; rfl) | (rw [hb15, hb22]; rfl) | (rw [hb15, hb22, decide_eq_false (i_nle.mpr hb27)]; rfl) | (rw [hb15, hb22, decide_eq_true (i_nlt.mp hb27), hb35]; rfl)), if_neg (by decide)]; decide, keepM_rfl⟩)
    · skip
      rw [b01_ne0] at hb15
      obtain ⟨hl1, hl2⟩ := inB_nI (n := 12) (by decide) (inB_wk hb15)
      have hl3 := inB_ge hb15
      refine r_iload_n o dX10_tried_18 3 rfl ?_
      refine r_callSI o (As := [.int l2z]) (st := []) (c_X10_isLength (xl X) G σ l2z) om_X10_isLength mw_852 mw_851 (by decide) rfl rfl (Nat.le_of_ble_eq_true rfl) dX10_tried_19 (fun rr19 σσ19 hp19 => ?_)
      obtain ⟨hp19, hp19b⟩ := hp19; replace hp19 := Eq.symm hp19; replace hp19b := Eq.symm hp19b; subst hp19; subst hp19b
      refine r_if_eq o (tgt := 38) dX10_tried_22 (by decide) (fun hb22 => ?_) (fun hb22 => ?_)
      · skip
        rw [b01_eq0] at hb22
        refine r_ldc2_w o mw_859 dX10_tried_38 ?_
        exact r_lreturn o q dX10_tried_41 (⟨by rw [rf_2 hb4 (by first | (rw [hb15]; rfl) | (rw [hb15, hb22]; rfl) | (rw [hb15, hb22, decide_eq_false (i_nle.mpr hb27)]; rfl) | (rw [hb15, hb22, decide_eq_true (i_nlt.mp hb27), hb35]; rfl)), if_neg (by decide)]; decide, keepM_rfl⟩)
      · skip
        rw [b01_ne0] at hb22
        obtain ⟨hm1, hm2⟩ := inB_nI (n := 12) (by decide) (inB_wk hb22)
        refine r_iload_n o dX10_tried_25 2 rfl ?_
        refine r_iload_n o dX10_tried_26 3 rfl ?_
        refine r_icmp_gt o (tgt := 38) dX10_tried_27 (by decide) (fun hb27 => ?_) (fun hb27 => ?_)
        · skip
          refine r_ldc2_w o mw_859 dX10_tried_38 ?_
          exact r_lreturn o q dX10_tried_41 (⟨by rw [rf_2 hb4 (by first | (rw [hb15]; rfl) | (rw [hb15, hb22]; rfl) | (rw [hb15, hb22, decide_eq_false (i_nle.mpr hb27)]; rfl) | (rw [hb15, hb22, decide_eq_true (i_nlt.mp hb27), hb35]; rfl)), if_neg (by decide)]; decide, keepM_rfl⟩)
        · skip
          refine r_iload o dX10_tried_30 4 rfl ?_
          refine r_callSI o (As := [.int pz]) (st := []) (c_X10_isPart (xl X) G σ pz) om_X10_isPart mw_857 mw_856 (by decide) rfl rfl (Nat.le_of_ble_eq_true rfl) dX10_tried_32 (fun rr32 σσ32 hp32 => ?_)
          obtain ⟨hp32, hp32b⟩ := hp32; replace hp32 := Eq.symm hp32; replace hp32b := Eq.symm hp32b; subst hp32; subst hp32b
          refine r_if_ne o (tgt := 42) dX10_tried_35 (by decide) (fun hb35 => ?_) (fun hb35 => ?_)
          · skip
            rw [b01_ne0] at hb35
            have hlm : lz.toNatClampNeg ≤ l2z.toNatClampNeg := by have hz1 := i_nlt.mp hb27; rw [hl1, hm1, nI_leI (by omega) (by omega)] at hz1; exact hz1
            refine r_aload_n o dX10_tried_42 0 rfl ?_
            refine r_callVI o (As := []) (st := []) (c_X10_fault (xl X) G σ sn cntq hp) om_X10_fault mw_804 mw_805 mw_827 (by decide) rfl rfl rfl (by decide) rfl rfl (Nat.le_of_ble_eq_true rfl) dX10_tried_43 (fun rr43 σσ43 hp43 => ?_)
            obtain ⟨hp43, hp43b⟩ := hp43; replace hp43 := Eq.symm hp43; replace hp43b := Eq.symm hp43b; subst hp43; subst hp43b
            refine r_if_lt o (tgt := 53) dX10_tried_46 (by decide) (fun hb46 => ?_) (fun hb46 => ?_)
            · skip
              have hno := flt_n hcnt hb46
              have hbd : BdF (dlM σ sn cntq rz.toNatClampNeg) := bd_deal 21 0 (hyb _ (by omega))
              have hsm := nu_sm (endq := 24) hbd (by omega)
              have hgl := gcnt_le (dlM σ sn cntq rz.toNatClampNeg) 24
              obtain ⟨dq5, hdq5⟩ : ∃ zq, zq = (dlM σ sn cntq rz.toNatClampNeg) := ⟨_, rfl⟩
              rw [← hdq5] at hsm hgl
              refine r_lv (lv' := [(0, .ref (gad G 11)), (1, .int (nI rz.toNatClampNeg)), (2, .int lz), (3, .int l2z), (4, .int pz)]) (congrArg (fun zz => ([(0, .ref (gad G 11)), (1, .int zz), (2, .int lz), (3, .int l2z), (4, .int pz)] : List (Nat × Value))) (hr1)) ?_
              refine r_lv (lv' := [(0, .ref (gad G 11)), (1, .int (nI rz.toNatClampNeg)), (2, .int (nI lz.toNatClampNeg)), (3, .int l2z), (4, .int pz)]) (congrArg (fun zz => ([(0, .ref (gad G 11)), (1, .int (nI rz.toNatClampNeg)), (2, .int zz), (3, .int l2z), (4, .int pz)] : List (Nat × Value))) (hl1)) ?_
              refine r_lv (lv' := [(0, .ref (gad G 11)), (1, .int (nI rz.toNatClampNeg)), (2, .int (nI lz.toNatClampNeg)), (3, .int (nI l2z.toNatClampNeg)), (4, .int pz)]) (congrArg (fun zz => ([(0, .ref (gad G 11)), (1, .int (nI rz.toNatClampNeg)), (2, .int (nI lz.toNatClampNeg)), (3, .int zz), (4, .int pz)] : List (Nat × Value))) (hm1)) ?_
              refine r_aload_n o dX10_tried_53 0 rfl ?_
              refine r_iload_n o dX10_tried_54 1 rfl ?_
              refine r_callVV o (As := [.int (nI rz.toNatClampNeg)]) (st := []) (c_X10_deal (xl X) G σ sn cntq hp rz.toNatClampNeg (by omega) hno (hyb _ (by omega))) om_X10_deal mw_831 mw_18 mw_829 (by decide) rfl rfl rfl (by decide) rfl rfl (Nat.le_of_ble_eq_true rfl) dX10_tried_55 (fun σσ55 hp55 => ?_)
              obtain ⟨hdd, hkk⟩ := hp55
              rw [← hdq5] at hdd
              refine r_aload_n o dX10_tried_58 0 rfl ?_
              refine r_bipush o (v := nI 24) dX10_tried_59 (by decide) ?_
              refine r_callVV o (As := [.int (nI 24)]) (st := []) (c_X10_layN (xl X) G σσ55 σ dq5 24 (by omega) hdd hkk) om_X10_layNumbers mw_863 mw_21 mw_861 (by decide) rfl rfl rfl (by decide) rfl rfl (Nat.le_of_ble_eq_true rfl) dX10_tried_61 (fun σσ61 hp61 => ?_)
              have hnm := hp61
              refine r_aload_n o dX10_tried_64 0 rfl ?_
              refine gf_11_7 o (v := nI (gcnt dq5 24)) hnm.1 mw_705 dX10_tried_65 ?_
              refine r_i2l o dX10_tried_68 rfl ?_
              refine r_lconst o (v := 1) dX10_tried_69 rfl ?_
              refine r_ldc2_w o mw_893 dX10_tried_70 ?_
              refine r_callSI o (As := [.long ((nI (gcnt dq5 24)).toInt64), .long 1, .long 7]) (st := []) (c_X10_in (xl X) G σσ61 ((nI (gcnt dq5 24)).toInt64) 1 7) om_X10_in mw_783 mw_782 (by decide) rfl rfl (Nat.le_of_ble_eq_true rfl) dX10_tried_73 (fun rr73 σσ73 hp73 => ?_)
              obtain ⟨hp73, hp73b⟩ := hp73; replace hp73 := Eq.symm hp73; replace hp73b := Eq.symm hp73b; subst hp73; subst hp73b
              refine r_topi (y := b01 (inB (nI 1) (nI 7) (nI (gcnt dq5 24)))) (by rw [← inL_w]; rfl) ?_
              refine r_if_eq o (tgt := 90) dX10_tried_76 (by decide) (fun hb76 => ?_) (fun hb76 => ?_)
              · skip
                rw [b01_eq0] at hb76
                refine r_ldc2_w o mw_906 dX10_tried_90 ?_
                exact r_lreturn o q dX10_tried_93 (⟨by rw [rf_0 hb4 (by first | (rw [hb15]; rfl) | (rw [hb15, hb22]; rfl) | (rw [hb15, hb22, decide_eq_false (i_nle.mpr hb27)]; rfl) | (rw [hb15, hb22, decide_eq_true (i_nlt.mp hb27), hb35]; rfl)) hno, if_pos rfl, ← hdq5, if_pos hb76], hnm.2.2.2.2⟩)
              · skip
                rw [b01_ne0] at hb76
                have hg7 := in17 (by omega) hb76
                refine r_aload_n o dX10_tried_79 0 rfl ?_
                refine r_iload_n o dX10_tried_80 2 rfl ?_
                refine r_iload_n o dX10_tried_81 3 rfl ?_
                refine r_iload o dX10_tried_82 4 rfl ?_
                refine r_callVL o (As := [.int (nI lz.toNatClampNeg), .int (nI l2z.toNatClampNeg), .int pz]) (st := []) (c_X10_oddsOf (xl X) G σσ61 σ dq5 hnm hg7 lz.toNatClampNeg l2z.toNatClampNeg (by omega) pz) om_X10_oddsOf mw_896 mw_26 mw_894 (by decide) rfl rfl rfl (by decide) rfl rfl (Nat.le_of_ble_eq_true rfl) dX10_tried_84 (fun rr84 σσ84 hp84 => ?_)
                obtain ⟨hu84, hk84⟩ := hp84
                subst hu84
                refine r_goto o (tgt := 93) dX10_tried_87 (by decide) ?_
                exact r_lreturn o q dX10_tried_93 (⟨by rw [rf_0 hb4 (by first | (rw [hb15]; rfl) | (rw [hb15, hb22]; rfl) | (rw [hb15, hb22, decide_eq_false (i_nle.mpr hb27)]; rfl) | (rw [hb15, hb22, decide_eq_true (i_nlt.mp hb27), hb35]; rfl)) hno, if_pos rfl, ← hdq5, if_neg (by rw [hb76]; decide), show (l2z.toNatClampNeg + 1 - lz.toNatClampNeg) = l2z.toNatClampNeg - lz.toNatClampNeg + 1 by omega]; exact odds_e hsm hg7.1 hg7.2, hk84⟩)
            · skip
              have hfs := flt_s hb46
              refine r_ldc2_w o mw_860 dX10_tried_49 ?_
              exact r_lreturn o q dX10_tried_52 (⟨by rw [rf_5 hb4 (by first | (rw [hb15]; rfl) | (rw [hb15, hb22]; rfl) | (rw [hb15, hb22, decide_eq_false (i_nle.mpr hb27)]; rfl) | (rw [hb15, hb22, decide_eq_true (i_nlt.mp hb27), hb35]; rfl)) hfs, if_neg (by decide)]; decide, keepM_rfl⟩)
          · skip
            rw [b01_eq0] at hb35
            refine r_ldc2_w o mw_859 dX10_tried_38 ?_
            exact r_lreturn o q dX10_tried_41 (⟨by rw [rf_2 hb4 (by first | (rw [hb15]; rfl) | (rw [hb15, hb22]; rfl) | (rw [hb15, hb22, decide_eq_false (i_nle.mpr hb27)]; rfl) | (rw [hb15, hb22, decide_eq_true (i_nlt.mp hb27), hb35]; rfl)), if_neg (by decide)]; decide, keepM_rfl⟩)
  · skip
    rw [b01_eq0] at hb4
    refine r_ldc2_w o mw_850 dX10_tried_7 ?_
    exact r_lreturn o q dX10_tried_10 (⟨by rw [rf_1 hb4, if_neg (by decide)]; decide, keepM_rfl⟩)
set_option maxHeartbeats 4000000 in
set_option maxRecDepth 100000 in
theorem c_X10_odds (l : Launch) (G : Gl) (σ : Sto) (sn : Nat → Nat) (cntq : Nat) (hp : PadM σ sn cntq) (hyb : ∀ rq, rq < 6 → BdF (yrF σ rq)) (rz : Int32) (lz : Int32) (pz : Int32) : CtL l G yX10_odds cX10_odds 4 (some .long) 6 139 [.ref (gad G 11), .int rz, .int lz, .int pz] σ (fun r σ' => r = (if refI (inB (nI 0) (nI 5) rz) ((inB (nI 2) (nI 12) lz && (inB (nI 2) (nI 12) lz && (decide (lz ≤ lz) && inB (nI 0) (nI 1) pz)))) (fltF sn cntq 21 0) = 0 then (if inB (nI 1) (nI 7) (nI (gcnt (dlM σ sn cntq rz.toNatClampNeg) 24)) = false then -1000000000000000003 else fX (nI (coR (yeF (dlM σ sn cntq rz.toNatClampNeg) 24) (gcnt (dlM σ sn cntq rz.toNatClampNeg) 24) lz.toNatClampNeg (lz.toNatClampNeg + 1 - lz.toNatClampNeg) (wgt (yeF (dlM σ sn cntq rz.toNatClampNeg) 24) (gcnt (dlM σ sn cntq rz.toNatClampNeg) 24) (fgS (yeF (dlM σ sn cntq rz.toNatClampNeg) 24) (gcnt (dlM σ sn cntq rz.toNatClampNeg) 24) (nuF (dlM σ sn cntq rz.toNatClampNeg) 24) lz.toNatClampNeg (lz.toNatClampNeg + 1 - lz.toNatClampNeg)).1 (nuF (dlM σ sn cntq rz.toNatClampNeg) 24)) 5040 (srS (nuF (dlM σ sn cntq rz.toNatClampNeg) 24) (gcnt (dlM σ sn cntq rz.toNatClampNeg) 24))).1).toInt64 (nI (coR (yeF (dlM σ sn cntq rz.toNatClampNeg) 24) (gcnt (dlM σ sn cntq rz.toNatClampNeg) 24) lz.toNatClampNeg (lz.toNatClampNeg + 1 - lz.toNatClampNeg) (wgt (yeF (dlM σ sn cntq rz.toNatClampNeg) 24) (gcnt (dlM σ sn cntq rz.toNatClampNeg) 24) (fgS (yeF (dlM σ sn cntq rz.toNatClampNeg) 24) (gcnt (dlM σ sn cntq rz.toNatClampNeg) 24) (nuF (dlM σ sn cntq rz.toNatClampNeg) 24) lz.toNatClampNeg (lz.toNatClampNeg + 1 - lz.toNatClampNeg)).1 (nuF (dlM σ sn cntq rz.toNatClampNeg) 24)) 5040 (srS (nuF (dlM σ sn cntq rz.toNatClampNeg) 24) (gcnt (dlM σ sn cntq rz.toNatClampNeg) 24))).2).toInt64 pz) else LOSTq + (refI (inB (nI 0) (nI 5) rz) ((inB (nI 2) (nI 12) lz && (inB (nI 2) (nI 12) lz && (decide (lz ≤ lz) && inB (nI 0) (nI 1) pz)))) (fltF sn cntq 21 0)).toInt64) ∧ keepM σ σ') := by
  refine CtL.of (by decide +kernel) (Nat.le_of_ble_eq_true rfl) (fun X o q => ?_)
  show WS X G 4 σ 0 [(0, .ref (gad G 11)), (1, .int rz), (2, .int lz), (3, .int pz)] []
  refine r_aload_n o dX10_odds_0 0 rfl ?_
  refine r_iload_n o dX10_odds_1 1 rfl ?_
  refine r_iload_n o dX10_odds_2 2 rfl ?_
  refine r_iload_n o dX10_odds_3 2 rfl ?_
  refine r_iload_n o dX10_odds_4 3 rfl ?_
  refine r_callVL o (As := [.int rz, .int lz, .int lz, .int pz]) (st := []) (c_X10_tried (xl X) G σ sn cntq hp hyb rz lz lz pz) om_X10_tried mw_890 mw_891 mw_889 (by decide) rfl rfl rfl (by decide) rfl rfl (Nat.le_of_ble_eq_true rfl) dX10_odds_5 (fun rr5 σσ5 hp5 => ?_)
  obtain ⟨hu5, hk5⟩ := hp5
  subst hu5
  exact r_lreturn o q dX10_odds_8 (⟨rfl, hk5⟩)
