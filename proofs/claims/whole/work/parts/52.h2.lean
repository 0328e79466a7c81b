/-! what the machine's run gives -/
theorem it_rn {nq : Nat} (hn : nq ≤ 7) : ∀ (fuq jq : Nat), rnF nq fuq (encq (itL nq jq)) = encq (itL nq (jq + fuq))
  | 0, jq => rfl
  | fuq + 1, jq => by
    rw [rnF_s, ← enc_stp hn (hOk_it hn jq), show jq + (fuq + 1) = jq + 1 + fuq by omega]
    exact it_rn hn fuq (jq + 1)
theorem it_vs {nq : Nat} (hn : nq ≤ 7) : ∀ (fuq jq : Nat), vsF nq fuq (encq (itL nq jq)) (visM nq jq) = visM nq (jq + fuq)
  | 0, jq => rfl
  | fuq + 1, jq => by
    rw [vsF_s, ← enc_stp hn (hOk_it hn jq), show jq + (fuq + 1) = jq + 1 + fuq by omega]
    exact it_vs hn fuq (jq + 1)
theorem it_k {nq jq : Nat} (h : (itL nq (jq + 1)).getD 0 0 < nq) : (itL nq jq).getD 0 0 < nq := by
  rcases Nat.lt_or_ge ((itL nq jq).getD 0 0) nq with q | q
  · exact q
  · have e : itL nq (jq + 1) = itL nq jq := by
      show hStp nq (itL nq jq) = _
      unfold hStp
      rw [if_neg (by omega)]
    rw [e] at h
    exact h
theorem it_k2 {nq jq : Nat} : ∀ iq, (itL nq (jq + iq)).getD 0 0 < nq → (itL nq jq).getD 0 0 < nq
  | 0, h => h
  | iq + 1, h => it_k2 iq (it_k h)
theorem it_T {nq : Nat} (h1 : 1 ≤ nq) (h7 : nq ≤ 7) : (itL nq (tmq nq)).getD 0 0 = nq ∧ ∀ jq, jq < tmq nq → (itL nq jq).getD 0 0 < nq := by
  have hc := (ck_all nq h1 h7).2
  have e0 : ∀ jq, encq (itL nq jq) % 8 = (itL nq jq).getD 0 0 := fun jq => by
    have := enc_dig (itL nq jq) 0 (hOk_it h7 jq).2
    rwa [Nat.pow_zero, Nat.div_one] at this
  have r0 : ∀ fuq, rnF nq fuq (encq (hS0 nq)) = encq (itL nq fuq) := fun fuq => by
    have := it_rn h7 fuq 0
    rw [Nat.zero_add] at this
    exact this
  unfold chkT at hc
  rw [Bool.and_eq_true, r0, r0, e0, e0] at hc
  refine ⟨Nat.eq_of_beq_eq_true hc.1, fun jq hj => ?_⟩
  have h2 : (itL nq (tmq nq - 1)).getD 0 0 < nq := Nat.le_of_ble_eq_true hc.2
  exact it_k2 (tmq nq - 1 - jq) (by rw [show jq + (tmq nq - 1 - jq) = tmq nq - 1 by omega]; exact h2)
theorem vis_c {nq : Nat} (h1 : 1 ≤ nq) (h7 : nq ≤ 7) (pb : Nat → Bool) : (visM nq (tmq nq)).countP pb = (prm (List.range nq)).countP (fun ls => pb (encq ls)) := by
  have hk := (ck_all nq h1 h7).1
  unfold chkV at hk
  have hc := leq_e _ _ hk
  have hv := it_vs h7 (tmq nq) 0
  rw [Nat.zero_add] at hv
  have hv2 : vsF nq (tmq nq) (encq (hS0 nq)) [encq (hS0 nq) / 8 ^ (1 + nq)] = visM nq (tmq nq) := hv
  rw [hv2] at hc
  have h2 := congrArg (List.countP pb) hc
  rw [srt_c, srt_c, frc_c, List.countP_nil, Nat.add_zero, List.countP_map] at h2
  exact h2
theorem vis_len {nq : Nat} : ∀ jq, 1 ≤ (visM nq jq).length ∧ (visM nq jq).length ≤ jq + 1
  | 0 => by show 1 ≤ 1 ∧ 1 ≤ 0 + 1; omega
  | jq + 1 => by
    have ih := vis_len (nq := nq) jq
    unfold visM
    split
    · rw [List.length_cons]; omega
    · omega
theorem vis_y {nq jq : Nat} (h : exq nq (encq (itL nq jq)) = true) : visM nq (jq + 1) = encq (itL nq (jq + 1)) / 8 ^ (1 + nq) :: visM nq jq := if_pos h
theorem vis_n {nq jq : Nat} (h : exq nq (encq (itL nq jq)) = false) : visM nq (jq + 1) = visM nq jq := if_neg (by rw [h]; decide)
theorem tm_le {nq : Nat} : tmq nq ≤ 13699 := by unfold tmq; split <;> omega
/-! the greatest of some lengths -/
theorem mx_max {yrq : Nat → Nat} {nq f1q : Nat} {xf : Nat → Int32} : ∀ wq, (∃ iq, iq ≤ wq ∧ mxU yrq nq xf f1q wq = upF yrq nq xf (f1q + iq)) ∧ ∀ iq, iq ≤ wq → upF yrq nq xf (f1q + iq) ≤ mxU yrq nq xf f1q wq
  | 0 => ⟨⟨0, Nat.le_refl 0, rfl⟩, fun iq hi => by
      rw [show iq = 0 by omega, fa_le64]
      exact Int.le_refl _⟩
  | wq + 1 => by
    obtain ⟨⟨jq, a1, a2⟩, a3⟩ := mx_max (yrq := yrq) (nq := nq) (f1q := f1q) (xf := xf) wq
    unfold mxU
    by_cases h : mxU yrq nq xf f1q wq < upF yrq nq xf (f1q + (wq + 1))
    · rw [if_pos h]
      refine ⟨⟨wq + 1, Nat.le_refl _, rfl⟩, fun iq hi => ?_⟩
      rcases Nat.lt_or_ge iq (wq + 1) with q | q
      · have := a3 iq (by omega)
        rw [fa_lt64] at h
        rw [fa_le64] at this ⊢
        omega
      · rw [show iq = wq + 1 by omega, fa_le64]
        exact Int.le_refl _
    · rw [if_neg h]
      refine ⟨⟨jq, by omega, a2⟩, fun iq hi => ?_⟩
      rcases Nat.lt_or_ge iq (wq + 1) with q | q
      · exact a3 iq (by omega)
      · rw [show iq = wq + 1 by omega]
        exact l_nlt.mp h
theorem rch_ex {yrq : Nat → Nat} {nq f1q : Nat} {xf : Nat → Int32} {glq : Int64} : ∀ wq, rchB yrq nq xf glq f1q wq = true ↔ ∃ iq, iq < wq ∧ glq ≤ wgt yrq nq (f1q + iq) xf
  | 0 => ⟨fun h => absurd h (by unfold rchB; decide), fun ⟨iq, h, _⟩ => absurd h (Nat.not_lt_zero iq)⟩
  | wq + 1 => by
    have ih := rch_ex (yrq := yrq) (nq := nq) (f1q := f1q) (xf := xf) (glq := glq) wq
    by_cases h : glq ≤ wgt yrq nq (f1q + wq) xf
    · exact ⟨fun _ => ⟨wq, Nat.lt_succ_self wq, h⟩, fun _ => rch_y h⟩
    · rw [rch_n h, ih]
      constructor
      · rintro ⟨iq, a1, a2⟩
        exact ⟨iq, by omega, a2⟩
      · rintro ⟨iq, a1, a2⟩
        rcases Nat.lt_or_ge iq wq with q | q
        · exact ⟨iq, q, a2⟩
        · rw [show iq = wq by omega] at a2
          exact absurd a2 h
theorem fg_max {yrq : Nat → Nat} {nq f1q : Nat} {xf : Nat → Int32} (hs : smB nq xf) (hn : nq ≤ 24) : ∀ wq, (∃ iq, iq ≤ wq ∧ fgS yrq nq xf f1q (wq + 1) = (f1q + iq, wgt yrq nq (f1q + iq) xf)) ∧ ∀ iq, iq ≤ wq → wgt yrq nq (f1q + iq) xf ≤ (fgS yrq nq xf f1q (wq + 1)).2
  | 0 => by
    have hw := w_bd' (yrq := yrq) (lq := f1q + 0) hs hn
    have e : fgS yrq nq xf f1q (0 + 1) = (f1q + 0, wgt yrq nq (f1q + 0) xf) := by
      show (if wgt yrq nq (f1q + 0) xf ≤ -1 then _ else _) = _
      rw [if_neg (by rw [fa_le64, wgt_ti hs hn, show (-1 : Int64).toInt = -1 by decide]; omega)]
    refine ⟨⟨0, Nat.le_refl 0, e⟩, fun iq hi => ?_⟩
    rw [e, show iq = 0 by omega, fa_le64]
    exact Int.le_refl _
  | wq + 1 => by
    obtain ⟨⟨jq, a1, a2⟩, a3⟩ := fg_max (yrq := yrq) (f1q := f1q) hs hn wq
    have e : fgS yrq nq xf f1q (wq + 1 + 1) = if wgt yrq nq (f1q + (wq + 1)) xf ≤ (fgS yrq nq xf f1q (wq + 1)).2 then fgS yrq nq xf f1q (wq + 1) else (f1q + (wq + 1), wgt yrq nq (f1q + (wq + 1)) xf) := rfl
    rw [e]
    by_cases h : wgt yrq nq (f1q + (wq + 1)) xf ≤ (fgS yrq nq xf f1q (wq + 1)).2
    · rw [if_pos h]
      refine ⟨⟨jq, by omega, a2⟩, fun iq hi => ?_⟩
      rcases Nat.lt_or_ge iq (wq + 1) with q | q
      · exact a3 iq (by omega)
      · rw [show iq = wq + 1 by omega]
        exact h
    · rw [if_neg h]
      refine ⟨⟨wq + 1, Nat.le_refl _, rfl⟩, fun iq hi => ?_⟩
      rcases Nat.lt_or_ge iq (wq + 1) with q | q
      · have := a3 iq (by omega)
        rw [l_nle, fa_lt64] at h
        rw [fa_le64] at this ⊢
        show _ ≤ (wgt yrq nq (f1q + (wq + 1)) xf).toInt
        omega
      · rw [show iq = wq + 1 by omega, fa_le64]
        exact Int.le_refl _
theorem mx_rch {yrq : Nat → Nat} {nq f1q wq : Nat} {x0 xf : Nat → Int32} (hs : smB nq x0) (hn : nq ≤ 24) (h0 : 0 < nq) (ho : oIn nq x0 xf) : (mxU yrq nq x0 f1q wq ≤ mxU yrq nq xf f1q wq) ↔ rchB yrq nq xf (wgt yrq nq (fgS yrq nq x0 f1q (wq + 1)).1 x0) f1q (wq + 1) = true := by
  obtain ⟨⟨jq, a1, a2⟩, a3⟩ := fg_max (yrq := yrq) (f1q := f1q) hs hn wq
  obtain ⟨⟨iq, b1, b2⟩, b3⟩ := mx_max (yrq := yrq) (nq := nq) (f1q := f1q) (xf := x0) wq
  obtain ⟨⟨kq, c1, c2⟩, c3⟩ := mx_max (yrq := yrq) (nq := nq) (f1q := f1q) (xf := xf) wq
  rw [a2] at a3
  rw [rch_ex, a2]
  show _ ↔ ∃ iq, iq < wq + 1 ∧ wgt yrq nq (f1q + jq) x0 ≤ wgt yrq nq (f1q + iq) xf
  constructor
  · intro h
    refine ⟨kq, by omega, ?_⟩
    rw [← as_much hs hn ho h0]
    have h2 := b3 jq a1
    rw [c2] at h
    rw [fa_le64] at h h2 ⊢
    omega
  · rintro ⟨eq1, h1, h2⟩
    have h3 : wgt yrq nq (f1q + iq) x0 ≤ wgt yrq nq (f1q + eq1) xf := by
      have := a3 iq b1
      rw [fa_le64] at this h2 ⊢
      exact Int.le_trans this h2
    rw [← as_much hs hn ho h0] at h3
    have h4 := c3 eq1 (by omega)
    rw [b2]
    rw [fa_le64] at h3 h4 ⊢
    omega
/-! an order that the model stands at -/
def xP (x0 : Nat → Int32) (en : Nat) : Nat → Int32 := fun iq => x0 (en / 8 ^ iq % 8)
def xD (x0 : Nat → Int32) (nq : Nat) (ls : List Nat) : Nat → Int32 := fun iq => x0 (ls.getD (1 + nq + iq) 0)
theorem xP_D {x0 : Nat → Int32} {nq : Nat} {ls : List Nat} (h : ∀ aq, aq ∈ ls → aq < 8) (iq : Nat) : xP x0 (encq ls / 8 ^ (1 + nq)) iq = xD x0 nq ls iq := by
  unfold xP xD
  rw [Nat.div_div_eq_div_mul, ← Nat.pow_add, enc_dig ls (1 + nq + iq) h]
def gdOrd (yrq : Nat → Nat) (nq f1q wq : Nat) (x0 : Nat → Int32) (en : Nat) : Bool := decide (loF nq x0 = 0) || decide (mxU yrq nq x0 f1q wq ≤ mxU yrq nq (xP x0 en) f1q wq)
theorem gd_rch {yrq : Nat → Nat} {nq f1q wq : Nat} {x0 : Nat → Int32} (hs : smB nq x0) (h1 : 1 ≤ nq) (h7 : nq ≤ 7) {ls : List Nat} (hl : ls ∈ prm (List.range nq)) : gdOrd yrq nq f1q wq x0 (encq ls) = true ↔ rchB yrq nq (fnL (ls.map x0)) (wgt yrq nq (fgS yrq nq x0 f1q (wq + 1)).1 x0) f1q (wq + 1) = true := by
  have hp := prm_perm _ _ hl
  have h8 : ∀ aq, aq ∈ ls → aq < 8 := fun aq ha => by
    have := List.mem_range.mp (hp.mem_iff.mp ha)
    omega
  have hlen : ls.length = nq := by rw [hp.length_eq, List.length_range]
  have hx : ∀ iq, iq < nq → xP x0 (encq ls) iq = fnL (ls.map x0) iq := fun iq hi => by
    unfold xP fnL
    rw [enc_dig ls iq h8, List.getD_eq_getElem?_getD, List.getD_eq_getElem?_getD, List.getElem?_map, List.getElem?_eq_getElem (by omega)]
    rfl
  have hq : List.Perm (ls.map x0) (toL nq x0) := hp.map x0
  have ho := (perm_oIn hq).2
  unfold gdOrd
  rw [mx_cong hx, Bool.or_eq_true, decide_eq_true_eq, decide_eq_true_eq]
  generalize fnL (ls.map x0) = xf at ho ⊢
  by_cases z : loF nq x0 = 0
  · have hf := oIn_flat ho (lo_0 hs (by omega) z)
    refine ⟨fun _ => ?_, fun _ => Or.inl z⟩
    obtain ⟨⟨jq, a1, a2⟩, -⟩ := fg_max (yrq := yrq) (f1q := f1q) hs (by omega) wq
    rw [rch_ex, a2]
    refine ⟨jq, by omega, ?_⟩
    rw [wg_cong hf, fa_le64]
    exact Int.le_refl _
  · rw [← mx_rch hs (by omega) (by omega) ho]
    exact ⟨fun q => q.elim (fun e => absurd e z) id, Or.inr⟩
theorem fr_nat {aq bq : Nat} (ha : aq < 2 ^ 31) (hb0 : 0 < bq) (hb : bq < 2 ^ 31) : fU (nI aq).toInt64 (nI bq).toInt64 = lN (aq / Nat.gcd aq bq) ∧ fL (nI aq).toInt64 (nI bq).toInt64 = lN (bq / Nat.gcd aq bq) := by
  rw [nI_l ha, nI_l hb]
  have ta := lN_ti' (mq := aq) (by omega)
  have tb := lN_ti' (mq := bq) (by omega)
  have hf := fU_e (upq := lN aq) (lowq := lN bq) (by omega) (by omega) (by omega)
  have hg := gcd_le (aq := aq) (bq := bq) hb0
  rw [ta, tb, Int.natAbs_natCast, Int.toNat_natCast] at hf
  rw [hf.1, hf.2, pk_lDiv (by omega) hg.1 (by omega), pk_lDiv (by omega) hg.1 (by omega)]
  exact ⟨rfl, rfl⟩
theorem fX_scale {mq cq lq : Nat} {pz : Int32} (hm : 0 < mq) (hl : 0 < lq) (hb : mq * lq < 2 ^ 31) (hc : cq ≤ lq) : fX (nI (mq * cq)).toInt64 (nI (mq * lq)).toInt64 pz = fX (nI cq).toInt64 (nI lq).toInt64 pz := by
  have h1 : mq * cq ≤ mq * lq := Nat.mul_le_mul_left mq hc
  have h2 : lq ≤ mq * lq := Nat.le_mul_of_pos_left lq hm
  have h3 : 0 < mq * lq := Nat.mul_pos hm hl
  have f1 := fr_nat (aq := mq * cq) (bq := mq * lq) (by omega) h3 hb
  have f2 := fr_nat (aq := cq) (bq := lq) (by omega) hl (by omega)
  unfold fX
  rw [f1.1, f1.2, f2.1, f2.2, Nat.gcd_mul_left, Nat.mul_div_mul_left _ _ hm, Nat.mul_div_mul_left _ _ hm]
/-- class and model count orders alike -/
theorem odds_e {yrq : Nat → Nat} {nq f1q wq : Nat} {x0 : Nat → Int32} {pz : Int32} (hs : smB nq x0) (h1 : 1 ≤ nq) (h7 : nq ≤ 7) : fX (nI ((visM nq (tmq nq)).countP (gdOrd yrq nq f1q wq x0))).toInt64 (nI (visM nq (tmq nq)).length).toInt64 pz = fX (nI (coR yrq nq f1q (wq + 1) (wgt yrq nq (fgS yrq nq x0 f1q (wq + 1)).1 x0) 5040 (srS x0 nq)).1).toInt64 (nI (coR yrq nq f1q (wq + 1) (wgt yrq nq (fgS yrq nq x0 f1q (wq + 1)).1 x0) 5040 (srS x0 nq)).2).toInt64 pz := by
  have e1 := vis_c h1 h7 (gdOrd yrq nq f1q wq x0)
  have e2 : (visM nq (tmq nq)).length = (prm (List.range nq)).length := by
    have := vis_c h1 h7 (fun _ => true)
    simpa using this
  have e5 : (prm (List.range nq)).countP (fun ls => gdOrd yrq nq f1q wq x0 (encq ls)) = (prm (List.range nq)).countP (fun ls => rchB yrq nq (fnL (ls.map x0)) (wgt yrq nq (fgS yrq nq x0 f1q (wq + 1)).1 x0) f1q (wq + 1)) := List.countP_congr (fun ls hl => gd_rch hs h1 h7 hl)
  rw [co_vs, e1, e5, e2]
  generalize wgt yrq nq (fgS yrq nq x0 f1q (wq + 1)).1 x0 = glq
  have e3 : (prm (toL nq x0)).countP (fun ls => rchB yrq nq (fnL ls) glq f1q (wq + 1)) = (prm (List.range nq)).countP (fun ls => rchB yrq nq (fnL (ls.map x0)) glq f1q (wq + 1)) := by
    unfold toL
    rw [prm_map, List.countP_map]
    rfl
  have e4 : (prm (toL nq x0)).length = (prm (List.range nq)).length := by
    unfold toL
    rw [prm_map, List.length_map]
  obtain ⟨o1, o2⟩ := ord_e (x0 := x0) h1 h7 (fun ls => rchB yrq nq (fnL ls) glq f1q (wq + 1))
  have hlen := prm_len (toL nq x0)
  have hfa := fac_le nq (by omega)
  rw [toL_len] at hlen
  have hv : 0 < (vsL nq 5040 (srS x0 nq)).length := by
    show 0 < (vsL nq (5039 + 1) (srS x0 nq)).length
    unfold vsL
    rw [List.length_cons]
    omega
  rw [← e3, ← e4, o1, o2]
  exact fX_scale (mulF_pos _) hv (by rw [← o2]; omega) List.countP_le_length
