/-! later years: the length that is found, the years that held -/
theorem wgt_ti {yrq : Nat → Nat} {nq lq : Nat} {xf : Nat → Int32} (h : smB nq xf) (hn : nq ≤ 24) : (wgt yrq nq lq xf).toInt = wZ yrq nq lq xf lq := by
  have := w_bd' (yrq := yrq) (lq := lq) h hn
  unfold wgt
  rw [w_Z, ofI_ti (by omega) (by omega)]
theorem up_le {yrq : Nat → Nat} {nq l1q l2q : Nat} {xf x2 : Nat → Int32} (h : smB nq xf) (h2 : smB nq x2) (hs : sZ xf nq = sZ x2 nq) (h0 : 0 < nq) (hn : nq ≤ 24) : (upF yrq nq xf l1q ≤ upF yrq nq x2 l2q) ↔ wgt yrq nq l1q xf ≤ wgt yrq nq l2q x2 := by
  rw [fa_le64, fa_le64, up_ti h hn, up_ti h2 hn, wgt_ti h hn, wgt_ti h2 hn]
  unfold upZ
  rw [hs]
  generalize wZ yrq nq l1q xf l1q = az
  generalize wZ yrq nq l2q x2 l2q = bz
  have h3 : (nq : Int) * az ≤ (nq : Int) * bz ↔ az ≤ bz := Int.mul_le_mul_left (by omega)
  rw [← h3]
  omega
def fdS (yrq : Nat → Nat) (nq : Nat) (xf : Nat → Int32) : Nat → Nat × Int64
  | 0 => (2, upF yrq nq xf 2)
  | iq + 1 => if (fdS yrq nq xf iq).2 < upF yrq nq xf (3 + iq) then (3 + iq, upF yrq nq xf (3 + iq)) else fdS yrq nq xf iq
theorem fd_y {yrq : Nat → Nat} {nq : Nat} {xf : Nat → Int32} {iq : Nat} (h : (fdS yrq nq xf iq).2 < upF yrq nq xf (3 + iq)) : fdS yrq nq xf (iq + 1) = (3 + iq, upF yrq nq xf (3 + iq)) := if_pos h
theorem fd_n {yrq : Nat → Nat} {nq : Nat} {xf : Nat → Int32} {iq : Nat} (h : ¬ (fdS yrq nq xf iq).2 < upF yrq nq xf (3 + iq)) : fdS yrq nq xf (iq + 1) = fdS yrq nq xf iq := if_neg h
theorem fd_rng (yrq : Nat → Nat) (nq : Nat) (xf : Nat → Int32) : ∀ iq, 2 ≤ (fdS yrq nq xf iq).1 ∧ (fdS yrq nq xf iq).1 ≤ 2 + iq
  | 0 => by show 2 ≤ 2 ∧ 2 ≤ 2 + 0; omega
  | iq + 1 => by
    have h0 := fd_rng yrq nq xf iq
    by_cases h : (fdS yrq nq xf iq).2 < upF yrq nq xf (3 + iq)
    · rw [fd_y h]; show 2 ≤ 3 + iq ∧ 3 + iq ≤ _; omega
    · rw [fd_n h]; omega
theorem fg_fd {yrq : Nat → Nat} {nq : Nat} {xf : Nat → Int32} (h : smB nq xf) (h0 : 0 < nq) (hn : nq ≤ 24) : ∀ iq, fgS yrq nq xf 2 (iq + 1) = ((fdS yrq nq xf iq).1, wgt yrq nq (fdS yrq nq xf iq).1 xf) ∧ (fdS yrq nq xf iq).2 = upF yrq nq xf (fdS yrq nq xf iq).1
  | 0 => by
    refine ⟨?_, rfl⟩
    have hw := w_bd' (yrq := yrq) (lq := 2) h hn
    show (if wgt yrq nq 2 xf ≤ -1 then _ else _) = _
    rw [if_neg (by rw [fa_le64, wgt_ti h hn, show (-1 : Int64).toInt = -1 by decide]; omega)]
    rfl
  | iq + 1 => by
    obtain ⟨a1, a2⟩ := fg_fd (yrq := yrq) h h0 hn iq
    have hc := up_le (yrq := yrq) (l1q := 3 + iq) (l2q := (fdS yrq nq xf iq).1) h h rfl h0 hn
    rw [← a2] at hc
    have e : (fgS yrq nq xf 2 (iq + 1)).2 = wgt yrq nq (fdS yrq nq xf iq).1 xf := by rw [a1]
    show (if wgt yrq nq (2 + (iq + 1)) xf ≤ (fgS yrq nq xf 2 (iq + 1)).2 then fgS yrq nq xf 2 (iq + 1) else (2 + (iq + 1), wgt yrq nq (2 + (iq + 1)) xf)) = _ ∧ _
    rw [e, show 2 + (iq + 1) = 3 + iq by omega]
    by_cases h1 : (fdS yrq nq xf iq).2 < upF yrq nq xf (3 + iq)
    · rw [fd_y h1, if_neg (fun z => by have := hc.mpr z; exact absurd h1 (l_nlt.mpr this))]
      exact ⟨rfl, rfl⟩
    · rw [fd_n h1, if_pos (hc.mp (l_nlt.mp h1))]
      exact ⟨a1, a2⟩
/-! all alike: no length is better than another -/
def cyN (lq rq : Nat) : Nat → Nat
  | 0 => 0
  | yq + 1 => cyN lq rq yq + (if yq % lq = rq then 1 else 0)
theorem cy_12 : ∀ kq, kq < 25 → ∀ lq, lq < 13 → ∀ rq, rq < 13 → 2 ≤ lq → cyN lq rq kq ≤ 12 := by decide +kernel
theorem cntR_cong {yrq yr2 : Nat → Nat} {lq rq : Nat} : ∀ {nq : Nat}, (∀ jq, jq < nq → yrq jq = yr2 jq) → cntR yrq lq rq nq = cntR yr2 lq rq nq
  | 0, _ => rfl
  | nq + 1, h => by
    unfold cntR
    rw [cntR_cong (fun jq hj => h jq (by omega)), h nq (by omega)]
theorem cnt_cy {dfq : Nat → Int32} {lq rq : Nat} : ∀ kq, cntR (yeF dfq kq) lq rq (gcnt dfq kq) ≤ cyN lq rq kq
  | 0 => Nat.le_refl 0
  | kq + 1 => by
    have h0 := cnt_cy (dfq := dfq) (lq := lq) (rq := rq) kq
    unfold cyN yeF
    by_cases h : dfq kq = -1000000
    · rw [if_pos h, gcnt_g h]; omega
    · rw [if_neg h, gcnt_n h]
      show cntR (updN (yeF dfq kq) (gcnt dfq kq) kq) lq rq (gcnt dfq kq) + (if updN (yeF dfq kq) (gcnt dfq kq) kq (gcnt dfq kq) % lq = rq then 1 else 0) ≤ _
      have e1 : cntR (updN (yeF dfq kq) (gcnt dfq kq) kq) lq rq (gcnt dfq kq) = cntR (yeF dfq kq) lq rq (gcnt dfq kq) := cntR_cong (fun jq hj => if_neg (by omega))
      rw [e1, show updN (yeF dfq kq) (gcnt dfq kq) kq (gcnt dfq kq) = kq from if_pos rfl]
      omega
theorem fine_m : ∀ cq, cq < 13 → 1 ≤ cq → 27720 / cq * cq = 27720 := by decide
theorem hZ_eq {yrq : Nat → Nat} {lq rq : Nat} {xf : Nat → Int32} {vz : Int} : ∀ {nq : Nat}, (∀ jq, jq < nq → (xf jq).toInt = vz) → hZ yrq lq rq xf nq = vz * (cntR yrq lq rq nq : Int)
  | 0, _ => by unfold hZ cntR; omega
  | nq + 1, h => by
    have h0 := hZ_eq (yrq := yrq) (lq := lq) (rq := rq) (xf := xf) (vz := vz) (nq := nq) (fun jq hj => h jq (by omega))
    unfold hZ cntR
    split
    · rw [h0, h nq (by omega), show ((cntR yrq lq rq nq + 1 : Nat) : Int) = (cntR yrq lq rq nq : Int) + 1 by omega, Int.mul_add, Int.mul_one]
    · rw [h0, Nat.add_zero]
theorem wZ_eq {yrq : Nat → Nat} {nq lq : Nat} {xf : Nat → Int32} {vz : Int} (h : ∀ jq, jq < nq → (xf jq).toInt = vz) : ∀ mq, (∀ rq, rq < mq → cntR yrq lq rq nq ≤ 12) → wZ yrq nq lq xf mq = 27720 * (vz * vz) * (cumC yrq lq nq mq : Int)
  | 0, _ => by unfold wZ cumC; omega
  | mq + 1, hc => by
    have h0 := wZ_eq (yrq := yrq) (lq := lq) h mq (fun rq hr => hc rq (by omega))
    have h1 := hc mq (by omega)
    unfold wZ cumC
    rw [h0, hZ_eq h]
    split
    · rename_i hz; rw [hz, Nat.add_zero]
    · rename_i hz
      have h2 := fine_m (cntR yrq lq mq nq) (by omega) (by omega)
      generalize cntR yrq lq mq nq = cq at *
      generalize cumC yrq lq nq mq = dq
      have h3 : ((27720 / cq : Nat) : Int) * (cq : Int) = 27720 := by rw [← Int.natCast_mul, h2]; rfl
      generalize ((27720 / cq : Nat) : Int) = fz at *
      rw [show ((dq + cq : Nat) : Int) = (dq : Int) + (cq : Int) by omega]
      have e : fz * (vz * (cq : Int)) * (vz * (cq : Int)) = (fz * (cq : Int)) * (vz * vz) * (cq : Int) := by grind
      rw [e, h3]
      grind
theorem cum_all {yrq : Nat → Nat} {lq : Nat} (hl : 0 < lq) : ∀ nq, cumR yrq lq lq nq = nq
  | 0 => rfl
  | nq + 1 => by
    show cumR yrq lq lq nq + (if yrq nq % lq < lq then 1 else 0) = _
    rw [cum_all hl nq, if_pos (Nat.mod_lt _ hl)]
theorem wgt_eq {dfq : Nat → Int32} {endq lq : Nat} {xf : Nat → Int32} {vz : Int} (he : endq ≤ 24) (hl : 2 ≤ lq ∧ lq ≤ 12) (h : ∀ jq, jq < gcnt dfq endq → (xf jq).toInt = vz) : wZ (yeF dfq endq) (gcnt dfq endq) lq xf lq = 27720 * (vz * vz) * (gcnt dfq endq : Int) := by
  rw [wZ_eq h lq (fun rq hr => Nat.le_trans (cnt_cy endq) (cy_12 endq (by omega) lq (by omega) rq (by omega) hl.1)), cumC_e, cum_all (by omega)]
theorem fg_flat {yrq : Nat → Nat} {nq : Nat} {xf : Nat → Int32} {wz : Int64} : ∀ iq, (∀ lq, 2 ≤ lq → lq < 2 + iq → wgt yrq nq lq xf = wz) → (fgS yrq nq xf 2 iq).1 = 2 ∧ (0 < iq → wz ≤ (fgS yrq nq xf 2 iq).2)
  | 0, _ => ⟨rfl, fun h => absurd h (Nat.lt_irrefl 0)⟩
  | iq + 1, h => by
    obtain ⟨a1, a2⟩ := fg_flat iq (fun lq h1 h2 => h lq h1 (by omega))
    have e := h (2 + iq) (by omega) (by omega)
    by_cases h1 : wgt yrq nq (2 + iq) xf ≤ (fgS yrq nq xf 2 iq).2
    · rw [← fgS_k1 h1, ← fgS_k2 h1]
      exact ⟨a1, fun _ => by rw [← e]; exact h1⟩
    · rw [← fgS_t1 h1, ← fgS_t2 h1]
      have h2 : iq = 0 := by
        rcases Nat.eq_zero_or_pos iq with h3 | h3
        · exact h3
        · exact absurd (by rw [e]; exact a2 h3) h1
      subst h2
      exact ⟨rfl, fun _ => by rw [e, fa_le64]; omega⟩
theorem lo_one {nq : Nat} {xf : Nat → Int32} (h : smB nq xf) (hn : nq ≤ 24) (h0 : loF nq xf = 0) : ∃ vz : Int, ∀ jq, jq < nq → (xf jq).toInt = vz := by
  have h1 := lo_0 h hn h0
  exact ⟨(xf 0).toInt, fun jq hj => by rw [h1 jq 0 hj (by omega)]⟩
theorem found_0 {dfq : Nat → Int32} {endq : Nat} (hb : BdF dfq) (he : endq ≤ 24) (h0 : loF (gcnt dfq endq) (nuF dfq endq) = 0) : (fgS (yeF dfq endq) (gcnt dfq endq) (nuF dfq endq) 2 11).1 = 2 := by
  have hs := nu_sm hb he
  have hg := gcnt_le dfq endq
  obtain ⟨vz, hv⟩ := lo_one hs (by omega) h0
  refine (fg_flat (wz := Int64.ofInt (27720 * (vz * vz) * (gcnt dfq endq : Int))) 11 (fun lq h1 h2 => ?_)).1
  unfold wgt
  rw [w_Z, wgt_eq he ⟨h1, by omega⟩ hv]
theorem found_1 {dfq : Nat → Int32} {endq : Nat} (hb : BdF dfq) (he : endq ≤ 24) (h0 : ¬ loF (gcnt dfq endq) (nuF dfq endq) = 0) : (fgS (yeF dfq endq) (gcnt dfq endq) (nuF dfq endq) 2 11).1 = (fdS (yeF dfq endq) (gcnt dfq endq) (nuF dfq endq) 10).1 := by
  have hs := nu_sm hb he
  have hg := gcnt_le dfq endq
  have hp : 0 < gcnt dfq endq := by
    rcases Nat.eq_zero_or_pos (gcnt dfq endq) with h | h
    · exact absurd (by rw [h]; show 27720 * ((nI 0).toInt64 * 0 - 0 * 0) = (0 : Int64); decide) h0
    · exact h
  rw [(fg_fd hs hp (by omega) 10).1]
/-! the side of a year, of a heap -/
theorem cm3 {xq yq : Int64} (h : (xq - yq).toInt = xq.toInt - yq.toInt) : (cmpI xq yq = 0 ∧ xq - yq = 0) ∨ (cmpI xq yq = nI 1 ∧ 0 < xq - yq) ∨ (cmpI xq yq = -1 ∧ xq - yq < 0) := by
  unfold cmpI
  by_cases h1 : yq ≤ xq
  · rw [if_pos h1]
    by_cases h2 : xq = yq
    · left
      rw [if_pos h2]
      exact ⟨rfl, by rw [h2, Int64.sub_self]⟩
    · right; left
      rw [if_neg h2]
      refine ⟨rfl, ?_⟩
      rw [fa_lt64, h, show (0 : Int64).toInt = 0 by decide]
      rw [fa_le64] at h1
      have : ¬ xq.toInt = yq.toInt := fun z => h2 (Int64.toInt_inj.mp z)
      omega
  · right; right
    rw [if_neg h1]
    refine ⟨rfl, ?_⟩
    rw [fa_lt64, h, show (0 : Int64).toInt = 0 by decide]
    rw [fa_le64] at h1
    omega
def i2q (oz mz : Int64) : Nat := if oz = 0 then 0 else if mz = 0 then 0 else 1
def i1q (oz mz : Int64) : Nat := if (0 < oz ∧ 0 < mz) ∨ (oz < 0 ∧ mz < 0) then 1 else 0
theorem l_pn {zz : Int64} (h : 0 < zz) : ¬ zz = 0 ∧ ¬ zz < 0 := by
  rw [fa_lt64] at h
  refine ⟨fun e => ?_, fun e => ?_⟩
  · rw [e] at h; omega
  · rw [fa_lt64] at e; omega
theorem l_np {zz : Int64} (h : zz < 0) : ¬ zz = 0 ∧ ¬ 0 < zz := by
  rw [fa_lt64] at h
  refine ⟨fun e => ?_, fun e => ?_⟩
  · rw [e] at h; omega
  · rw [fa_lt64] at e; omega
theorem l_sub_ti {az bz : Int64} (h1 : -(2 ^ 60 : Int) ≤ az.toInt) (h2 : az.toInt ≤ 2 ^ 60) (h3 : -(2 ^ 60 : Int) ≤ bz.toInt) (h4 : bz.toInt ≤ 2 ^ 60) : (az - bz).toInt = az.toInt - bz.toInt := by
  rw [Int64.toInt_sub, Int.bmod_eq_of_le (by omega) (by omega)]
section HLq
variable {yrq : Nat → Nat} {nq lq : Nat} {xf bf : Nat → Int32} {yq1 kq : Nat}
theorem hs0 {rq : Nat} : ∀ mq, cntR yrq lq rq mq = 0 → hsum yrq lq rq xf mq = 0
  | 0, _ => rfl
  | mq + 1, hc => by
    have hc2 : cntR yrq lq rq mq + (if yrq mq % lq = rq then 1 else 0) = 0 := hc
    show (if yrq mq % lq = rq then _ else _) = _
    by_cases hy : yrq mq % lq = rq
    · rw [if_pos hy] at hc2; omega
    · rw [if_neg hy]; exact hs0 mq (by omega)
theorem hl_z (h : ¬ bf (yq1 + kq) = -1000000) (hc : cntR yrq lq ((yq1 + kq) % lq) nq = 0) : lkS yrq nq lq xf bf yq1 (kq + 1) = lkS yrq nq lq xf bf yq1 kq := by
  have hq : sideQ yrq nq lq xf (yq1 + kq) (sumL xf nq) = 0 := by
    unfold sideQ
    rw [hc, hs0 nq hc, show lN 0 = 0 from rfl, Int64.zero_mul, Int64.mul_zero]
    rfl
  rw [lkS_c h, hq]
  simp only [if_true, ite_self]
theorem hl_s (h : ¬ bf (yq1 + kq) = -1000000) (hs : smB nq xf) (hn : nq ≤ 24) (hb1 : -999 ≤ (bf (yq1 + kq)).toInt) (hb2 : (bf (yq1 + kq)).toInt ≤ 999) : lkS yrq nq lq xf bf yq1 (kq + 1) = ((lkS yrq nq lq xf bf yq1 kq).1 + i1q ((bf (yq1 + kq)).toInt64 * (nI nq).toInt64 - sumL xf nq) (hsum yrq lq ((yq1 + kq) % lq) xf nq * (nI nq).toInt64 - sumL xf nq * (nI (cntR yrq lq ((yq1 + kq) % lq) nq)).toInt64), (lkS yrq nq lq xf bf yq1 kq).2 + i2q ((bf (yq1 + kq)).toInt64 * (nI nq).toInt64 - sumL xf nq) (hsum yrq lq ((yq1 + kq) % lq) xf nq * (nI nq).toInt64 - sumL xf nq * (nI (cntR yrq lq ((yq1 + kq) % lq) nq)).toInt64)) := by
  have hcl := cntR_le yrq lq ((yq1 + kq) % lq) nq
  have s1 := s_bd hs
  have s2 := h_bd (yrq := yrq) (lq := lq) (rq := (yq1 + kq) % lq) hs
  have m1 := mul_bd2 (az := (bf (yq1 + kq)).toInt) (bz := (nq : Int)) (mz := 999) (nz := 24) (by omega) (by omega) (by omega) (by omega)
  have m2 := mul_bd2 (az := hZ yrq lq ((yq1 + kq) % lq) xf nq) (bz := (nq : Int)) (mz := 23976) (nz := 24) (by omega) (by omega) (by omega) (by omega)
  have m3 := mul_bd2 (az := sZ xf nq) (bz := (cntR yrq lq ((yq1 + kq) % lq) nq : Int)) (mz := 23976) (nz := 24) (by omega) (by omega) (by omega) (by omega)
  have e1 : ((bf (yq1 + kq)).toInt64 * (nI nq).toInt64).toInt = (bf (yq1 + kq)).toInt * (nq : Int) := by rw [ofI_w, ofI_n (by omega), ofI_m, ofI_ti (by omega) (by omega)]
  have e2 : (sumL xf nq).toInt = sZ xf nq := by rw [sum_Z, ofI_ti (by omega) (by omega)]
  have e3 : (hsum yrq lq ((yq1 + kq) % lq) xf nq * (nI nq).toInt64).toInt = hZ yrq lq ((yq1 + kq) % lq) xf nq * (nq : Int) := by rw [h_Z, ofI_n (by omega), ofI_m, ofI_ti (by omega) (by omega)]
  have e4 : (sumL xf nq * (nI (cntR yrq lq ((yq1 + kq) % lq) nq)).toInt64).toInt = sZ xf nq * (cntR yrq lq ((yq1 + kq) % lq) nq : Int) := by rw [sum_Z, ofI_n (by omega), ofI_m, ofI_ti (by omega) (by omega)]
  have c1 := cm3 (xq := (bf (yq1 + kq)).toInt64 * (nI nq).toInt64) (yq := sumL xf nq) (l_sub_ti (by omega) (by omega) (by omega) (by omega))
  have c2 := cm3 (xq := hsum yrq lq ((yq1 + kq) % lq) xf nq * (nI nq).toInt64) (yq := sumL xf nq * (nI (cntR yrq lq ((yq1 + kq) % lq) nq)).toInt64) (l_sub_ti (by omega) (by omega) (by omega) (by omega))
  rw [lkS_c h]
  unfold sideY sideQ
  rw [← nI_l (show cntR yrq lq ((yq1 + kq) % lq) nq < 2 ^ 31 by omega)]
  generalize (bf (yq1 + kq)).toInt64 * (nI nq).toInt64 - sumL xf nq = oz at *
  generalize cmpI ((bf (yq1 + kq)).toInt64 * (nI nq).toInt64) (sumL xf nq) = vz at *
  generalize hsum yrq lq ((yq1 + kq) % lq) xf nq * (nI nq).toInt64 - sumL xf nq * (nI (cntR yrq lq ((yq1 + kq) % lq) nq)).toInt64 = mz at *
  generalize cmpI (hsum yrq lq ((yq1 + kq) % lq) xf nq * (nI nq).toInt64) (sumL xf nq * (nI (cntR yrq lq ((yq1 + kq) % lq) nq)).toInt64) = wz at *
  have q1 : ¬ (nI 1 : Int32) = 0 := by decide
  have q2 : ¬ (-1 : Int32) = 0 := by decide
  have q3 : ¬ (nI 1 : Int32) = -1 := by decide
  have q4 : ¬ (-1 : Int32) = nI 1 := by decide
  have q5 : ¬ (0 : Int64) < 0 := by decide
  unfold i1q i2q
  rcases c1 with ⟨rfl, rfl⟩ | ⟨rfl, h1⟩ | ⟨rfl, h1⟩ <;> rcases c2 with ⟨rfl, rfl⟩ | ⟨rfl, h2⟩ | ⟨rfl, h2⟩
  · simp
  · simp
  · simp
  · simp [q1, (l_pn h1).1]
  · simp [q1, (l_pn h1).1, (l_pn h2).1, h1, h2]
  · simp [q1, q2, q3, (l_pn h1).1, (l_np h2).1, h1, (l_np h2).2, (l_pn h1).2]
  · simp [q2, (l_np h1).1]
  · simp [q2, q4, (l_np h1).1, (l_pn h2).1, (l_np h1).2, (l_pn h2).2, q1]
  · simp [q2, (l_np h1).1, (l_np h2).1, h1, h2]
end HLq
theorem nm_f {s0q τq : Sto} {dfq : Nat → Int32} {endq : Nat} {xf : Nat → Int32} (h : NmX s0q τq dfq endq xf) (kq : Nat) (hk : kq = 14 ∨ kq = 15 ∨ kq = 16) (vz : Int32) : NmX s0q (sti τq 11 kq vz) dfq endq xf := by
  obtain ⟨a1, a2, a3, a4, a5⟩ := h
  refine ⟨?_, ?_, ?_, ?_, fun cz p1 p2 => ?_, fun jq p1 p2 p3 p4 => ?_⟩
  · rw [show (sti τq 11 kq vz 11).1 7 = (τq 11).1 7 by simp only [sti, stc, if_true, upd]; exact if_neg (by omega)]; exact a1
  · rw [sti_ne (by decide)]; exact a2
  · rw [sti_ne (by decide)]; exact a3
  · rw [sti_ne (by decide)]; exact a4
  · rw [sti_ne p1]; exact a5.1 cz p1 p2
  · rw [show (sti τq 11 kq vz 11).1 jq = (τq 11).1 jq by simp only [sti, stc, if_true, upd]; exact if_neg (by omega)]; exact a5.2 jq p1 p2 p3 p4
theorem st_f {τq : Sto} {kq iq : Nat} {vz wz : Int32} (h : (τq 11).1 iq = wz) (hne : iq ≠ kq) : (sti τq 11 kq vz 11).1 iq = wz := by
  rw [← h]
  simp only [sti, stc, if_true, upd]
  exact if_neg hne
/-! draws -/
def dmR (yrq : Nat → Nat) (nq lq : Nat) (glq : Int64) (nb : Bool) : Nat → (Nat → Int32) → Nat → Nat
  | 0, _, _ => 0
  | kq + 1, xf, sdq => (if nb = true ∨ glq ≤ upF yrq nq (drS (nq - 1) xf sdq).1 lq then 1 else 0) + dmR yrq nq lq glq nb kq (drS (nq - 1) xf sdq).1 (drS (nq - 1) xf sdq).2
theorem dm_s {yrq : Nat → Nat} {nq lq : Nat} {glq : Int64} {nb : Bool} {kq : Nat} {xf : Nat → Int32} {sdq : Nat} : dmR yrq nq lq glq nb (kq + 1) xf sdq = (if nb = true ∨ glq ≤ upF yrq nq (drS (nq - 1) xf sdq).1 lq then 1 else 0) + dmR yrq nq lq glq nb kq (drS (nq - 1) xf sdq).1 (drS (nq - 1) xf sdq).2 := rfl
theorem c_X10_upK (l : Launch) (G : Gl) (σ : Sto) (s0q : Sto) (dfq : Nat → Int32) (endq : Nat) (hend : 1 ≤ endq ∧ endq ≤ 24) (xf : Nat → Int32) (hnm : NmX s0q σ dfq endq xf) (lq : Nat) (hlq : 2 ≤ lq ∧ lq ≤ 12) : CtL l G yX10_upperOf cX10_upperOf 7 (some .long) 1 23 [.ref (gad G 11), .int (nI lq)] σ (fun r σ' => r = upF (yeF dfq endq) (gcnt dfq endq) xf lq ∧ NmX s0q σ' dfq endq xf ∧ ∀ cz, cz ≠ 77 → cz ≠ 78 → σ' cz = σ cz) :=
  (c_X10_upperOf l G σ (yeF dfq endq) (gcnt dfq endq) hnm.1 (Nat.le_trans (gcnt_le dfq endq) hend.2) hnm.2.1 (fun jq => by have := yeF_lt (df := dfq) endq hend.1 jq; omega) _ rfl lq hlq).mono (fun r τq h => ⟨h.1.trans (up_cong hnm.2.2.1), nm_keep hnm h.2, h.2⟩)
