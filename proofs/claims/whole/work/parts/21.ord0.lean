/-! orders, later years: what the calls compute -/
def swp (xf : Nat → Int32) (iq jq : Nat) : Nat → Int32 := upd (upd xf iq (xf jq)) jq (xf iq)
theorem swp_sto {σ : Sto} {cz iq jq : Nat} {xf : Nat → Int32} (h : (σ cz).1 = xf) : sti (sti σ cz iq (xf jq)) cz jq (xf iq) = sta σ cz (swp xf iq jq) := by
  conv => lhs; rw [sta_id h]
  rw [sti_sta, sti_sta]
  rfl
def drS : Nat → (Nat → Int32) → Nat → (Nat → Int32) × Nat
  | 0, xf, sdq => (xf, sdq)
  | kq + 1, xf, sdq => drS kq (swp xf (kq + 1) (sdq * 16807 % 2147483647 % (kq + 1 + 1))) (sdq * 16807 % 2147483647)
def insS : Nat → (Nat → Int32) → (Nat → Int32)
  | 0, xf => xf
  | iq + 1, xf => if xf iq ≤ xf (iq + 1) then xf else insS iq (swp xf iq (iq + 1))
def srS (xf : Nat → Int32) : Nat → (Nat → Int32)
  | 0 => xf
  | eq1 + 1 => insS eq1 (srS xf eq1)
def riS (xf : Nat → Int32) : Nat → Nat
  | 0 => 0
  | kq + 1 => if xf kq < xf (kq + 1) then kq + 1 else riS xf kq
def grS (xf : Nat → Int32) (rq : Nat) : Nat → Nat
  | 0 => 0
  | gq + 1 => if gq + 1 ≤ rq then gq + 1 else if xf rq < xf (gq + 1) then gq + 1 else grS xf rq gq
def rvS : Nat → (Nat → Int32) → Nat → Nat → (Nat → Int32)
  | 0, xf, _, _ => xf
  | nq + 1, xf, iq, jq => if jq ≤ iq then xf else rvS nq (swp xf iq jq) (iq + 1) (jq - 1)
def nxS (xf : Nat → Int32) (nq : Nat) : Nat → Int32 := if riS xf (nq - 1) = 0 then xf else rvS 24 (swp xf (riS xf (nq - 1) - 1) (grS xf (riS xf (nq - 1) - 1) (nq - 1))) (riS xf (nq - 1)) (nq - 1)
theorem riS_le (xf : Nat → Int32) : ∀ kq, riS xf kq ≤ kq
  | 0 => Nat.le_refl 0
  | kq + 1 => by
    have := riS_le xf kq
    unfold riS
    split <;> omega
theorem grS_le (xf : Nat → Int32) (rq : Nat) : ∀ kq, grS xf rq kq ≤ kq
  | 0 => Nat.le_refl 0
  | kq + 1 => by
    have := grS_le xf rq kq
    unfold grS
    split
    · exact Nat.le_refl _
    · split <;> omega
theorem riS_y {xf : Nat → Int32} {kq : Nat} (h : xf kq < xf (kq + 1)) : riS xf (kq + 1) = kq + 1 := if_pos h
theorem riS_n {xf : Nat → Int32} {kq : Nat} (h : ¬ xf kq < xf (kq + 1)) : riS xf (kq + 1) = riS xf kq := if_neg h
theorem grS_a {xf : Nat → Int32} {rq gq : Nat} (h : gq ≤ rq) : grS xf rq gq = gq := by
  cases gq with
  | zero => rfl
  | succ gq => exact if_pos h
theorem grS_b {xf : Nat → Int32} {rq gq : Nat} (h : xf rq < xf gq) : grS xf rq gq = gq := by
  cases gq with
  | zero => rfl
  | succ gq =>
    by_cases h1 : gq + 1 ≤ rq
    · exact if_pos h1
    · show (if _ then _ else (if _ then _ else _)) = _
      rw [if_neg h1, if_pos h]
theorem grS_c {xf : Nat → Int32} {rq gq : Nat} (h1 : ¬ gq + 1 ≤ rq) (h : ¬ xf rq < xf (gq + 1)) : grS xf rq (gq + 1) = grS xf rq gq := by
  show (if _ then _ else (if _ then _ else _)) = _
  rw [if_neg h1, if_neg h]
theorem nI_le1 {kq : Nat} (h : kq < 2 ^ 31) : (nI kq - 1 ≤ 0) ↔ kq ≤ 1 := by
  cases kq with
  | zero => exact ⟨fun _ => by omega, fun _ => by decide⟩
  | succ jq => rw [nI_pred, nI_le0 (by omega)]; omega
theorem nI_ge1 {kq : Nat} (h : kq < 2 ^ 31) : (0 ≤ nI kq - 1) ↔ 1 ≤ kq := by
  cases kq with
  | zero => exact ⟨fun q => absurd q (by decide), fun q => by omega⟩
  | succ jq => rw [nI_pred, nI_ge0 (by omega)]; omega
theorem nI_m2 {nq : Nat} (h : 1 ≤ nq) (h2 : nq < 2 ^ 30) : nI nq - nI 2 = nI (nq - 1) - 1 := by
  apply Int32.toInt_inj.mp
  rw [pk_sub_toInt h2 (by decide), show (1 : Int32) = nI 1 from rfl, pk_sub_toInt (by omega) (by decide)]
  omega
theorem seed1 {sdq : Nat} (h : sdq < 2147483648) : lrm (lN sdq * 16807) 2147483647 = lN (sdq * 16807 % 2147483647) := by
  have e1 : (16807 : Int64) = lN 16807 := by decide
  have e2 : (2147483647 : Int64) = lN 2147483647 := by decide
  rw [e1, e2, lN_mul]
  exact pk_lRem (by omega) (by decide) (by decide)
theorem seed2 {sdq kq : Nat} (h : sdq < 2147483648) (hk : kq < 1000) : (lrm (lN sdq) (nI (kq + 1)).toInt64).toInt32 = nI (sdq % (kq + 1)) := by
  rw [nI_l (by omega)]
  show (lN sdq - lN sdq / lN (kq + 1) * lN (kq + 1)).toInt32 = _
  rw [pk_lRem (by omega) (by omega) (by omega), lN_i]
theorem i2l_ne {kq : Nat} (h0 : 0 < kq) (h : kq < 2 ^ 31) : ¬ (nI kq).toInt64 = 0 := by
  rw [nI_l h, show (0 : Int64) = lN 0 by decide, lN_eq h (by decide)]
  omega
def sideQ (yrq : Nat → Nat) (nq lq : Nat) (xf : Nat → Int32) (yq1 : Nat) (smq : Int64) : Int32 := cmpI (hsum yrq lq (yq1 % lq) xf nq * (nI nq).toInt64) (smq * lN (cntR yrq lq (yq1 % lq) nq))
def sideY (nq : Nat) (vz : Int32) (smq : Int64) : Int32 := cmpI (vz.toInt64 * (nI nq).toInt64) smq
def lkS (yrq : Nat → Nat) (nq lq : Nat) (xf bf : Nat → Int32) (yq1 : Nat) : Nat → Nat × Nat
  | 0 => (0, 0)
  | kq + 1 => if bf (yq1 + kq) = -1000000 then lkS yrq nq lq xf bf yq1 kq else if sideY nq (bf (yq1 + kq)) (sumL xf nq) = 0 then lkS yrq nq lq xf bf yq1 kq else if sideQ yrq nq lq xf (yq1 + kq) (sumL xf nq) = 0 then lkS yrq nq lq xf bf yq1 kq else if sideY nq (bf (yq1 + kq)) (sumL xf nq) = sideQ yrq nq lq xf (yq1 + kq) (sumL xf nq) then ((lkS yrq nq lq xf bf yq1 kq).1 + 1, (lkS yrq nq lq xf bf yq1 kq).2 + 1) else ((lkS yrq nq lq xf bf yq1 kq).1, (lkS yrq nq lq xf bf yq1 kq).2 + 1)
theorem lkS_le {yrq : Nat → Nat} {nq lq : Nat} {xf bf : Nat → Int32} {yq1 : Nat} : ∀ kq, (lkS yrq nq lq xf bf yq1 kq).1 ≤ (lkS yrq nq lq xf bf yq1 kq).2 ∧ (lkS yrq nq lq xf bf yq1 kq).2 ≤ kq
  | 0 => ⟨Nat.le_refl 0, Nat.le_refl 0⟩
  | kq + 1 => by
    have h := lkS_le (yrq := yrq) (nq := nq) (lq := lq) (xf := xf) (bf := bf) (yq1 := yq1) kq
    unfold lkS
    split
    · omega
    · split
      · omega
      · split
        · omega
        · split
          · show _ + 1 ≤ _ + 1 ∧ _ + 1 ≤ _ + 1; omega
          · show _ ≤ _ + 1 ∧ _ + 1 ≤ _ + 1; omega
def lkW (hdq cdq : Nat) : Nat → Int64 × Int64
  | 0 => (1, 0)
  | iq + 1 => ((lkW hdq cdq iq).1 * (nI (cdq - iq)).toInt64 / (nI (iq + 1)).toInt64, if iq < hdq then (lkW hdq cdq iq).2 else (lkW hdq cdq iq).2 + (lkW hdq cdq iq).1)
theorem lkW_n {hdq cdq iq : Nat} (h : iq < hdq) : (lkW hdq cdq iq).2 = (lkW hdq cdq (iq + 1)).2 := (if_pos h).symm
theorem lkW_y {hdq cdq iq : Nat} (h : ¬ iq < hdq) : (lkW hdq cdq iq).2 + (lkW hdq cdq iq).1 = (lkW hdq cdq (iq + 1)).2 := (if_neg h).symm
theorem hs_y {yrq : Nat → Nat} {lq rq iq : Nat} {xf : Nat → Int32} (h : yrq iq % lq = rq) : hsum yrq lq rq xf iq + (xf iq).toInt64 = hsum yrq lq rq xf (iq + 1) := (if_pos h).symm
theorem hs_n {yrq : Nat → Nat} {lq rq iq : Nat} {xf : Nat → Int32} (h : ¬ yrq iq % lq = rq) : hsum yrq lq rq xf iq = hsum yrq lq rq xf (iq + 1) := (if_neg h).symm
theorem cn_y {yrq : Nat → Nat} {lq rq iq : Nat} (h : yrq iq % lq = rq) : lN (cntR yrq lq rq iq) + 1 = lN (cntR yrq lq rq (iq + 1)) := by
  show _ = lN (_ + (if _ then _ else _))
  rw [if_pos h, lN_1]
theorem cn_n {yrq : Nat → Nat} {lq rq iq : Nat} (h : ¬ yrq iq % lq = rq) : lN (cntR yrq lq rq iq) = lN (cntR yrq lq rq (iq + 1)) := by
  show _ = lN (_ + (if _ then _ else _))
  rw [if_neg h]
  rfl
theorem insS_y {iq : Nat} {xf : Nat → Int32} (h : ¬ xf iq ≤ xf (iq + 1)) : insS (iq + 1) xf = insS iq (swp xf iq (iq + 1)) := if_neg h
theorem insS_n {iq : Nat} {xf : Nat → Int32} (h : xf iq ≤ xf (iq + 1)) : insS (iq + 1) xf = xf := if_pos h
theorem rvS_y {nq iq jq : Nat} {xf : Nat → Int32} (h : ¬ jq ≤ iq) : rvS (nq + 1) xf iq jq = rvS nq (swp xf iq jq) (iq + 1) (jq - 1) := if_neg h
theorem rvS_n {nq iq jq : Nat} {xf : Nat → Int32} (h : jq ≤ iq) : rvS nq xf iq jq = xf := by
  cases nq with
  | zero => rfl
  | succ nq => exact if_pos h
theorem lkS_g {yrq : Nat → Nat} {nq lq : Nat} {xf bf : Nat → Int32} {yq1 kq : Nat} (h : bf (yq1 + kq) = -1000000) : lkS yrq nq lq xf bf yq1 (kq + 1) = lkS yrq nq lq xf bf yq1 kq := if_pos h
theorem lkS_y {yrq : Nat → Nat} {nq lq : Nat} {xf bf : Nat → Int32} {yq1 kq : Nat} (h : ¬ bf (yq1 + kq) = -1000000) (h1 : sideY nq (bf (yq1 + kq)) (sumL xf nq) = 0) : lkS yrq nq lq xf bf yq1 (kq + 1) = lkS yrq nq lq xf bf yq1 kq := by
  show (if _ then _ else (if _ then _ else _)) = _
  rw [if_neg h, if_pos h1]
theorem stl_id {σ : Sto} {cz kq : Nat} {vz : Int64} (h : (σ cz).2 kq = vz) : σ = stl σ cz kq vz := by
  subst h
  funext jq
  by_cases h : jq = cz
  · subst h
    have : vp_updL (σ jq).2 kq ((σ jq).2 kq) = (σ jq).2 := by
      funext iq
      by_cases h2 : iq = kq
      · subst h2; simp [vp_updL]
      · simp [vp_updL, h2]
    simp [stl, stc, this]
  · simp [stl, stc, h]
theorem stl_sta_ne {σ : Sto} {cz dz kq : Nat} {fq : Nat → Int32} {vz : Int64} (hne : cz ≠ dz) : stl (sta σ cz fq) dz kq vz = sta (stl σ dz kq vz) cz fq := by
  funext jq
  by_cases h : jq = cz
  · subst h; simp [stl, sta, stc, hne]
  · by_cases h2 : jq = dz
    · subst h2; simp [stl, sta, stc, h]
    · simp [stl, sta, stc, h, h2]
theorem stl_stl {σ : Sto} {cz kq : Nat} {vz wz : Int64} : stl (stl σ cz kq vz) cz kq wz = stl σ cz kq wz := by
  funext jq
  by_cases h : jq = cz
  · subst h
    simp only [stl, stc, if_true]
    congr 1
    funext iq
    by_cases h2 : iq = kq <;> simp [vp_updL, h2]
  · simp [stl, stc, h]
theorem sti_com {σ : Sto} {cz kq iq : Nat} {vz wz : Int32} (hne : kq ≠ iq) : sti (sti σ cz kq vz) cz iq wz = sti (sti σ cz iq wz) cz kq vz := by
  funext jq
  by_cases h : jq = cz
  · subst h
    simp only [sti, stc, if_true]
    congr 1
    funext mq
    by_cases h2 : mq = kq
    · subst h2; simp [upd, hne]
    · by_cases h3 : mq = iq
      · subst h3; simp [upd, h2]
      · simp [upd, h2, h3]
  · simp [sti, stc, h]
theorem lkS_c {yrq : Nat → Nat} {nq lq : Nat} {xf bf : Nat → Int32} {yq1 kq : Nat} (h : ¬ bf (yq1 + kq) = -1000000) : lkS yrq nq lq xf bf yq1 (kq + 1) = ((if sideY nq (bf (yq1 + kq)) (sumL xf nq) = 0 then (lkS yrq nq lq xf bf yq1 kq).1 else if sideQ yrq nq lq xf (yq1 + kq) (sumL xf nq) = 0 then (lkS yrq nq lq xf bf yq1 kq).1 else if sideY nq (bf (yq1 + kq)) (sumL xf nq) = sideQ yrq nq lq xf (yq1 + kq) (sumL xf nq) then (lkS yrq nq lq xf bf yq1 kq).1 + 1 else (lkS yrq nq lq xf bf yq1 kq).1), (if sideY nq (bf (yq1 + kq)) (sumL xf nq) = 0 then (lkS yrq nq lq xf bf yq1 kq).2 else if sideQ yrq nq lq xf (yq1 + kq) (sumL xf nq) = 0 then (lkS yrq nq lq xf bf yq1 kq).2 else (lkS yrq nq lq xf bf yq1 kq).2 + 1)) := by
  show (if _ then _ else _) = _
  rw [if_neg h]
  by_cases h1 : sideY nq (bf (yq1 + kq)) (sumL xf nq) = 0
  · rw [if_pos h1, if_pos h1, if_pos h1]
  · rw [if_neg h1, if_neg h1, if_neg h1]
    by_cases h2 : sideQ yrq nq lq xf (yq1 + kq) (sumL xf nq) = 0
    · rw [if_pos h2, if_pos h2, if_pos h2]
    · rw [if_neg h2, if_neg h2, if_neg h2]
      by_cases h3 : sideY nq (bf (yq1 + kq)) (sumL xf nq) = sideQ yrq nq lq xf (yq1 + kq) (sumL xf nq)
      · rw [if_pos h3, if_pos h3]
      · rw [if_neg h3, if_neg h3]
theorem lk_sto {σ : Sto} {az bz cz dz : Int32} : sti (sti (sti (sti σ 6 2 az) 6 1 bz) 6 2 cz) 6 1 dz = sti (sti σ 6 2 cz) 6 1 dz := by
  rw [sti_com (σ := sti σ 6 2 az) (kq := 1) (iq := 2) (by decide), sti_sti, sti_sti]
