/-! numbers beyond the machine: sums as integers -/
theorem ofI_ti {vz : Int} (h1 : -(2 ^ 63 : Int) ≤ vz) (h2 : vz < 2 ^ 63) : (Int64.ofInt vz).toInt = vz := Int64.toInt_ofInt_of_le h1 h2
theorem ofI_w (vz : Int32) : vz.toInt64 = Int64.ofInt vz.toInt := by rw [← Int32.toInt_toInt64, Int64.ofInt_toInt]
theorem ofI_n {nq : Nat} (h : nq < 2 ^ 31) : (nI nq).toInt64 = Int64.ofInt (nq : Int) := by rw [ofI_w, nI_toInt h]
theorem ofI_N {nq : Nat} (h : nq < 2 ^ 63) : lN nq = Int64.ofInt (nq : Int) := by
  apply Int64.toInt_inj.mp
  rw [lN_ti' h, ofI_ti (by omega) (by omega)]
theorem ofI_a (az bz : Int) : Int64.ofInt az + Int64.ofInt bz = Int64.ofInt (az + bz) := (Int64.ofInt_add _ _).symm
theorem ofI_m (az bz : Int) : Int64.ofInt az * Int64.ofInt bz = Int64.ofInt (az * bz) := (Int64.ofInt_mul _ _).symm
theorem ofI_s (az bz : Int) : Int64.ofInt az - Int64.ofInt bz = Int64.ofInt (az - bz) := (Int64.ofInt_sub _ _).symm
def sZ (xf : Nat → Int32) : Nat → Int
  | 0 => 0
  | kq + 1 => sZ xf kq + (xf kq).toInt
def qZ (xf : Nat → Int32) : Nat → Int
  | 0 => 0
  | kq + 1 => qZ xf kq + (xf kq).toInt * (xf kq).toInt
def hZ (yrq : Nat → Nat) (lq rq : Nat) (xf : Nat → Int32) : Nat → Int
  | 0 => 0
  | mq + 1 => if yrq mq % lq = rq then hZ yrq lq rq xf mq + (xf mq).toInt else hZ yrq lq rq xf mq
def wZ (yrq : Nat → Nat) (nq lq : Nat) (xf : Nat → Int32) : Nat → Int
  | 0 => 0
  | rq + 1 => if cntR yrq lq rq nq = 0 then wZ yrq nq lq xf rq else wZ yrq nq lq xf rq + ((27720 / cntR yrq lq rq nq : Nat) : Int) * hZ yrq lq rq xf nq * hZ yrq lq rq xf nq
theorem sum_Z (xf : Nat → Int32) : ∀ kq, sumL xf kq = Int64.ofInt (sZ xf kq)
  | 0 => rfl
  | kq + 1 => by
    show sumL xf kq + (xf kq).toInt64 = Int64.ofInt (sZ xf kq + (xf kq).toInt)
    rw [sum_Z xf kq, ofI_w, ofI_a]
theorem sq_Z (xf : Nat → Int32) : ∀ kq, sqL xf kq = Int64.ofInt (qZ xf kq)
  | 0 => rfl
  | kq + 1 => by
    show sqL xf kq + (xf kq).toInt64 * (xf kq).toInt64 = Int64.ofInt (qZ xf kq + (xf kq).toInt * (xf kq).toInt)
    rw [sq_Z xf kq, ofI_w, ofI_m, ofI_a]
theorem h_Z (yrq : Nat → Nat) (lq rq : Nat) (xf : Nat → Int32) : ∀ kq, hsum yrq lq rq xf kq = Int64.ofInt (hZ yrq lq rq xf kq)
  | 0 => rfl
  | kq + 1 => by
    show (if _ then _ else _) = Int64.ofInt (if _ then _ else _)
    split
    · rw [h_Z yrq lq rq xf kq, ofI_w, ofI_a]
    · exact h_Z yrq lq rq xf kq
theorem w_Z {yrq : Nat → Nat} {nq lq : Nat} {xf : Nat → Int32} : ∀ rq, wgR yrq nq lq xf rq = Int64.ofInt (wZ yrq nq lq xf rq)
  | 0 => rfl
  | rq + 1 => by
    have hb : 27720 / cntR yrq lq rq nq ≤ 27720 := Nat.div_le_self _ _
    show (if _ then _ else _) = Int64.ofInt (if _ then _ else _)
    split
    · exact w_Z rq
    · rw [w_Z rq, h_Z, ofI_n (by omega), ofI_m, ofI_m, ofI_a]
def upZ (yrq : Nat → Nat) (nq : Nat) (xf : Nat → Int32) (lq : Nat) : Int := (nq : Int) * wZ yrq nq lq xf lq - 27720 * sZ xf nq * sZ xf nq
def loZ (nq : Nat) (xf : Nat → Int32) : Int := 27720 * ((nq : Int) * qZ xf nq - sZ xf nq * sZ xf nq)
theorem up_Z {yrq : Nat → Nat} {nq lq : Nat} {xf : Nat → Int32} (hn : nq ≤ 24) : upF yrq nq xf lq = Int64.ofInt (upZ yrq nq xf lq) := by
  unfold upF upZ wgt
  rw [ofI_n (by omega), w_Z, sum_Z, show (27720 : Int64) = Int64.ofInt 27720 by decide, ofI_m, ofI_m, ofI_m, ofI_s]
theorem lo_Z {nq : Nat} {xf : Nat → Int32} (hn : nq ≤ 24) : loF nq xf = Int64.ofInt (loZ nq xf) := by
  unfold loF loZ
  rw [ofI_n (by omega), sq_Z, sum_Z, show (27720 : Int64) = Int64.ofInt 27720 by decide, ofI_m, ofI_m, ofI_s, ofI_m]
theorem sq_le {az bz : Int} (h1 : -bz ≤ az) (h2 : az ≤ bz) : az * az ≤ bz * bz := by
  have h := Int.mul_nonneg (show 0 ≤ bz - az by omega) (show 0 ≤ bz + az by omega)
  grind
def smB (nq : Nat) (xf : Nat → Int32) : Prop := ∀ jq, jq < nq → -999 ≤ (xf jq).toInt ∧ (xf jq).toInt ≤ 999
theorem sq_nn (az : Int) : 0 ≤ az * az := by
  rcases Int.le_total 0 az with h | h
  · exact Int.mul_nonneg h h
  · exact Int.mul_nonneg_of_nonpos_of_nonpos h h
theorem s_bd {xf : Nat → Int32} : ∀ {nq : Nat}, smB nq xf → -(999 * (nq : Int)) ≤ sZ xf nq ∧ sZ xf nq ≤ 999 * (nq : Int)
  | 0, _ => by unfold sZ; omega
  | nq + 1, h => by
    have h0 := s_bd (nq := nq) (fun jq hj => h jq (by omega))
    have h1 := h nq (by omega)
    unfold sZ
    omega
theorem q_bd {xf : Nat → Int32} : ∀ {nq : Nat}, smB nq xf → 0 ≤ qZ xf nq ∧ qZ xf nq ≤ 998001 * (nq : Int)
  | 0, _ => by unfold qZ; omega
  | nq + 1, h => by
    have h0 := q_bd (nq := nq) (fun jq hj => h jq (by omega))
    have h1 := h nq (by omega)
    have h2 := sq_le (az := (xf nq).toInt) (bz := 999) (by omega) (by omega)
    have h3 := sq_nn (xf nq).toInt
    unfold qZ
    omega
theorem h_bd {yrq : Nat → Nat} {lq rq : Nat} {xf : Nat → Int32} : ∀ {nq : Nat}, smB nq xf → -(999 * (cntR yrq lq rq nq : Int)) ≤ hZ yrq lq rq xf nq ∧ hZ yrq lq rq xf nq ≤ 999 * (cntR yrq lq rq nq : Int)
  | 0, _ => by unfold hZ cntR; omega
  | nq + 1, h => by
    have h0 := h_bd (yrq := yrq) (lq := lq) (rq := rq) (nq := nq) (fun jq hj => h jq (by omega))
    have h1 := h nq (by omega)
    unfold hZ cntR
    split <;> omega
/-- all the numbers of the heaps before heap rq -/
def cumC (yrq : Nat → Nat) (lq nq : Nat) : Nat → Nat
  | 0 => 0
  | rq + 1 => cumC yrq lq nq rq + cntR yrq lq rq nq
theorem cumC_e (yrq : Nat → Nat) (lq nq : Nat) : ∀ rq, cumC yrq lq nq rq = cumR yrq lq rq nq
  | 0 => (cumR_0 yrq lq nq).symm
  | rq + 1 => by
    show cumC yrq lq nq rq + cntR yrq lq rq nq = _
    rw [cumC_e yrq lq nq rq]
    induction nq with
    | zero => rfl
    | succ mq ih =>
      show cumR yrq lq rq mq + _ + (cntR yrq lq rq mq + _) = cumR yrq lq (rq + 1) mq + _
      rw [← ih]
      by_cases h1 : yrq mq % lq < rq
      · rw [if_pos h1, if_neg (by omega), if_pos (by omega)]; omega
      · by_cases h2 : yrq mq % lq = rq
        · rw [if_neg h1, if_pos h2, if_pos (by omega)]; omega
        · rw [if_neg h1, if_neg h2, if_neg (by omega)]; omega
theorem w_bd {yrq : Nat → Nat} {nq lq : Nat} {xf : Nat → Int32} (h : smB nq xf) : ∀ rq, 0 ≤ wZ yrq nq lq xf rq ∧ wZ yrq nq lq xf rq ≤ 27720 * 998001 * (cumC yrq lq nq rq : Int)
  | 0 => by unfold wZ cumC; omega
  | rq + 1 => by
    have h0 := w_bd (yrq := yrq) (lq := lq) h rq
    have h1 := h_bd (yrq := yrq) (lq := lq) (rq := rq) h
    unfold wZ cumC
    split
    · omega
    · have h2 := sq_le h1.1 h1.2
      have h3 := sq_nn (hZ yrq lq rq xf nq)
      have h4 : 27720 / cntR yrq lq rq nq * cntR yrq lq rq nq ≤ 27720 := Nat.div_mul_le_self _ _
      generalize cntR yrq lq rq nq = cq at *
      generalize hZ yrq lq rq xf nq = hz at *
      generalize 27720 / cq = dq at *
      have h5 : (0 : Int) ≤ (dq : Int) := by omega
      have h6 := Int.mul_nonneg h5 h3
      have h7 : (dq : Int) * (hz * hz) ≤ (dq : Int) * (999 * (cq : Int) * (999 * (cq : Int))) := Int.mul_le_mul_of_nonneg_left h2 h5
      have h8 : (dq : Int) * (999 * (cq : Int) * (999 * (cq : Int))) = 998001 * ((dq : Int) * (cq : Int) * (cq : Int)) := by grind
      have h9 : (dq : Int) * (cq : Int) * (cq : Int) ≤ 27720 * (cq : Int) := by
        have h10 : ((dq * cq : Nat) : Int) ≤ ((27720 : Nat) : Int) := Int.ofNat_le.mpr h4
        rw [Int.natCast_mul] at h10
        exact Int.mul_le_mul_of_nonneg_right h10 (by omega)
      rw [Int.mul_assoc]
      omega
theorem w_bd' {yrq : Nat → Nat} {nq lq : Nat} {xf : Nat → Int32} (h : smB nq xf) (hn : nq ≤ 24) : 0 ≤ wZ yrq nq lq xf lq ∧ wZ yrq nq lq xf lq ≤ 27720 * 998001 * 24 := by
  have h0 := w_bd (yrq := yrq) (lq := lq) h lq
  have h1 := cumR_le yrq lq lq nq
  rw [cumC_e] at h0
  omega
theorem s2_bd {xf : Nat → Int32} {nq : Nat} (h : smB nq xf) (hn : nq ≤ 24) : 0 ≤ sZ xf nq * sZ xf nq ∧ sZ xf nq * sZ xf nq ≤ 574848576 := by
  have h0 := s_bd h
  have h1 := sq_le (az := sZ xf nq) (bz := 23976) (by omega) (by omega)
  have h2 := sq_nn (sZ xf nq)
  omega
theorem mul_bd {az bz cz : Int} {nq : Nat} (h1 : 0 ≤ az) (h2 : az ≤ bz) (hn : nq ≤ 24) (hc : 24 * bz ≤ cz) : 0 ≤ (nq : Int) * az ∧ (nq : Int) * az ≤ cz := by
  have h3 := Int.mul_nonneg (show (0 : Int) ≤ (nq : Int) by omega) h1
  have h4 : (nq : Int) * az ≤ 24 * az := Int.mul_le_mul_of_nonneg_right (by omega) h1
  omega
theorem up_bd {yrq : Nat → Nat} {nq lq : Nat} {xf : Nat → Int32} (h : smB nq xf) (hn : nq ≤ 24) : -20000000000000 ≤ upZ yrq nq xf lq ∧ upZ yrq nq xf lq ≤ 20000000000000 := by
  have h0 := w_bd' (yrq := yrq) (lq := lq) h hn
  have h1 := s2_bd h hn
  have h2 := mul_bd (nq := nq) h0.1 h0.2 hn (cz := 20000000000000) (by omega)
  unfold upZ
  rw [Int.mul_assoc]
  omega
/-! the spread is never below nought, and nought only where all are one -/
def dZ (xf : Nat → Int32) (cz : Int) : Nat → Int
  | 0 => 0
  | kq + 1 => dZ xf cz kq + ((xf kq).toInt - cz) * ((xf kq).toInt - cz)
theorem dZ_e (xf : Nat → Int32) (cz : Int) : ∀ kq : Nat, dZ xf cz kq = qZ xf kq - 2 * cz * sZ xf kq + (kq : Int) * cz * cz
  | 0 => by unfold dZ qZ sZ; grind
  | kq + 1 => by
    have h := dZ_e xf cz kq
    unfold dZ qZ sZ
    rw [h]
    have e : ((kq + 1 : Nat) : Int) = (kq : Int) + 1 := by omega
    rw [e]
    grind
theorem dZ_nn (xf : Nat → Int32) (cz : Int) : ∀ kq, 0 ≤ dZ xf cz kq
  | 0 => by unfold dZ; omega
  | kq + 1 => by
    have h := dZ_nn xf cz kq
    have h2 := sq_nn ((xf kq).toInt - cz)
    unfold dZ
    omega
theorem sq_0 {az : Int} (h : az * az ≤ 0) : az = 0 := by
  have h2 := sq_nn az
  have h3 : az * az = 0 := by omega
  rcases Int.mul_eq_zero.mp h3 with h4 | h4 <;> exact h4
theorem dZ_z {xf : Nat → Int32} {cz : Int} : ∀ {kq : Nat}, dZ xf cz kq ≤ 0 → ∀ jq, jq < kq → (xf jq).toInt = cz
  | 0, _, jq, hj => absurd hj (Nat.not_lt_zero jq)
  | kq + 1, h, jq, hj => by
    have h1 := dZ_nn xf cz kq
    have h2 := sq_nn ((xf kq).toInt - cz)
    unfold dZ at h
    rcases Nat.lt_or_ge jq kq with h3 | h3
    · exact dZ_z (by omega) jq h3
    · have := sq_0 (az := (xf kq).toInt - cz) (by omega)
      rw [show jq = kq by omega]
      omega
def spZ (xf : Nat → Int32) (kq : Nat) : Int := (kq : Int) * qZ xf kq - sZ xf kq * sZ xf kq
theorem sp_s (xf : Nat → Int32) (kq : Nat) : spZ xf (kq + 1) = spZ xf kq + dZ xf (xf kq).toInt kq := by
  rw [dZ_e]
  unfold spZ
  rw [show qZ xf (kq + 1) = qZ xf kq + (xf kq).toInt * (xf kq).toInt from rfl, show sZ xf (kq + 1) = sZ xf kq + (xf kq).toInt from rfl]
  have e : ((kq + 1 : Nat) : Int) = (kq : Int) + 1 := by omega
  rw [e]
  grind
theorem sp_nn (xf : Nat → Int32) : ∀ kq, 0 ≤ spZ xf kq
  | 0 => by unfold spZ sZ qZ; omega
  | kq + 1 => by
    rw [sp_s]
    have := sp_nn xf kq
    have := dZ_nn xf (xf kq).toInt kq
    omega
theorem sp_z {xf : Nat → Int32} : ∀ {kq : Nat}, spZ xf kq ≤ 0 → ∀ iq jq, iq < kq → jq < kq → xf iq = xf jq
  | 0, _, iq, _, hi, _ => absurd hi (Nat.not_lt_zero iq)
  | kq + 1, h, iq, jq, hi, hj => by
    rw [sp_s] at h
    have h1 := sp_nn xf kq
    have h2 := dZ_nn xf (xf kq).toInt kq
    have h3 := dZ_z (xf := xf) (cz := (xf kq).toInt) (kq := kq) (by omega)
    have h4 : ∀ mq, mq < kq + 1 → xf mq = xf kq := by
      intro mq hm
      rcases Nat.lt_or_ge mq kq with h5 | h5
      · exact Int32.toInt_inj.mp (h3 mq h5)
      · rw [show mq = kq by omega]
    rw [h4 iq hi, h4 jq hj]
theorem lo_bd {nq : Nat} {xf : Nat → Int32} (h : smB nq xf) (hn : nq ≤ 24) : 0 ≤ loZ nq xf ∧ loZ nq xf ≤ 20000000000000 := by
  have h0 := q_bd h
  have h1 := s2_bd h hn
  have h2 := mul_bd (nq := nq) h0.1 (bz := 23952024) (by omega) hn (cz := 574848576) (by omega)
  have h3 := sp_nn xf nq
  unfold spZ at h3
  unfold loZ
  omega
theorem lo_N {nq : Nat} {xf : Nat → Int32} (h : smB nq xf) (hn : nq ≤ 24) : loF nq xf = lN (loZ nq xf).toNat ∧ (loZ nq xf).toNat < 2 ^ 50 := by
  have h0 := lo_bd h hn
  rw [lo_Z hn]
  refine ⟨?_, by omega⟩
  rw [ofI_N (by omega)]
  congr 1
  omega
theorem lo_0 {nq : Nat} {xf : Nat → Int32} (h : smB nq xf) (hn : nq ≤ 24) (h2 : loF nq xf = 0) : ∀ iq jq, iq < nq → jq < nq → xf iq = xf jq := by
  have h0 := lo_bd h hn
  rw [lo_Z hn] at h2
  have h3 := congrArg Int64.toInt h2
  rw [ofI_ti (by omega) (by omega), show (0 : Int64).toInt = 0 by decide] at h3
  apply sp_z
  unfold loZ at h3
  unfold spZ
  omega
theorem abs_N {upq : Int64} {uz : Int} (h : upq = Int64.ofInt uz) (h1 : -(2 ^ 62 : Int) ≤ uz) (h2 : uz ≤ 2 ^ 62) : (if upq < 0 then -upq else upq) = lN uz.natAbs ∧ uz.natAbs < 2 ^ 63 := by
  refine ⟨?_, by omega⟩
  have h3 : upq.toInt = uz := by rw [h, ofI_ti (by omega) (by omega)]
  rw [ofI_N (by omega)]
  by_cases h4 : upq < 0
  · rw [if_pos h4]
    rw [fa_lt64, h3, show (0 : Int64).toInt = 0 by decide] at h4
    rw [h, ← Int64.ofInt_neg]
    congr 1
    omega
  · rw [if_neg h4]
    rw [fa_lt64, h3, show (0 : Int64).toInt = 0 by decide] at h4
    rw [h]
    congr 1
    omega
