/-! bits counted: sums over trials -/
def btq (aq iq : Nat) : Nat := if aq.testBit iq = true then 1 else 0
theorem bt_and (aq iq : Nat) : aq / 2 ^ iq &&& 1 = btq aq iq := by
  unfold btq
  by_cases h : aq.testBit iq = true
  · rw [if_pos h]; exact tstb.mpr h
  · rw [if_neg h]
    have h1 : aq / 2 ^ iq &&& 1 ≤ 1 := Nat.and_le_right
    have h2 : ¬ (aq / 2 ^ iq &&& 1 = 1) := fun z => h (tstb.mp z)
    omega
theorem popN_b (aq iq : Nat) : popN (iq + 1) aq = popN iq aq + btq aq iq := by rw [← bt_and]; exact (popN_up aq iq).symm
theorem bit_e (aq iq : Nat) : nI (aq / 2 ^ iq &&& 1) = b01 (aq.testBit iq) := by
  rw [bt_and]
  unfold btq
  cases aq.testBit iq <;> rfl
theorem popN_ext {aq bq : Nat} : ∀ {nq : Nat}, (∀ iq, iq < nq → aq.testBit iq = bq.testBit iq) → popN nq aq = popN nq bq
  | 0, _ => rfl
  | nq + 1, h => by
    rw [popN_b, popN_b, popN_ext (fun iq hi => h iq (by omega))]
    unfold btq
    rw [h nq (by omega)]
theorem popN_hi {aq kq : Nat} (h : aq < 2 ^ kq) : ∀ {nq : Nat}, kq ≤ nq → popN nq aq = popN kq aq
  | 0, hn => by rw [show kq = 0 by omega]
  | nq + 1, hn => by
    rcases Nat.lt_or_ge nq kq with h2 | h2
    · rw [show kq = nq + 1 by omega]
    · rw [popN_b, popN_hi h h2]
      unfold btq
      rw [if_neg (by rw [Nat.testBit_lt_two_pow (Nat.lt_of_lt_of_le h (Nat.pow_le_pow_right (by decide) h2))]; decide)]
      rfl
theorem nd_bit (aq bq iq : Nat) : (ndiff aq bq).testBit iq = (aq.testBit iq && !bq.testBit iq) := by
  unfold ndiff
  rw [Nat.testBit_xor, Nat.testBit_and]
  cases aq.testBit iq <;> cases bq.testBit iq <;> rfl
/-- over the first trials: of those in A, one more if in B, one less if not -/
def smX (aq bq : Nat) : Nat → Int32
  | 0 => nI 0
  | kq + 1 => smX aq bq kq + (if aq.testBit kq = true then (if bq.testBit kq = true then nI 1 else -1) else nI 0)
theorem i_assoc1 (az bz : Int32) : az + nI 1 - bz = az - bz + nI 1 := by
  rw [Int32.sub_eq_add_neg, Int32.sub_eq_add_neg, Int32.add_assoc, Int32.add_comm (nI 1), Int32.add_assoc]
theorem i_assoc2 (az bz : Int32) : az - (bz + nI 1) = az - bz + (-1) := by
  rw [i_sba, show (-1 : Int32) = -(nI 1) by decide, Int32.sub_neg]
theorem smX_e (aq bq : Nat) : ∀ kq, smX aq bq kq = nI (popN kq (aq &&& bq)) - nI (popN kq (ndiff aq bq))
  | 0 => by show nI 0 = nI 0 - nI 0; decide
  | kq + 1 => by
    unfold smX
    rw [smX_e aq bq kq, popN_b, popN_b]
    unfold btq
    rw [nd_bit, Nat.testBit_and]
    cases aq.testBit kq <;> cases bq.testBit kq
    · simp [nI_0]
    · simp [nI_0]
    · simp only [Bool.true_and, Bool.not_false, Bool.and_false, if_true, Bool.false_eq_true, if_false, Nat.add_zero]
      rw [← nI_add, i_assoc2]
    · simp only [Bool.true_and, Bool.not_true, Bool.and_true, if_true, Bool.false_eq_true, if_false, Nat.add_zero]
      rw [← nI_add, i_assoc1]
theorem kpt_bit (pf2 : Nat → Int32) (rz : Int32) : ∀ nq kq, (kpt pf2 rz nq).testBit kq = (decide (kq < nq) && !decide (pf2 kq < rz))
  | 0, kq => by show (0 : Nat).testBit kq = _; rw [Nat.zero_testBit, decide_eq_false (by omega)]; rfl
  | nq + 1, kq => by
    have h0 := kpt_bit pf2 rz nq kq
    unfold kpt
    by_cases h : pf2 nq < rz
    · rw [if_pos h, h0]
      by_cases h1 : kq = nq
      · subst h1
        rw [decide_eq_true h]
        simp
      · congr 1
        rw [decide_eq_decide]
        omega
    · rw [if_neg h, Nat.testBit_or, h0, Nat.one_mul, Nat.testBit_two_pow]
      by_cases h1 : kq = nq
      · subst h1
        rw [decide_eq_false h]
        simp
      · rw [decide_eq_false (show ¬ nq = kq by omega), Bool.or_false]
        congr 1
        rw [decide_eq_decide]
        omega
theorem kpt_in {pf2 : Nat → Int32} {rz : Int32} {nq kq : Nat} (h : kq < nq) : (kpt pf2 rz nq).testBit kq = !decide (pf2 kq < rz) := by
  rw [kpt_bit, decide_eq_true h]
  rfl
theorem smX_c {aq bq cntq : Nat} (h : aq < 2 ^ cntq) (hc : cntq ≤ 20) : smX aq bq cntq = nI (popc (aq &&& bq)) - nI (popc (ndiff aq bq)) := by
  rw [smX_e]
  unfold popc
  rw [popN_hi (Nat.lt_of_le_of_lt Nat.and_le_left h) hc, popN_hi (ndiff_lt h) hc]
theorem sm_gd {pf2 : Nat → Int32} {cntq trq : Nat} {rz : Int32} (hc : cntq ≤ 20) : smX (kpt pf2 rz cntq) trq cntq = gdI pf2 cntq trq rz := smX_c (kpt_lt pf2 rz cntq) hc
theorem sm_le {aq bq cntq : Nat} (h : aq < 2 ^ cntq) (hc : cntq ≤ 20) : (smX aq bq cntq ≤ 0) ↔ popc (aq &&& bq) ≤ popc (ndiff aq bq) := by
  rw [smX_c h hc, fa_le, nI_subI (by have := popc_le (aq &&& bq); omega) (by have := popc_le (ndiff aq bq); omega), show (0 : Int32).toInt = 0 by decide]
  omega
theorem popc_z {aq : Nat} (h : aq < 1048576) : (popc aq = 0) ↔ aq = 0 := by
  constructor
  · intro h0
    apply Nat.eq_of_testBit_eq
    intro iq
    rw [Nat.zero_testBit]
    have key : ∀ nq, popN nq aq = 0 → ∀ jq, jq < nq → aq.testBit jq = false := by
      intro nq
      induction nq with
      | zero => intro _ jq hj; omega
      | succ nq ih =>
        intro hz jq hj
        rw [popN_b] at hz
        rcases Nat.lt_or_ge jq nq with h2 | h2
        · exact ih (by omega) jq h2
        · rw [show jq = nq by omega]
          unfold btq at hz
          cases hb : aq.testBit nq with
          | false => rfl
          | true => rw [hb] at hz; simp at hz
    rcases Nat.lt_or_ge iq 20 with h2 | h2
    · exact key 20 h0 iq h2
    · exact Nat.testBit_lt_two_pow (Nat.lt_of_lt_of_le (show aq < 2 ^ 20 from h) (Nat.pow_le_pow_right (by decide) h2))
  · intro h0; subst h0; decide
/-! trials, men, as the model holds them -/
def DrM (σ : Sto) (cntq prq trq : Nat) : Prop := (σ 11).1 21 = nI cntq ∧ cntq ≤ 20 ∧ (σ 11).1 20 = nI prq ∧ prq < 2 ^ cntq ∧ (σ 11).1 24 = nI trq ∧ trq < 1048576
def RdM (σ : Sto) (rdq : Nat → Nat) (barq : Nat) : Prop := (σ 11).1 23 = nI barq ∧ barq ≤ 100 ∧ (∀ jq, jq < 8 → (σ 84).1 jq = nI (rdq jq)) ∧ ∀ jq, rdq jq < 1048576
theorem trl_e {cntq : Nat} (h : cntq ≤ 20) {tz : Int32} : inL 0 (nI cntq - nI 1).toInt64 tz.toInt64 = hasB cntq tz := by
  have e : inL 0 (nI cntq - nI 1).toInt64 tz.toInt64 = inB (nI 0) (nI cntq - nI 1) tz := by rw [← inL_w]; rfl
  rw [e, Bool.eq_iff_iff, inB_iff, nI_subI (by omega) (by omega), nI_toInt (by decide)]
  unfold hasB
  rw [Bool.and_eq_true, decide_eq_true_eq, decide_eq_true_eq, fa_le, fa_lt, nI_toInt (by omega), show (0 : Int32).toInt = 0 by decide]
  omega
theorem told_e {wz : Int32} {kq : Nat} (h : wz = nI kq) (h1 : 10 ≤ kq) (h2 : kq ≤ 15) {az bz cz dz ez vz : Int32} {gf : Nat → Int32} : gf (kq - 10) = (if wz = nI 0 then az else if wz = nI 1 then bz else if wz = nI 2 then cz else if wz = nI 3 then dz else if wz = nI 4 then ez else if inB (nI 0) (nI 5) (wz - nI 10) = true then gf (wz - nI 10).toNatClampNeg else vz) := by
  subst h
  have hn : ∀ jq, jq < 10 → ¬ nI kq = nI jq := fun jq hj => by rw [nI_eq (by omega) (by omega)]; omega
  rw [if_neg (hn 0 (by decide)), if_neg (hn 1 (by decide)), if_neg (hn 2 (by decide)), if_neg (hn 3 (by decide)), if_neg (hn 4 (by decide)), nI_sub' h1, if_pos (by rw [inB_N (by decide) (by decide) (by omega)]; simp; omega), nI_clamp (by omega)]
theorem told_n {wz : Int32} (h : inB (nI 10) (nI 15) wz = false) : ¬ inB (nI 0) (nI 5) (wz - nI 10) = true := by
  intro h2
  obtain ⟨kq, e, _, h3⟩ := inB_lo (by decide) (by decide) h2
  have e2 : wz = nI (kq + 10) := by
    have := congrArg (fun z => z + nI 10) e
    simp only [Int32.sub_add_cancel] at this
    rw [this, nI_add]
  rw [e2, inB_N (by decide) (by decide) (by omega)] at h
  simp at h
  omega
theorem sZ_w (xf : Nat → Int32) : ∀ kq : Nat, -(2147483648 * (kq : Int)) ≤ sZ xf kq ∧ sZ xf kq ≤ 2147483648 * (kq : Int)
  | 0 => by unfold sZ; omega
  | kq + 1 => by
    have h := sZ_w xf kq
    have h1 := (xf kq).toInt_lt
    have h2 := (xf kq).le_toInt
    unfold sZ
    omega
def psZ (xf : Nat → Int32) (prq : Nat) : Nat → Int
  | 0 => 0
  | kq + 1 => if prq.testBit kq = true then psZ xf prq kq + (xf kq).toInt else psZ xf prq kq
theorem psZ_w (xf : Nat → Int32) (prq : Nat) : ∀ kq : Nat, -(2147483648 * (kq : Int)) ≤ psZ xf prq kq ∧ psZ xf prq kq ≤ 2147483648 * (kq : Int)
  | 0 => by unfold psZ; omega
  | kq + 1 => by
    have h := psZ_w xf prq kq
    have h1 := (xf kq).toInt_lt
    have h2 := (xf kq).le_toInt
    unfold psZ
    split <;> omega
theorem ps_Z (xf : Nat → Int32) (prq : Nat) : ∀ kq, psL xf prq kq = Int64.ofInt (psZ xf prq kq)
  | 0 => rfl
  | kq + 1 => by
    show (if _ then _ else _) = Int64.ofInt (if _ then _ else _)
    split
    · rw [ps_Z xf prq kq, ofI_w, ofI_a]
    · exact ps_Z xf prq kq
theorem mul_rng {az : Int} {kq : Nat} (h1 : -50000000000 ≤ az) (h2 : az ≤ 50000000000) (hk : kq ≤ 20) : -1000000000000 ≤ az * (kq : Int) ∧ az * (kq : Int) ≤ 1000000000000 := by
  have h3 := Int.mul_le_mul_of_nonneg_right h2 (show (0 : Int) ≤ (kq : Int) by omega)
  have h4 := Int.mul_le_mul_of_nonneg_right h1 (show (0 : Int) ≤ (kq : Int) by omega)
  omega
theorem lean_bd {pf2 : Nat → Int32} {prq cntq : Nat} (hc : cntq ≤ 20) : -(2 ^ 62 : Int) ≤ (leanU pf2 prq cntq).toInt ∧ (leanU pf2 prq cntq).toInt ≤ 2 ^ 62 := by
  have hp := popc_le prq
  have h1 := sZ_w pf2 cntq
  have h2 := psZ_w pf2 prq cntq
  have h3 := mul_rng (az := psZ pf2 prq cntq) (kq := cntq) (by omega) (by omega) hc
  have h4 := mul_rng (az := sZ pf2 cntq) (kq := popc prq) (by omega) (by omega) hp
  unfold leanU
  rw [ps_Z, sum_Z, ofI_n (by omega), ofI_n (by omega), ofI_m, ofI_m, ofI_s, ofI_ti (by omega) (by omega)]
  omega
theorem leanD_p {prq cntq : Nat} (hc : cntq ≤ 20) (hp : prq < 2 ^ cntq) (h0 : ¬ prq = 0) : 0 < (leanD prq cntq).toInt := by
  have h1 := popc_le prq
  have h2 : 0 < popc prq := by
    rcases Nat.eq_zero_or_pos (popc prq) with h | h
    · exact absurd ((popc_z (pow_up hp hc)).mp h) h0
    · exact h
  have h3 : 0 < cntq := by
    rcases Nat.eq_zero_or_pos cntq with h | h
    · subst h; exact absurd (by omega) h0
    · exact h
  unfold leanD
  have h4 : popc prq * cntq ≤ 20 * 20 := Nat.mul_le_mul h1 hc
  rw [nI_l (by omega), nI_l (by omega), lN_mul, lN_ti' (by omega)]
  have := Nat.mul_pos h2 h3
  omega
section STQ
variable {aq bq kq : Nat} {pf2 : Nat → Int32} {rdq : Nat → Nat} {prq hiq : Nat}
theorem smX_0 (h : aq.testBit kq = false) : smX aq bq kq + nI 0 = smX aq bq (kq + 1) := by
  show _ = smX aq bq kq + (if _ then _ else _)
  rw [h, if_neg (by decide)]
theorem smX_1 (h : aq.testBit kq = true) (h2 : bq.testBit kq = true) : smX aq bq kq + nI 1 = smX aq bq (kq + 1) := by
  show _ = smX aq bq kq + (if _ then _ else _)
  rw [if_pos h, if_pos h2]
theorem smX_m (h : aq.testBit kq = true) (h2 : bq.testBit kq = false) : smX aq bq kq + (-1) = smX aq bq (kq + 1) := by
  show _ = smX aq bq kq + (if _ then _ else _)
  rw [if_pos h, if_neg (by rw [h2]; decide)]
theorem blv_k (h : popc (rdq kq &&& prq &&& hiq) ≤ popc (ndiff (rdq kq &&& prq) hiq)) : nI (blv rdq prq hiq kq ||| 0) = nI (blv rdq prq hiq (kq + 1)) := by
  have e : blv rdq prq hiq (kq + 1) = blv rdq prq hiq kq := if_pos h
  rw [e, Nat.or_zero]
theorem blv_t (h : ¬ popc (rdq kq &&& prq &&& hiq) ≤ popc (ndiff (rdq kq &&& prq) hiq)) : nI (blv rdq prq hiq kq ||| 1 * 2 ^ kq) = nI (blv rdq prq hiq (kq + 1)) := by
  have e : blv rdq prq hiq (kq + 1) = blv rdq prq hiq kq ||| 1 * 2 ^ kq := if_neg h
  rw [e]
theorem psL_y (h : prq.testBit kq = true) : psL pf2 prq kq + (pf2 kq).toInt64 = psL pf2 prq (kq + 1) := (if_pos h).symm
theorem psL_n (h : ¬ prq.testBit kq = true) : psL pf2 prq kq + 0 = psL pf2 prq (kq + 1) := by
  show _ = (if _ then _ else _)
  rw [if_neg h, Int64.add_zero]
end STQ
