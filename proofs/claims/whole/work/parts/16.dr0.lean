/-! trials, men, fractions: what the calls compute -/
def kpt (pf2 : Nat → Int32) (rz : Int32) : Nat → Nat
  | 0 => 0
  | kq + 1 => if pf2 kq < rz then kpt pf2 rz kq else kpt pf2 rz kq ||| 1 * 2 ^ kq
def gdI (pf2 : Nat → Int32) (cntq trq : Nat) (rz : Int32) : Int32 := nI (popc (kpt pf2 rz cntq &&& trq)) - nI (popc (ndiff (kpt pf2 rz cntq) trq))
def bstN (pf2 : Nat → Int32) (cntq trq : Nat) : Nat → Nat
  | 0 => 0
  | kq + 1 => if gdI pf2 cntq trq (nI (kq + 1)) ≤ gdI pf2 cntq trq (nI (bstN pf2 cntq trq kq)) then bstN pf2 cntq trq kq else kq + 1
def fup (prq : Nat) : Nat → Nat × Nat
  | 0 => (0, 0)
  | kq + 1 => if (fup prq kq).2 < 12 ∧ prq.testBit kq = false then ((fup prq kq).1 ||| 1 * 2 ^ kq, (fup prq kq).2 + 1) else fup prq kq
def blv (rdq : Nat → Nat) (prq hiq : Nat) : Nat → Nat
  | 0 => 0
  | kq + 1 => if popc (rdq kq &&& prq &&& hiq) ≤ popc (ndiff (rdq kq &&& prq) hiq) then blv rdq prq hiq kq else blv rdq prq hiq kq ||| 1 * 2 ^ kq
def opI (fwq : Option Nat) : Int32 := match fwq with
  | some xq => nI xq
  | none => -6
def nxs (oq sqq : Nat) : Nat := (sqq + 4294967296 - oq) &&& oq
def fewB (fwq : Option Nat) (sqq : Nat) : Bool := match fwq with
  | some xq => decide (popc sqq < popc xq)
  | none => true
def fwS (rdq : Nat → Nat) (prq hiq menq oq : Nat) : Nat → Option Nat × Nat
  | 0 => (none, 0)
  | kq + 1 => (if fewB (fwS rdq prq hiq menq oq kq).1 (fwS rdq prq hiq menq oq kq).2 = true ∧ blv rdq (prq ||| (fwS rdq prq hiq menq oq kq).2) hiq 8 &&& menq = 0 then some (fwS rdq prq hiq menq oq kq).2 else (fwS rdq prq hiq menq oq kq).1, nxs oq (fwS rdq prq hiq menq oq kq).2)
theorem or_lt {aq bq nq : Nat} (h : aq < 2 ^ nq) (h2 : bq < 2 ^ nq) : aq ||| bq < 2 ^ nq := Nat.or_lt_two_pow h h2
theorem pow_up {aq mq nq : Nat} (h : aq < 2 ^ mq) (h2 : mq ≤ nq) : aq < 2 ^ nq := Nat.lt_of_lt_of_le h (Nat.pow_le_pow_right (by decide) h2)
theorem kpt_lt (pf2 : Nat → Int32) (rz : Int32) : ∀ kq, kpt pf2 rz kq < 2 ^ kq
  | 0 => by show 0 < 2 ^ 0; decide
  | kq + 1 => by
    have h := pow_up (kpt_lt pf2 rz kq) (Nat.le_succ kq)
    have h2 : 1 * 2 ^ kq < 2 ^ (kq + 1) := by rw [Nat.one_mul]; exact Nat.pow_lt_pow_right (by decide) (by omega)
    show (if _ then _ else _) < _
    split
    · exact h
    · exact or_lt h h2
theorem fup_lt (prq : Nat) : ∀ kq, (fup prq kq).1 < 2 ^ kq
  | 0 => by show 0 < _; decide
  | kq + 1 => by
    have h := pow_up (fup_lt prq kq) (Nat.le_succ kq)
    have h2 : 1 * 2 ^ kq < 2 ^ (kq + 1) := by rw [Nat.one_mul]; exact Nat.pow_lt_pow_right (by decide) (by omega)
    show (if _ then _ else _ : Nat × Nat).1 < _
    split
    · exact or_lt h h2
    · exact h
theorem fup_le (prq : Nat) : ∀ kq, (fup prq kq).2 ≤ 12
  | 0 => by show 0 ≤ 12; decide
  | kq + 1 => by
    have h := fup_le prq kq
    show (if _ then _ else _ : Nat × Nat).2 ≤ _
    split
    · rename_i h2; show _ + 1 ≤ 12; omega
    · exact h
theorem fup_stop {prq kq : Nat} (h : 12 ≤ (fup prq kq).2) : ∀ {nq : Nat}, kq ≤ nq → fup prq kq = fup prq nq := by
  intro nq
  induction nq with
  | zero => intro h2; rw [show kq = 0 by omega]
  | succ mq ihq =>
    intro h2
    rcases Nat.lt_or_ge mq kq with h3 | h3
    · rw [show kq = mq + 1 by omega]
    · have h4 := ihq h3
      show _ = (if _ then _ else _ : Nat × Nat)
      rw [if_neg (by rw [← h4]; omega), h4]
theorem blv_lt (rdq : Nat → Nat) (prq hiq : Nat) : ∀ kq, blv rdq prq hiq kq < 2 ^ kq
  | 0 => by show 0 < 2 ^ 0; decide
  | kq + 1 => by
    have h := pow_up (blv_lt rdq prq hiq kq) (Nat.le_succ kq)
    have h2 : 1 * 2 ^ kq < 2 ^ (kq + 1) := by rw [Nat.one_mul]; exact Nat.pow_lt_pow_right (by decide) (by omega)
    show (if _ then _ else _) < _
    split
    · exact h
    · exact or_lt h h2
theorem nxs_le (oq sqq : Nat) : nxs oq sqq ≤ oq := Nat.and_le_right
theorem nI_nxs {oq sqq : Nat} (h : oq < 2 ^ 20) (h2 : sqq < 2 ^ 20) : (nI sqq - nI oq) &&& nI oq = nI (nxs oq sqq) := by
  unfold nxs
  rw [← nI_and]
  congr 1
  apply Int32.toBitVec_inj.mp
  apply BitVec.eq_of_toNat_eq
  rw [Int32.toBitVec_sub, nI_bv, nI_bv, nI_bv, BitVec.toNat_sub, BitVec.toNat_ofNat, BitVec.toNat_ofNat, BitVec.toNat_ofNat]
  omega
theorem fwS_s {rdq : Nat → Nat} {prq hiq menq oq : Nat} (h : oq < 2 ^ 20) : ∀ kq, (fwS rdq prq hiq menq oq kq).2 < 2 ^ 20
  | 0 => by show 0 < _; decide
  | kq + 1 => Nat.lt_of_le_of_lt (nxs_le oq _) h
theorem fwS_f {rdq : Nat → Nat} {prq hiq menq oq : Nat} (h : oq < 2 ^ 20) : ∀ kq xq, (fwS rdq prq hiq menq oq kq).1 = some xq → xq < 2 ^ 20
  | 0, xq, h2 => by cases h2
  | kq + 1, xq, h2 => by
    have h3 : (if _ then _ else _ : Option Nat) = some xq := h2
    split at h3
    · cases h3; exact fwS_s h kq
    · exact fwS_f h kq xq h3
/-! fractions -/
def gcdS : Nat → Int64 → Int64 → Int64
  | 0, xq, _ => xq
  | nq + 1, xq, yq => if yq = 0 then xq else gcdS nq yq (lrm xq yq)
def absL (xq : Int64) : Int64 := if 0 < xq then xq else -xq
def fZ (upq lowq : Int64) : Prop := upq = 0 ∨ lowq ≤ 0 ∨ gcdS 100 (absL upq) lowq ≤ 0
def fU (upq lowq : Int64) : Int64 := if upq = 0 then 0 else if lowq ≤ 0 then 0 else if 0 < gcdS 100 (absL upq) lowq then upq / gcdS 100 (absL upq) lowq else 0
def fL (upq lowq : Int64) : Int64 := if upq = 0 then 1 else if lowq ≤ 0 then 1 else if 0 < gcdS 100 (absL upq) lowq then lowq / gcdS 100 (absL upq) lowq else 1
def atlE (bq dq : Int64) (tz : Bool) : Bool := if bq = dq then true else (decide (bq < dq) != tz)
def atlS : Nat → Int64 → Int64 → Int64 → Int64 → Bool → Bool
  | 0, _, bq, _, dq, tz => atlE bq dq tz
  | nq + 1, aq, bq, cq, dq, tz => if bq ≤ 0 then atlE bq dq tz else if dq ≤ 0 then atlE bq dq tz else if aq / bq = cq / dq then atlS nq bq (lrm aq bq) dq (lrm cq dq) (!tz) else (decide (cq / dq < aq / bq) != tz)
theorem l_ne0 {xq : Int64} (h : 0 < xq) : ¬ xq = 0 := fun e => by rw [e] at h; exact absurd h (by decide)
theorem l_nle {xq yq : Int64} : (¬ xq ≤ yq) ↔ yq < xq := by rw [fa_le64, fa_lt64]; omega
theorem l_nlt {xq yq : Int64} : (¬ xq < yq) ↔ yq ≤ xq := by rw [fa_le64, fa_lt64]; omega
def pctI (upq lowq : Int64) : Int32 := if lowq ≤ 0 then nI 0 else (100 * upq / lowq).toInt32
def cmpI (xq yq : Int64) : Int32 := if yq ≤ xq then (if xq = yq then nI 0 else nI 1) else -1
theorem fwS_keep {rdq : Nat → Nat} {prq hiq menq oq kq : Nat} (h : ¬ (fewB (fwS rdq prq hiq menq oq kq).1 (fwS rdq prq hiq menq oq kq).2 = true ∧ blv rdq (prq ||| (fwS rdq prq hiq menq oq kq).2) hiq 8 &&& menq = 0)) : (fwS rdq prq hiq menq oq (kq + 1)).1 = (fwS rdq prq hiq menq oq kq).1 := by
  show (if _ then _ else _ : Option Nat) = _
  rw [if_neg h]
theorem fwS_take {rdq : Nat → Nat} {prq hiq menq oq kq : Nat} (h : fewB (fwS rdq prq hiq menq oq kq).1 (fwS rdq prq hiq menq oq kq).2 = true ∧ blv rdq (prq ||| (fwS rdq prq hiq menq oq kq).2) hiq 8 &&& menq = 0) : (fwS rdq prq hiq menq oq (kq + 1)).1 = some (fwS rdq prq hiq menq oq kq).2 := by
  show (if _ then _ else _ : Option Nat) = _
  rw [if_pos h]
theorem tstb {prq kq : Nat} : (prq / 2 ^ kq &&& 1 = 1) ↔ prq.testBit kq = true := by
  rw [Nat.and_one_is_mod, Nat.testBit_eq_decide_div_mod_eq, decide_eq_true_eq]
theorem nI_wpow {kq : Nat} (h : kq ≤ 20) : 2 ^ kq ≤ 1048576 := Nat.pow_le_pow_right (by decide) h
def DrO (σ : Sto) (cntq prq trq : Nat) : Prop := (σ 9).1 3 = nI cntq ∧ cntq ≤ 20 ∧ (σ 9).1 4 = nI prq ∧ prq < 2 ^ cntq ∧ (σ 9).1 5 = nI trq ∧ trq < 1048576
def RdO (σ : Sto) (rdq : Nat → Nat) (barq : Nat) : Prop := (σ 10).1 1 = nI barq ∧ barq ≤ 100 ∧ (∀ jq, jq < 8 → (σ 30).1 jq = nI (rdq jq)) ∧ ∀ jq, rdq jq < 1048576
theorem i_nlt {xq yq : Int32} : (¬ xq < yq) ↔ yq ≤ xq := by rw [fa_le, fa_lt]; omega
theorem i_nle {xq yq : Int32} : (¬ xq ≤ yq) ↔ yq < xq := by rw [fa_le, fa_lt]; omega
def hasB (cntq : Nat) (vz : Int32) : Bool := decide ((0 : Int32) ≤ vz) && decide (vz < nI cntq)
theorem fup_n {prq kq : Nat} (h : (fup prq kq).2 < 12) (h2 : prq.testBit kq = false) : nI ((fup prq kq).1 ||| 1 * 2 ^ kq) = nI (fup prq (kq + 1)).1 := by
  show _ = nI (if _ then _ else _ : Nat × Nat).1
  rw [if_pos ⟨h, h2⟩]
theorem fup_n2 {prq kq : Nat} (h : (fup prq kq).2 < 12) (h2 : prq.testBit kq = false) : nI ((fup prq kq).2 + 1) = nI (fup prq (kq + 1)).2 := by
  show _ = nI (if _ then _ else _ : Nat × Nat).2
  rw [if_pos ⟨h, h2⟩]
theorem fup_y {prq kq : Nat} (h2 : prq.testBit kq = true) : nI (fup prq kq).1 = nI (fup prq (kq + 1)).1 := by
  show _ = nI (if _ then _ else _ : Nat × Nat).1
  rw [if_neg (fun zq => by rw [h2] at zq; exact absurd zq.2 (by decide))]
theorem fup_y2 {prq kq : Nat} (h2 : prq.testBit kq = true) : nI (fup prq kq).2 = nI (fup prq (kq + 1)).2 := by
  show _ = nI (if _ then _ else _ : Nat × Nat).2
  rw [if_neg (fun zq => by rw [h2] at zq; exact absurd zq.2 (by decide))]
theorem atlS_s {nq : Nat} {aq bq cq dq : Int64} {tz : Bool} (h1 : ¬ bq ≤ 0) (h2 : ¬ dq ≤ 0) (h3 : aq / bq = cq / dq) : atlS (nq + 1) aq bq cq dq tz = atlS nq bq (lrm aq bq) dq (lrm cq dq) (!tz) := by
  show (if _ then _ else _) = _
  rw [if_neg h1, if_neg h2, if_pos h3]
theorem atlS_d {nq : Nat} {aq bq cq dq : Int64} {tz : Bool} (h1 : ¬ bq ≤ 0) (h2 : ¬ dq ≤ 0) (h3 : ¬ aq / bq = cq / dq) : atlS (nq + 1) aq bq cq dq tz = (decide (cq / dq < aq / bq) != tz) := by
  show (if _ then _ else _) = _
  rw [if_neg h1, if_neg h2, if_neg h3]
theorem atlS_e {nq : Nat} {aq bq cq dq : Int64} {tz : Bool} (h : nq = 0 ∨ bq ≤ 0 ∨ dq ≤ 0) : atlS nq aq bq cq dq tz = atlE bq dq tz := by
  cases nq with
  | zero => rfl
  | succ nq =>
    show (if _ then _ else _) = _
    rcases h with h | h | h
    · omega
    · rw [if_pos h]
    · by_cases h9 : bq ≤ 0
      · rw [if_pos h9]
      · rw [if_neg h9, if_pos h]
def psL (pf2 : Nat → Int32) (prq : Nat) : Nat → Int64
  | 0 => 0
  | kq + 1 => if prq.testBit kq = true then psL pf2 prq kq + (pf2 kq).toInt64 else psL pf2 prq kq
def leanU (pf2 : Nat → Int32) (prq cntq : Nat) : Int64 := psL pf2 prq cntq * (nI cntq).toInt64 - sumL pf2 cntq * (nI (popc prq)).toInt64
def leanD (prq cntq : Nat) : Int64 := (nI (popc prq)).toInt64 * (nI cntq).toInt64
