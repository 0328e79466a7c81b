/-! THE PAD: signs as naturals -/
def digs (c : Nat) : Option Nat := if c = 99 then some 4 else if c = 100 then some 0 else if c = 108 then some 1 else if c = 115 then some 1 else if c = 116 then some 2 else none
def dgI (c : Nat) : Int32 := match digs c with
  | some k => nI k
  | none => -6
def digI (sn : Nat → Nat) (cnt j : Nat) : Int32 := if j < cnt ∧ 48 ≤ sn j ∧ sn j ≤ 57 then nI (sn j - 48) else -6
def twoN (sn : Nat → Nat) (j : Nat) : Nat := 10 * (sn j - 48) + (sn (j + 1) - 48)
def fst2 (sn : Nat → Nat) (at_ i : Nat) : Nat := if 2 < i then twoN sn (at_ + 1) else 0
def canY (sn : Nat → Nat) (at_ i d : Nat) : Bool := if i % 2 = 1 then (decide (10 * d < 24) && decide (fst2 sn at_ i ≤ 10 * d + 9)) else (decide (fst2 sn at_ i ≤ 10 * (sn (at_ + i - 1) - 48) + d) && decide (10 * (sn (at_ + i - 1) - 48) + d ≤ 23))
def canS (sn : Nat → Nat) (at_ i : Nat) : Bool := decide (48 ≤ sn (at_ + i) ∧ sn (at_ + i) ≤ 57) && (if sn at_ = 108 then decide (1 ≤ sn (at_ + i) - 48) else if sn at_ = 115 then (decide (2 ≤ sn (at_ + i) - 48) && decide (sn (at_ + i) - 48 ≤ 5)) else canY sn at_ i (sn (at_ + i) - 48))
def badD (sn : Nat → Nat) (cnt at_ : Nat) : Nat → Nat → Option Nat
  | 0, _ => none
  | r + 1, i => if cnt ≤ at_ + i then some cnt else if canS sn at_ i = true then badD sn cnt at_ r (i + 1) else some (at_ + i)
def fltF (sn : Nat → Nat) (cnt : Nat) : Nat → Nat → Option Nat
  | 0, _ => none
  | f + 1, at_ => if at_ < cnt then (match digs (sn at_) with
    | none => some at_
    | some dg => match badD sn cnt at_ dg 1 with
      | some p => some p
      | none => fltF sn cnt f (at_ + 1 + dg)) else none
def fltI (sn : Nat → Nat) (cnt : Nat) : Int32 := match fltF sn cnt 21 0 with
  | some p => nI p
  | none => -6
def PadO (σ : Sto) (sn : Nat → Nat) (cnt : Nat) : Prop := (σ 1).1 1 = nI cnt ∧ cnt ≤ 20 ∧ (∀ j, j < cnt → (σ 19).1 j = nI (sn j)) ∧ ∀ j, sn j < 127
theorem digI_ok {sn : Nat → Nat} {cnt j : Nat} (h : j < cnt) (h1 : 48 ≤ sn j) (h2 : sn j ≤ 57) : digI sn cnt j = nI (sn j - 48) := if_pos ⟨h, h1, h2⟩
theorem digI_no {sn : Nat → Nat} {cnt j : Nat} (h : ¬ (48 ≤ sn j ∧ sn j ≤ 57)) : digI sn cnt j = -6 := if_neg (fun q => h q.2)
theorem nI_ne6 {k : Nat} (h : k < 2 ^ 31) : ¬ nI k = -6 := fun e => by
  have := congrArg Int32.toInt e
  rw [nI_toInt h] at this
  have h6 : (-6 : Int32).toInt = -6 := by decide
  omega
theorem digs_le {c k : Nat} (h : digs c = some k) : k ≤ 4 := by
  unfold digs at h
  repeat' split at h
  all_goals first | (cases h; omega) | cases h
theorem fst2_lt {sn : Nat → Nat} (h : ∀ j, sn j < 127) (at_ i : Nat) : fst2 sn at_ i < 1000 := by
  unfold fst2 twoN
  have := h (at_ + 1)
  have := h (at_ + 1 + 1)
  split <;> omega
theorem canS_dig {sn : Nat → Nat} {at_ i : Nat} (h : canS sn at_ i = true) : 48 ≤ sn (at_ + i) ∧ sn (at_ + i) ≤ 57 := by
  unfold canS at h
  rw [Bool.and_eq_true, decide_eq_true_eq] at h
  exact h.1
theorem badD_t {sn : Nat → Nat} {cntq aq rq iq : Nat} (h : ¬ cntq ≤ aq + iq) (h2 : canS sn aq iq = true) : badD sn cntq aq (rq + 1) iq = badD sn cntq aq rq (iq + 1) := by
  show (if cntq ≤ aq + iq then _ else _) = _
  rw [if_neg h, if_pos h2]
