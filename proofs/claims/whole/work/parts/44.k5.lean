/-! the model's later years told shortly; trials that may be printed -/
def fhL (dfq : Nat → Int32) (y0q : Nat) : Nat := (fgS (yeF dfq y0q) (gcnt dfq y0q) (nuF dfq y0q) 2 11).1
def fhK (dfq : Nat → Int32) (y0q : Nat) : Nat × Nat := lkS (yeF dfq y0q) (gcnt dfq y0q) (fhL dfq y0q) (nuF dfq y0q) dfq y0q (24 - y0q)
theorem fhK_le (dfq : Nat → Int32) (y0q : Nat) : (fhK dfq y0q).1 ≤ (fhK dfq y0q).2 ∧ (fhK dfq y0q).2 ≤ 24 - y0q := lkS_le _
theorem c_X10_fhN (l : Launch) (G : Gl) (σ : Sto) (sn : Nat → Nat) (cntq : Nat) (hp : PadM σ sn cntq) (hyb : ∀ rq, rq < 6 → BdF (yrF σ rq)) (rq : Nat) (hrq : rq < 6) (y0q : Nat) (hy0 : 4 ≤ y0q ∧ y0q ≤ 22) (hno : fltF sn cntq 21 0 = none) : CtV l G yX10_findHeld cX10_findHeld 13 none 5 115 [.ref (gad G 11), .int (nI rq), .int (nI y0q)] σ (fun σ' => (σ' 11).1 14 = nI (fhL (dlM σ sn cntq rq) y0q) ∧ (σ' 11).1 15 = nI (fhK (dlM σ sn cntq rq) y0q).1 ∧ (σ' 11).1 16 = nI (fhK (dlM σ sn cntq rq) y0q).2 ∧ keepM σ σ') :=
  (c_X10_findHeld l G σ sn cntq hp hyb rq hrq y0q hy0 hno).mono (fun τq h => by unfold fhK fhL; exact h)
/-! the k-th of all ways to choose -/
def sbq : Nat → Nat → Nat → Nat
  | 0, _, _ => 0
  | wq + 1, oq, kq => if oq % 2 = 1 then 2 * sbq wq (oq / 2) (kq / 2) + kq % 2 else 2 * sbq wq (oq / 2) kq
theorem sb_0 : ∀ (wq oq : Nat), sbq wq oq 0 = 0
  | 0, _ => rfl
  | wq + 1, oq => by
    unfold sbq
    rw [Nat.zero_div, sb_0 wq (oq / 2)]
    split <;> rfl
theorem sb_lt : ∀ (wq oq kq : Nat), sbq wq oq kq < 2 ^ wq
  | 0, _, _ => by show 0 < 1; decide
  | wq + 1, oq, kq => by
    have h1 := sb_lt wq (oq / 2) (kq / 2)
    have h2 := sb_lt wq (oq / 2) kq
    unfold sbq
    rw [Nat.pow_succ]
    split <;> omega
theorem and_2 (aq bq : Nat) : aq &&& bq = 2 * (aq / 2 &&& bq / 2) + (aq % 2 &&& bq % 2) := by
  have h1 := Nat.and_mod_two_pow (a := aq) (b := bq) (n := 1)
  have h2 := Nat.and_div_two_pow (a := aq) (b := bq) (n := 1)
  rw [show (2 : Nat) ^ 1 = 2 from rfl] at h1 h2
  rw [← h1, ← h2]
  omega
theorem sb_le : ∀ (wq oq kq : Nat), sbq wq oq kq ≤ oq
  | 0, oq, _ => Nat.zero_le oq
  | wq + 1, oq, kq => by
    have h1 := sb_le wq (oq / 2) (kq / 2)
    have h2 := sb_le wq (oq / 2) kq
    unfold sbq
    split <;> omega
theorem sb_sub : ∀ (wq oq kq : Nat), oq < 2 ^ wq → (sbq wq oq kq + 2 ^ wq - oq - 1) &&& oq = sbq wq oq kq
  | 0, oq, kq, h => by
    obtain rfl : oq = 0 := by simpa using h
    rw [Nat.and_zero]
    rfl
  | wq + 1, oq, kq, h => by
    have hp : 2 ^ (wq + 1) = 2 * 2 ^ wq := by rw [Nat.pow_succ]; omega
    have ho : oq / 2 < 2 ^ wq := by omega
    rw [and_2]
    by_cases h1 : oq % 2 = 1
    · have e0 : sbq (wq + 1) oq kq = 2 * sbq wq (oq / 2) (kq / 2) + kq % 2 := if_pos h1
      have ih := sb_sub wq (oq / 2) (kq / 2) ho
      rw [e0, hp, show 2 * sbq wq (oq / 2) (kq / 2) + kq % 2 + 2 * 2 ^ wq - oq - 1 = 2 * (sbq wq (oq / 2) (kq / 2) + 2 ^ wq - oq / 2 - 1) + kq % 2 by omega, show (2 * (sbq wq (oq / 2) (kq / 2) + 2 ^ wq - oq / 2 - 1) + kq % 2) / 2 = sbq wq (oq / 2) (kq / 2) + 2 ^ wq - oq / 2 - 1 by omega, show (2 * (sbq wq (oq / 2) (kq / 2) + 2 ^ wq - oq / 2 - 1) + kq % 2) % 2 = kq % 2 by omega, ih, h1, Nat.and_one_is_mod]
      omega
    · have e0 : sbq (wq + 1) oq kq = 2 * sbq wq (oq / 2) kq := if_neg h1
      have ih := sb_sub wq (oq / 2) kq ho
      rw [e0, hp, show 2 * sbq wq (oq / 2) kq + 2 * 2 ^ wq - oq - 1 = 2 * (sbq wq (oq / 2) kq + 2 ^ wq - oq / 2 - 1) + 1 by omega, show (2 * (sbq wq (oq / 2) kq + 2 ^ wq - oq / 2 - 1) + 1) / 2 = sbq wq (oq / 2) kq + 2 ^ wq - oq / 2 - 1 by omega, ih, show oq % 2 = 0 by omega, Nat.and_zero]
      omega
/-- the next way, in a world of wq bits -/
theorem sb_nx : ∀ (wq oq kq : Nat), oq < 2 ^ wq → (sbq wq oq kq + 2 ^ wq - oq) &&& oq = sbq wq oq (kq + 1)
  | 0, oq, kq, h => by
    obtain rfl : oq = 0 := by simpa using h
    rw [Nat.and_zero]
    rfl
  | wq + 1, oq, kq, h => by
    have hp : 2 ^ (wq + 1) = 2 * 2 ^ wq := by rw [Nat.pow_succ]; omega
    have ho : oq / 2 < 2 ^ wq := by omega
    rw [and_2]
    by_cases h1 : oq % 2 = 1
    · have e0 : sbq (wq + 1) oq kq = 2 * sbq wq (oq / 2) (kq / 2) + kq % 2 := if_pos h1
      have e1 : sbq (wq + 1) oq (kq + 1) = 2 * sbq wq (oq / 2) ((kq + 1) / 2) + (kq + 1) % 2 := if_pos h1
      rw [e0, e1, hp]
      by_cases h2 : kq % 2 = 0
      · have ih := sb_sub wq (oq / 2) (kq / 2) ho
        rw [h2, show (kq + 1) / 2 = kq / 2 by omega, show (kq + 1) % 2 = 1 by omega, h1, show 2 * sbq wq (oq / 2) (kq / 2) + 0 + 2 * 2 ^ wq - oq = 2 * (sbq wq (oq / 2) (kq / 2) + 2 ^ wq - oq / 2 - 1) + 1 by omega, show (2 * (sbq wq (oq / 2) (kq / 2) + 2 ^ wq - oq / 2 - 1) + 1) / 2 = sbq wq (oq / 2) (kq / 2) + 2 ^ wq - oq / 2 - 1 by omega, show (2 * (sbq wq (oq / 2) (kq / 2) + 2 ^ wq - oq / 2 - 1) + 1) % 2 = 1 by omega, ih]
        rfl
      · have ih := sb_nx wq (oq / 2) (kq / 2) ho
        rw [show kq % 2 = 1 by omega, show (kq + 1) / 2 = kq / 2 + 1 by omega, show (kq + 1) % 2 = 0 by omega, h1, show 2 * sbq wq (oq / 2) (kq / 2) + 1 + 2 * 2 ^ wq - oq = 2 * (sbq wq (oq / 2) (kq / 2) + 2 ^ wq - oq / 2) by omega, show 2 * (sbq wq (oq / 2) (kq / 2) + 2 ^ wq - oq / 2) / 2 = sbq wq (oq / 2) (kq / 2) + 2 ^ wq - oq / 2 by omega, show 2 * (sbq wq (oq / 2) (kq / 2) + 2 ^ wq - oq / 2) % 2 = 0 by omega, ih]
        rfl
    · have e0 : sbq (wq + 1) oq kq = 2 * sbq wq (oq / 2) kq := if_neg h1
      have e1 : sbq (wq + 1) oq (kq + 1) = 2 * sbq wq (oq / 2) (kq + 1) := if_neg h1
      have ih := sb_nx wq (oq / 2) kq ho
      rw [e0, e1, hp, show 2 * sbq wq (oq / 2) kq + 2 * 2 ^ wq - oq = 2 * (sbq wq (oq / 2) kq + 2 ^ wq - oq / 2) by omega, show 2 * (sbq wq (oq / 2) kq + 2 ^ wq - oq / 2) / 2 = sbq wq (oq / 2) kq + 2 ^ wq - oq / 2 by omega, ih, show oq % 2 = 0 by omega, Nat.and_zero, Nat.add_zero]
theorem sb_z : ∀ (wq oq kq : Nat), (sbq wq oq kq = 0) ↔ kq % 2 ^ popN wq oq = 0
  | 0, oq, kq => by
    show (0 = 0) ↔ kq % 2 ^ 0 = 0
    rw [Nat.pow_zero, Nat.mod_one]
  | wq + 1, oq, kq => by
    have e : popN (wq + 1) oq = oq % 2 + popN wq (oq / 2) := rfl
    rw [e]
    by_cases h1 : oq % 2 = 1
    · have e0 : sbq (wq + 1) oq kq = 2 * sbq wq (oq / 2) (kq / 2) + kq % 2 := if_pos h1
      have ih := sb_z wq (oq / 2) (kq / 2)
      rw [e0, h1, Nat.pow_add, Nat.pow_one, Nat.mod_mul]
      omega
    · have e0 : sbq (wq + 1) oq kq = 2 * sbq wq (oq / 2) kq := if_neg h1
      have ih := sb_z wq (oq / 2) kq
      rw [e0, show oq % 2 = 0 by omega, Nat.zero_add, ← ih]
      omega
theorem fw_sb {rdq : Nat → Nat} {prq hiq menq oq : Nat} (h : oq < 2 ^ 20) : ∀ kq, (fwS rdq prq hiq menq oq kq).2 = sbq 32 oq kq
  | 0 => (sb_0 32 oq).symm
  | kq + 1 => by
    show nxs oq (fwS rdq prq hiq menq oq kq).2 = _
    rw [fw_sb h kq]
    exact sb_nx 32 oq kq (by omega)
theorem fw_z {rdq : Nat → Nat} {prq hiq menq oq kq : Nat} (h : oq < 2 ^ 20) (h2 : kq < 2 ^ popc oq) : (nxs oq (fwS rdq prq hiq menq oq kq).2 = 0) ↔ ¬ kq + 1 < 2 ^ popc oq := by
  have e : nxs oq (fwS rdq prq hiq menq oq kq).2 = sbq 32 oq (kq + 1) := fw_sb (rdq := rdq) (prq := prq) (hiq := hiq) (menq := menq) h (kq + 1)
  rw [e, sb_z, popN_hi h (by decide)]
  show (kq + 1) % 2 ^ popc oq = 0 ↔ _
  rcases Nat.lt_or_ge (kq + 1) (2 ^ popc oq) with h3 | h3
  · rw [Nat.mod_eq_of_lt h3]; omega
  · rw [show kq + 1 = 2 ^ popc oq by omega, Nat.mod_self]; omega
theorem fup_or {prq cntq : Nat} (hc : cntq ≤ 20) (hp : prq < 2 ^ cntq) {sqq : Nat} (hs : sqq ≤ (fup prq cntq).1) : prq ||| sqq < 2 ^ cntq := or_lt hp (Nat.lt_of_le_of_lt hs (fup_lt prq cntq))
