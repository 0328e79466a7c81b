theorem ck_6 : chkV 6 = true ∧ chkT 6 = true := by decide +kernel
theorem ck_7v : chkV 7 = true := by decide +kernel
theorem ck_7t : chkT 7 = true := by decide +kernel
theorem ck_all : ∀ nq, 1 ≤ nq → nq ≤ 7 → chkV nq = true ∧ chkT nq = true
  | 0, h, _ => absurd h (by decide)
  | 1, _, _ => ck_1
  | 2, _, _ => ck_2
  | 3, _, _ => ck_3
  | 4, _, _ => ck_4
  | 5, _, _ => ck_5
  | 6, _, _ => ck_6
  | 7, _, _ => ⟨ck_7v, ck_7t⟩
  | nq + 8, _, h => absurd h (by omega)
