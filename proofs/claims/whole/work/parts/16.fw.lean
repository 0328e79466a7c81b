section FW
variable {rdq : Nat → Nat} {prq hiq menq oq kq xq : Nat}
theorem fewB_some (sqq : Nat) : fewB (some xq) sqq = decide (popc sqq < popc xq) := rfl
theorem fewB_none (sqq : Nat) : fewB none sqq = true := rfl
theorem opI_some : opI (some xq) = nI xq := rfl
theorem opI_none : opI none = -6 := rfl
theorem fw_A (hfw : (fwS rdq prq hiq menq oq kq).1 = some xq) (h : popc xq ≤ popc (fwS rdq prq hiq menq oq kq).2) : nI xq = opI (fwS rdq prq hiq menq oq (kq + 1)).1 := by
  rw [fwS_keep, hfw, opI_some]
  intro hz
  rw [hfw, fewB_some, decide_eq_true_eq] at hz
  omega
theorem fw_BN (hfw : (fwS rdq prq hiq menq oq kq).1 = some xq) (h : ¬ blv rdq (prq ||| (fwS rdq prq hiq menq oq kq).2) hiq 8 &&& menq = 0) : nI xq = opI (fwS rdq prq hiq menq oq (kq + 1)).1 := by
  rw [fwS_keep (fun hz => h hz.2), hfw, opI_some]
theorem fw_B6 (hfw : (fwS rdq prq hiq menq oq kq).1 = none) (h : ¬ blv rdq (prq ||| (fwS rdq prq hiq menq oq kq).2) hiq 8 &&& menq = 0) : -6 = opI (fwS rdq prq hiq menq oq (kq + 1)).1 := by
  rw [fwS_keep (fun hz => h hz.2), hfw, opI_none]
theorem fw_CN (hfw : (fwS rdq prq hiq menq oq kq).1 = some xq) (h1 : ¬ popc xq ≤ popc (fwS rdq prq hiq menq oq kq).2) (h : blv rdq (prq ||| (fwS rdq prq hiq menq oq kq).2) hiq 8 &&& menq = 0) : nI (fwS rdq prq hiq menq oq kq).2 = opI (fwS rdq prq hiq menq oq (kq + 1)).1 := by
  rw [fwS_take ⟨by rw [hfw, fewB_some, decide_eq_true_eq]; omega, h⟩, opI_some]
theorem fw_C6 (hfw : (fwS rdq prq hiq menq oq kq).1 = none) (h : blv rdq (prq ||| (fwS rdq prq hiq menq oq kq).2) hiq 8 &&& menq = 0) : nI (fwS rdq prq hiq menq oq kq).2 = opI (fwS rdq prq hiq menq oq (kq + 1)).1 := by
  rw [fwS_take ⟨by rw [hfw, fewB_none], h⟩, opI_some]
end FW
