theorem hasB_t {cntq : Nat} (hc : cntq ≤ 20) {tz : Int32} (h : hasB cntq tz = true) : tz = nI tz.toNatClampNeg ∧ tz.toNatClampNeg < cntq := by
  unfold hasB at h
  rw [Bool.and_eq_true, decide_eq_true_eq, decide_eq_true_eq] at h
  obtain ⟨jq, hj, rfl⟩ := nI_of (i_nlt.mpr h.1)
  rw [nI_clamp hj]
  exact ⟨rfl, (nI_ltI hj (by omega)).mp h.2⟩
def lstR (fwq : Option Nat) (wz : Int32) : Int32 := match fwq with
  | none => -5
  | some xq => if wz = 0 then nI xq else nI (popc xq)
theorem trial_ag {σ τq : Sto} {cz cdq : Nat} {az bz dz ez : Int32} (h : τq cz = σ cz) : sti (sti (sti (sti τq 27 cdq az) 28 cdq bz) 29 cdq dz) 9 3 ez cz = sti (sti (sti (sti σ 27 cdq az) 28 cdq bz) 29 cdq dz) 9 3 ez cz := by
  by_cases h1 : cz = 9
  · subst h1; simp [sti, stc, h]
  · by_cases h2 : cz = 29
    · subst h2; simp [sti, stc, h]
    · by_cases h3 : cz = 28
      · subst h3; simp [sti, stc, h]
      · by_cases h4 : cz = 27
        · subst h4; simp [sti, stc, h]
        · rw [sti_ne h1, sti_ne h2, sti_ne h3, sti_ne h4, sti_ne h1, sti_ne h2, sti_ne h3, sti_ne h4, h]
