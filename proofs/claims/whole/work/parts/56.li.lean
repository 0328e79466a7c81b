/-! class and model side by side in one store -/
def LI (σ : Sto) (sn : Nat → Nat) (cntq : Nat) (rdq : Nat → Nat) (barq cdq prq trq : Nat) : Prop := PadO σ sn cntq ∧ PadM σ sn cntq ∧ RdO σ rdq barq ∧ RdM σ rdq barq ∧ DrO σ cdq prq trq ∧ DrM σ cdq prq trq ∧ (∀ rq, rq < 6 → (σ (13 + rq)).1 = yrF σ rq) ∧ (∀ rq, rq < 6 → BdF (yrF σ rq)) ∧ (σ 27).1 = (σ 81).1 ∧ (σ 28).1 = (σ 82).1 ∧ (σ 29).1 = (σ 83).1
def LIx (σ : Sto) : Prop := ∃ sn cntq rdq barq cdq prq trq, LI σ sn cntq rdq barq cdq prq trq
def kpL (cz : Nat) : Prop := cz = 1 ∨ (9 ≤ cz ∧ cz ≤ 10) ∨ (13 ≤ cz ∧ cz ≤ 19) ∨ (27 ≤ cz ∧ cz ≤ 30) ∨ (71 ≤ cz ∧ cz ≤ 72) ∨ (81 ≤ cz ∧ cz ≤ 84)
def kpF (kq : Nat) : Prop := kq = 2 ∨ kq = 20 ∨ kq = 21 ∨ kq = 23 ∨ kq = 24
def smK (σ τq : Sto) : Prop := (∀ cz, kpL cz → τq cz = σ cz) ∧ ∀ kq, kpF kq → (τq 11).1 kq = (σ 11).1 kq
theorem sk_rfl {σ : Sto} : smK σ σ := ⟨fun _ _ => rfl, fun _ _ => rfl⟩
theorem sk_C {σ τq : Sto} (h : keepC σ τq) : smK σ τq := ⟨fun cz hc => h cz (fun hs => by unfold kpL at hc; unfold scrC at hs; omega), fun kq _ => by rw [h 11 (fun hs => by unfold scrC at hs; omega)]⟩
theorem sk_M {σ τq : Sto} (h : keepM σ τq) : smK σ τq := ⟨fun cz hc => h.1 cz (by unfold kpL at hc; omega) (by unfold kpL at hc; omega), fun kq hk => h.2 kq (by unfold kpF at hk; omega) (by unfold kpF at hk; omega) (by unfold kpF at hk; omega) (by unfold kpF at hk; omega)⟩
theorem sk_tr {σ τq ρq : Sto} (h : smK σ τq) (h2 : smK τq ρq) : smK σ ρq := ⟨fun cz hc => (h2.1 cz hc).trans (h.1 cz hc), fun kq hk => (h2.2 kq hk).trans (h.2 kq hk)⟩
section LIq
variable {σ τq : Sto} {sn : Nat → Nat} {cntq : Nat} {rdq : Nat → Nat} {barq cdq prq trq : Nat}
theorem padO_mv (h : PadO σ sn cntq) (h1 : τq 1 = σ 1) (h2 : τq 19 = σ 19) : PadO τq sn cntq := by unfold PadO at *; rw [h1, h2]; exact h
theorem padM_mv (h : PadM σ sn cntq) (h1 : (τq 11).1 2 = (σ 11).1 2) (h2 : τq 72 = σ 72) : PadM τq sn cntq := by unfold PadM at *; rw [h1, h2]; exact h
theorem rdO_mv (h : RdO σ rdq barq) (h1 : τq 10 = σ 10) (h2 : τq 30 = σ 30) : RdO τq rdq barq := by unfold RdO at *; rw [h1, h2]; exact h
theorem rdM_mv (h : RdM σ rdq barq) (h1 : (τq 11).1 23 = (σ 11).1 23) (h2 : τq 84 = σ 84) : RdM τq rdq barq := by unfold RdM at *; rw [h1, h2]; exact h
theorem drO_mv (h : DrO σ cdq prq trq) (h1 : τq 9 = σ 9) : DrO τq cdq prq trq := by unfold DrO at *; rw [h1]; exact h
theorem drM_mv (h : DrM σ cdq prq trq) (h1 : (τq 11).1 21 = (σ 11).1 21) (h2 : (τq 11).1 20 = (σ 11).1 20) (h3 : (τq 11).1 24 = (σ 11).1 24) : DrM τq cdq prq trq := by unfold DrM at *; rw [h1, h2, h3]; exact h
theorem yr_mv (h : τq 71 = σ 71) (rq : Nat) : yrF τq rq = yrF σ rq := by unfold yrF; rw [h]
theorem LI_mv (h : LI σ sn cntq rdq barq cdq prq trq) (hk : smK σ τq) : LI τq sn cntq rdq barq cdq prq trq := by
  obtain ⟨a1, a2, a3, a4, a5, a6, a7, a8, a9, a10, a11⟩ := h
  have kc := fun cz (hz : kpL cz) => hk.1 cz hz
  refine ⟨padO_mv a1 (kc 1 (by unfold kpL; omega)) (kc 19 (by unfold kpL; omega)), padM_mv a2 (hk.2 2 (by unfold kpF; omega)) (kc 72 (by unfold kpL; omega)), rdO_mv a3 (kc 10 (by unfold kpL; omega)) (kc 30 (by unfold kpL; omega)), rdM_mv a4 (hk.2 23 (by unfold kpF; omega)) (kc 84 (by unfold kpL; omega)), drO_mv a5 (kc 9 (by unfold kpL; omega)), drM_mv a6 (hk.2 21 (by unfold kpF; omega)) (hk.2 20 (by unfold kpF; omega)) (hk.2 24 (by unfold kpF; omega)), fun rq hr => ?_, fun rq hr => ?_, ?_, ?_, ?_⟩
  · rw [kc (13 + rq) (by unfold kpL; omega), yr_mv (kc 71 (by unfold kpL; omega))]; exact a7 rq hr
  · rw [yr_mv (kc 71 (by unfold kpL; omega))]; exact a8 rq hr
  · rw [kc 27 (by unfold kpL; omega), kc 81 (by unfold kpL; omega)]; exact a9
  · rw [kc 28 (by unfold kpL; omega), kc 82 (by unfold kpL; omega)]; exact a10
  · rw [kc 29 (by unfold kpL; omega), kc 83 (by unfold kpL; omega)]; exact a11
theorem dl_e (h : LI σ sn cntq rdq barq cdq prq trq) (hk : smK σ τq) {rq : Nat} (hr : rq < 6) : dlF σ sn cntq rq = dlM τq sn cntq rq := by
  unfold dlF dlM
  rw [h.2.2.2.2.2.2.1 rq hr, yr_mv (hk.1 71 (by unfold kpL; omega))]
theorem dl_bd (h : LI σ sn cntq rdq barq cdq prq trq) {rq : Nat} (hr : rq < 6) : BdF (dlM σ sn cntq rq) := bd_deal 21 0 (h.2.2.2.2.2.2.2.1 rq hr)
end LIq
theorem if_dl {Pz : Prop} [Decidable Pz] {α : Type} {az bz cz : α} (h : Pz → az = bz) : (if Pz then az else cz) = (if Pz then bz else cz) := by
  by_cases z : Pz
  · rw [if_pos z, if_pos z, h z]
  · rw [if_neg z, if_neg z]
theorem in5 {rz : Int32} (h : inB (nI 0) (nI 5) rz = true) : rz.toNatClampNeg < 6 := by
  have := (inB_nI (n := 5) (by decide) h).2
  omega
theorem row_lt {rz : Int32} {b2q : Bool} {flq : Option Nat} (h : refI (inB (nI 0) (nI 5) rz) b2q flq = 0) : rz.toNatClampNeg < 6 := in5 (refI_z h).1
theorem row_lt2 {rz sz : Int32} {b2q : Bool} {flq : Option Nat} (h : refI (inB (nI 0) (nI 5) rz && inB (nI 0) (nI 5) sz) b2q flq = 0) : rz.toNatClampNeg < 6 ∧ sz.toNatClampNeg < 6 := by
  have h1 := (refI_z h).1
  rw [Bool.and_eq_true] at h1
  exact ⟨in5 h1.1, in5 h1.2⟩
/-! cells that hold the same below their length -/
theorem arr_ext {cA : ClassId} {nq : Nat} {fq gq : Nat → Int32} (h : ∀ jq, jq < nq → fq jq = gq jq) : vp_cell cA (nq, .inl fq) = vp_cell cA (nq, .inl gq) := by
  rw [vp_cell_i, vp_cell_i]
  unfold arrV
  congr 1
  apply Array.ext
  · rw [Array.size_ofFn, Array.size_ofFn]
  · intro iq h1 h2
    rw [Array.getElem_ofFn, Array.getElem_ofFn]
    rw [Array.size_ofFn] at h1
    exact congrArg Value.int (h iq h1)
def nrm (σ : Sto) : Sto := fun cz => if 13 ≤ cz ∧ cz < 19 then (yrF σ (cz - 13), (σ cz).2) else σ cz
theorem nrm_o {σ : Sto} {cz : Nat} (h : ¬ (13 ≤ cz ∧ cz < 19)) : nrm σ cz = σ cz := if_neg h
theorem nrm_r {σ : Sto} {rq : Nat} (h : rq < 6) : (nrm σ (13 + rq)).1 = yrF σ rq := by
  unfold nrm
  rw [if_pos (by omega), show 13 + rq - 13 = rq by omega]
theorem nrm_P {G : Gl} {σ : Sto} {H : Heap} (hr : ∀ rq, rq < 6 → ∀ yq, yq < 24 → (σ (13 + rq)).1 yq = yrF σ rq yq) (h : va_P G.1 classes (wld G σ) H) : va_P G.1 classes (wld G (nrm σ)) H := by
  intro kq q hq
  have hk : kq < 85 := by
    have := (List.getElem?_eq_some_iff.mp hq).1
    rw [wld_len] at this
    exact this
  rw [wld_at hk] at hq
  have h0 := h kq _ (wld_at hk)
  by_cases hc : 13 ≤ kq ∧ kq < 19
  · cases hq
    obtain ⟨rq, rfl⟩ : ∃ rq, kq = 13 + rq := ⟨kq - 13, by omega⟩
    have hr6 : rq < 6 := by omega
    have hcell : ∀ x : Cn, cellE G (13 + rq) x = .inl (gI G, 24, .inl x.1) := fun x => by
      have h6 : rq = 0 ∨ rq = 1 ∨ rq = 2 ∨ rq = 3 ∨ rq = 4 ∨ rq = 5 := by omega
      rcases h6 with rfl | rfl | rfl | rfl | rfl | rfl <;> rfl
    rw [hcell] at h0 ⊢
    show H[_]? = some (vp_cell _ (24, .inl _))
    rw [nrm_r hr6, ← arr_ext (hr rq hr6)]
    exact h0
  · rw [nrm_o hc] at hq
    cases hq
    exact h0
