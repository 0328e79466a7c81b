/-! a step of the model's way through all orders -/
theorem nm_79 {s0q σ τq : Sto} {dfq : Nat → Int32} {endq : Nat} {xf : Nat → Int32} (h : NmX s0q σ dfq endq xf) (hk : ∀ cz, cz ≠ 79 → τq cz = σ cz) : NmX s0q τq dfq endq xf := by
  obtain ⟨a1, a2, a3, a4, a5⟩ := h
  refine ⟨?_, ?_, ?_, ?_, ?_⟩
  · rw [hk 11 (by decide)]; exact a1
  · rw [hk 75 (by decide)]; exact a2
  · rw [hk 76 (by decide)]; exact a3
  · rw [hk 73 (by decide)]; exact a4
  · exact keepM_two a5 (fun cz h1 => hk cz (by omega))
theorem nm_cong {s0q σ : Sto} {dfq : Nat → Int32} {endq : Nat} {xf x2 : Nat → Int32} (h : NmX s0q σ dfq endq xf) (he : ∀ jq, jq < gcnt dfq endq → xf jq = x2 jq) : NmX s0q σ dfq endq x2 :=
  ⟨h.1, h.2.1, fun jq hj => (h.2.2.1 jq hj).trans (he jq hj), h.2.2.2.1, h.2.2.2.2⟩
theorem c_X10_grK (l : Launch) (G : Gl) (σ : Sto) (s0q : Sto) (dfq : Nat → Int32) (endq : Nat) (hend : 1 ≤ endq ∧ endq ≤ 24) (xf : Nat → Int32) (hnm : NmX s0q σ dfq endq xf) (f1q t1q : Nat) (hft : 2 ≤ f1q ∧ f1q ≤ t1q ∧ t1q ≤ 12) : CtL l G yX10_greatestOf cX10_greatestOf 8 (some .long) 2 49 [.ref (gad G 11), .int (nI f1q), .int (nI t1q)] σ (fun r σ' => r = mxU (yeF dfq endq) (gcnt dfq endq) xf f1q (t1q - f1q) ∧ NmX s0q σ' dfq endq xf ∧ σ' 79 = σ 79) :=
  (c_X10_greatestOf l G σ (yeF dfq endq) (gcnt dfq endq) hnm.1 (Nat.le_trans (gcnt_le dfq endq) hend.2) hnm.2.1 (fun jq => by have := yeF_lt (df := dfq) endq hend.1 jq; omega) _ rfl f1q t1q hft).mono (fun r τq h => ⟨h.1.trans (mx_cong hnm.2.2.1 _), nm_keep hnm h.2, h.2 79 (by decide) (by decide)⟩)
theorem s0_t {nq iq : Nat} (h : iq < nq) : (hS0 nq).getD (1 + iq) 0 = 0 := by
  unfold hS0
  rw [Nat.add_comm 1 iq, List.getD_cons_succ, List.getD_eq_getElem?_getD, List.getElem?_append_left (by rw [List.length_replicate]; exact h), List.getElem?_replicate, if_pos h]
  rfl
theorem s0_p {nq iq : Nat} (h : iq < nq) : (hS0 nq).getD (1 + nq + iq) 0 = iq := by
  unfold hS0
  rw [show 1 + nq + iq = (nq + iq) + 1 by omega, List.getD_cons_succ, List.getD_eq_getElem?_getD, List.getElem?_append_right (by rw [List.length_replicate]; omega), List.length_replicate, show nq + iq - nq = iq by omega, List.getElem?_range h]
  rfl
section STq
variable {nq kq tq1 : Nat} {ls : List Nat}
theorem st_y (hl : ls.length = 2 * nq + 1) (h0 : ls.getD 0 0 = kq) (hk : kq < nq) (ht : ls.getD (1 + kq) 0 = tq1) (h : tq1 < kq) : (hStp nq ls).getD 0 0 = 0 ∧ (∀ iq, iq < nq → (hStp nq ls).getD (1 + iq) 0 = if kq = iq then tq1 + 1 else ls.getD (1 + iq) 0) ∧ ∀ iq, iq < nq → (hStp nq ls).getD (1 + nq + iq) 0 = if kq = iq then ls.getD (1 + nq + xaq kq tq1) 0 else if xaq kq tq1 = iq then ls.getD (1 + nq + kq) 0 else ls.getD (1 + nq + iq) 0 := by
  have ha := xa_lt h
  unfold hStp
  rw [h0, ht, if_pos hk, if_pos h]
  generalize xaq kq tq1 = aq at *
  refine ⟨?_, fun iq hi => ?_, fun iq hi => ?_⟩
  · rw [gd_set _ _ _ _ (by simp only [List.length_set]; omega), if_neg (by omega), gd_set _ _ _ _ (by simp only [List.length_set]; omega), if_neg (by omega), gd_set _ _ _ _ (by simp only [List.length_set]; omega), if_pos rfl]
  · rw [gd_set _ _ _ _ (by simp only [List.length_set]; omega), if_neg (by omega), gd_set _ _ _ _ (by simp only [List.length_set]; omega), if_neg (by omega), gd_set _ _ _ _ (by simp only [List.length_set]; omega), if_neg (by omega), gd_set _ _ _ _ (by omega)]
    by_cases e : kq = iq
    · rw [if_pos (by omega), if_pos e]
    · rw [if_neg (by omega), if_neg e]
  · rw [gd_set _ _ _ _ (by simp only [List.length_set]; omega)]
    by_cases e : kq = iq
    · rw [if_pos (by omega), if_pos e]
    · rw [if_neg (by omega), if_neg e, gd_set _ _ _ _ (by simp only [List.length_set]; omega)]
      by_cases e2 : aq = iq
      · rw [if_pos (by omega), if_pos e2]
      · rw [if_neg (by omega), if_neg e2, gd_set _ _ _ _ (by simp only [List.length_set]; omega), if_neg (by omega), gd_set _ _ _ _ (by omega), if_neg (by omega)]
theorem st_n (hl : ls.length = 2 * nq + 1) (h0 : ls.getD 0 0 = kq) (hk : kq < nq) (ht : ls.getD (1 + kq) 0 = tq1) (h : ¬ tq1 < kq) : (hStp nq ls).getD 0 0 = kq + 1 ∧ (∀ iq, iq < nq → (hStp nq ls).getD (1 + iq) 0 = if kq = iq then 0 else ls.getD (1 + iq) 0) ∧ ∀ iq, iq < nq → (hStp nq ls).getD (1 + nq + iq) 0 = ls.getD (1 + nq + iq) 0 := by
  unfold hStp
  rw [h0, ht, if_pos hk, if_neg h]
  refine ⟨?_, fun iq hi => ?_, fun iq hi => ?_⟩
  · rw [gd_set _ _ _ _ (by simp only [List.length_set]; omega), if_pos rfl]
  · rw [gd_set _ _ _ _ (by simp only [List.length_set]; omega), if_neg (by omega), gd_set _ _ _ _ (by omega)]
    by_cases e : kq = iq
    · rw [if_pos (by omega), if_pos e]
    · rw [if_neg (by omega), if_neg e]
  · rw [gd_set _ _ _ _ (by simp only [List.length_set]; omega), if_neg (by omega), gd_set _ _ _ _ (by omega), if_neg (by omega)]
theorem ex_e (hm : ∀ aq, aq ∈ ls → aq < 8) (h0 : ls.getD 0 0 = kq) (ht : ls.getD (1 + kq) 0 = tq1) : exq nq (encq ls) = (Nat.blt kq nq && Nat.blt tq1 kq) := by
  have e0 : encq ls % 8 = kq := by
    have := enc_dig ls 0 hm
    rw [Nat.pow_zero, Nat.div_one, h0] at this
    exact this
  unfold exq
  rw [e0, enc_dig ls (1 + kq) hm, ht]
theorem ex_y (hm : ∀ aq, aq ∈ ls → aq < 8) (h0 : ls.getD 0 0 = kq) (hk : kq < nq) (ht : ls.getD (1 + kq) 0 = tq1) (h : tq1 < kq) : exq nq (encq ls) = true := by
  rw [ex_e hm h0 ht, show Nat.blt kq nq = true from Nat.ble_eq_true_of_le hk, show Nat.blt tq1 kq = true from Nat.ble_eq_true_of_le h]
  rfl
theorem ex_n (hm : ∀ aq, aq ∈ ls → aq < 8) (h0 : ls.getD 0 0 = kq) (ht : ls.getD (1 + kq) 0 = tq1) (h : ¬ tq1 < kq) : exq nq (encq ls) = false := by
  rw [ex_e hm h0 ht]
  cases hb : Nat.blt tq1 kq with
  | true => exact absurd (Nat.le_of_ble_eq_true hb) h
  | false => exact Bool.and_false _
theorem od_x {x0 : Nat → Int32} (hl : ls.length = 2 * nq + 1) (h0 : ls.getD 0 0 = kq) (hk : kq < nq) (ht : ls.getD (1 + kq) 0 = tq1) (h : tq1 < kq) : ∀ iq, iq < nq → swp (xD x0 nq ls) (xaq kq tq1) kq iq = xD x0 nq (hStp nq ls) iq := fun iq hi => by
  obtain ⟨b1, b2, b3⟩ := st_y hl h0 hk ht h
  have ha := xa_lt h
  have eK9 : xD x0 nq (hStp nq ls) iq = x0 ((hStp nq ls).getD (1 + nq + iq) 0) := rfl
  rw [eK9, b3 iq hi]
  by_cases e : kq = iq
  · subst e
    rw [if_pos rfl, swp_l]
    rfl
  · rw [if_neg e]
    by_cases e2 : xaq kq tq1 = iq
    · rw [if_pos e2, ← e2, swp_i (by omega)]
      rfl
    · rw [if_neg e2, swp_o (Ne.symm e2) (Ne.symm e)]
      rfl
end STq
section ODq
variable {yrq : Nat → Nat} {nq f1q wq jq kq tq1 goq : Nat} {x0 : Nat → Int32}
theorem od_mx (h7 : nq ≤ 7) (h0 : (itL nq jq).getD 0 0 = kq) (hk : kq < nq) (ht : (itL nq jq).getD (1 + kq) 0 = tq1) (h : tq1 < kq) : mxU yrq nq (swp (xD x0 nq (itL nq jq)) (xaq kq tq1) kq) f1q wq = mxU yrq nq (xP x0 (encq (itL nq (jq + 1)) / 8 ^ (1 + nq))) f1q wq :=
  mx_cong (fun iq hi => (od_x (hOk_it h7 jq).1 h0 hk ht h iq hi).trans (xP_D (hOk_it h7 (jq + 1)).2 iq).symm) wq
theorem od_g (h7 : nq ≤ 7) (h0 : (itL nq jq).getD 0 0 = kq) (hk : kq < nq) (ht : (itL nq jq).getD (1 + kq) 0 = tq1) (h : tq1 < kq) (hgo : (visM nq jq).countP (gdOrd yrq nq f1q wq x0) = goq) (hg : decide (loF nq x0 = 0) = true ∨ mxU yrq nq x0 f1q wq ≤ mxU yrq nq (swp (xD x0 nq (itL nq jq)) (xaq kq tq1) kq) f1q wq) : (visM nq (jq + 1)).countP (gdOrd yrq nq f1q wq x0) = goq + 1 := by
  have e : gdOrd yrq nq f1q wq x0 (encq (itL nq (jq + 1)) / 8 ^ (1 + nq)) = true := by
    unfold gdOrd
    rcases hg with z | z
    · rw [z]; rfl
    · rw [od_mx h7 h0 hk ht h] at z
      rw [decide_eq_true z, Bool.or_true]
  rw [vis_y (ex_y (hOk_it h7 jq).2 h0 hk ht h), List.countP_cons, hgo, if_pos e]
theorem od_b (h7 : nq ≤ 7) (h0 : (itL nq jq).getD 0 0 = kq) (hk : kq < nq) (ht : (itL nq jq).getD (1 + kq) 0 = tq1) (h : tq1 < kq) (hgo : (visM nq jq).countP (gdOrd yrq nq f1q wq x0) = goq) (hz : decide (loF nq x0 = 0) = false) (hg : mxU yrq nq (swp (xD x0 nq (itL nq jq)) (xaq kq tq1) kq) f1q wq < mxU yrq nq x0 f1q wq) : (visM nq (jq + 1)).countP (gdOrd yrq nq f1q wq x0) = goq + 0 := by
  have e : gdOrd yrq nq f1q wq x0 (encq (itL nq (jq + 1)) / 8 ^ (1 + nq)) = false := by
    unfold gdOrd
    rw [od_mx h7 h0 hk ht h] at hg
    rw [hz, decide_eq_false (l_nle.mpr hg)]
    rfl
  rw [vis_y (ex_y (hOk_it h7 jq).2 h0 hk ht h), List.countP_cons, hgo, if_neg (by rw [e]; decide)]
theorem od_l (h7 : nq ≤ 7) (h0 : (itL nq jq).getD 0 0 = kq) (hk : kq < nq) (ht : (itL nq jq).getD (1 + kq) 0 = tq1) (h : tq1 < kq) (hal : (visM nq jq).length = goq) : (visM nq (jq + 1)).length = goq + 1 := by
  rw [vis_y (ex_y (hOk_it h7 jq).2 h0 hk ht h), List.length_cons, hal]
theorem od_k (h7 : nq ≤ 7) (h0 : (itL nq jq).getD 0 0 = kq) (ht : (itL nq jq).getD (1 + kq) 0 = tq1) (h : ¬ tq1 < kq) : visM nq (jq + 1) = visM nq jq := vis_n (ex_n (hOk_it h7 jq).2 h0 ht h)
theorem od_s {jq : Nat} (h1 : 1 ≤ nq) (h7 : nq ≤ 7) (hj : jq ≤ tmq nq) (h0 : (itL nq jq).getD 0 0 = kq) (hk : kq < nq) : jq < tmq nq := by
  rcases Nat.lt_or_ge jq (tmq nq) with q | q
  · exact q
  · rw [show jq = tmq nq by omega, (it_T h1 h7).1] at h0
    omega
theorem od_e {jq : Nat} (h1 : 1 ≤ nq) (h7 : nq ≤ 7) (hj : jq ≤ tmq nq) (h0 : (itL nq jq).getD 0 0 = kq) (hk : nq ≤ kq) : jq = tmq nq := by
  rcases Nat.lt_or_ge jq (tmq nq) with q | q
  · have := (it_T h1 h7).2 jq q
    omega
  · omega
end ODq
def OdI (s0q τq : Sto) (dfq : Nat → Int32) (jq : Nat) : Prop := NmX s0q τq dfq 24 (xD (nuF dfq 24) (gcnt dfq 24) (itL (gcnt dfq 24) jq)) ∧ ∀ iq, iq < gcnt dfq 24 → (τq 79).1 iq = nI ((itL (gcnt dfq 24) jq).getD (1 + iq) 0)
section OIq
variable {s0q τq ρq : Sto} {dfq : Nat → Int32} {jq kq tq1 : Nat}
theorem od_0 (hn : NmX s0q τq dfq 24 (nuF dfq 24)) (hz : ∀ iq, iq < gcnt dfq 24 → (τq 79).1 iq = nI 0) : OdI s0q τq dfq 0 := by
  refine ⟨nm_cong hn (fun iq hi => ?_), fun iq hi => ?_⟩
  · show _ = nuF dfq 24 ((hS0 (gcnt dfq 24)).getD (1 + gcnt dfq 24 + iq) 0)
    rw [s0_p hi]
  · show _ = nI ((hS0 (gcnt dfq 24)).getD (1 + iq) 0)
    rw [s0_t hi]
    exact hz iq hi
theorem od_y (h7 : gcnt dfq 24 ≤ 7) (ho : OdI s0q τq dfq jq) (h0 : (itL (gcnt dfq 24) jq).getD 0 0 = kq) (hk : kq < gcnt dfq 24) (ht : (itL (gcnt dfq 24) jq).getD (1 + kq) 0 = tq1) (h : tq1 < kq) (hn : NmX s0q ρq dfq 24 (swp (xD (nuF dfq 24) (gcnt dfq 24) (itL (gcnt dfq 24) jq)) (xaq kq tq1) kq)) (h79 : ρq 79 = τq 79) : OdI s0q (sti ρq 79 kq (nI (tq1 + 1))) dfq (jq + 1) := by
  obtain ⟨b1, b2, b3⟩ := st_y (hOk_it h7 jq).1 h0 hk ht h
  refine ⟨nm_cong (nm_79 hn (fun cz hc => sti_ne hc)) (od_x (hOk_it h7 jq).1 h0 hk ht h), fun iq hi => ?_⟩
  have eK9 : (sti ρq 79 kq (nI (tq1 + 1)) 79).1 = upd (τq 79).1 kq (nI (tq1 + 1)) := by rw [← h79]; simp [sti, stc]
  have e8 : (itL (gcnt dfq 24) (jq + 1)).getD (1 + iq) 0 = (hStp (gcnt dfq 24) (itL (gcnt dfq 24) jq)).getD (1 + iq) 0 := rfl
  rw [eK9, e8, b2 iq hi]
  by_cases e : kq = iq
  · subst e; rw [if_pos rfl, pk_us]
  · rw [if_neg e, pk_un (Ne.symm e)]; exact ho.2 iq hi
theorem od_n (h7 : gcnt dfq 24 ≤ 7) (ho : OdI s0q τq dfq jq) (h0 : (itL (gcnt dfq 24) jq).getD 0 0 = kq) (hk : kq < gcnt dfq 24) (ht : (itL (gcnt dfq 24) jq).getD (1 + kq) 0 = tq1) (h : ¬ tq1 < kq) : OdI s0q (sti τq 79 kq (nI 0)) dfq (jq + 1) := by
  obtain ⟨b1, b2, b3⟩ := st_n (hOk_it h7 jq).1 h0 hk ht h
  refine ⟨nm_cong (nm_79 ho.1 (fun cz hc => sti_ne hc)) (fun iq hi => ?_), fun iq hi => ?_⟩
  · show nuF dfq 24 _ = nuF dfq 24 ((hStp (gcnt dfq 24) (itL (gcnt dfq 24) jq)).getD (1 + gcnt dfq 24 + iq) 0)
    rw [b3 iq hi]
  have eK9 : (sti τq 79 kq (nI 0) 79).1 = upd (τq 79).1 kq (nI 0) := by simp [sti, stc]
  have e8 : (itL (gcnt dfq 24) (jq + 1)).getD (1 + iq) 0 = (hStp (gcnt dfq 24) (itL (gcnt dfq 24) jq)).getD (1 + iq) 0 := rfl
  rw [eK9, e8, b2 iq hi]
  by_cases e : kq = iq
  · subst e; rw [if_pos rfl, pk_us]
  · rw [if_neg e, pk_un (Ne.symm e)]; exact ho.2 iq hi
theorem od_k0 (h7 : gcnt dfq 24 ≤ 7) (h0 : (itL (gcnt dfq 24) jq).getD 0 0 = kq) (hk : kq < gcnt dfq 24) (ht : (itL (gcnt dfq 24) jq).getD (1 + kq) 0 = tq1) (h : tq1 < kq) : (itL (gcnt dfq 24) (jq + 1)).getD 0 0 = 0 := (st_y (hOk_it h7 jq).1 h0 hk ht h).1
theorem od_k1 (h7 : gcnt dfq 24 ≤ 7) (h0 : (itL (gcnt dfq 24) jq).getD 0 0 = kq) (hk : kq < gcnt dfq 24) (ht : (itL (gcnt dfq 24) jq).getD (1 + kq) 0 = tq1) (h : ¬ tq1 < kq) : (itL (gcnt dfq 24) (jq + 1)).getD 0 0 = kq + 1 := (st_n (hOk_it h7 jq).1 h0 hk ht h).1
theorem od_z (hn : NmX s0q τq dfq 24 (nuF dfq 24)) : NmX s0q (sti τq 79 kq (nI 0)) dfq 24 (nuF dfq 24) := nm_79 hn (fun cz hc => sti_ne hc)
theorem od_z2 (hz : ∀ iq, iq < kq → (τq 79).1 iq = nI 0) : ∀ iq, iq < kq + 1 → (sti τq 79 kq (nI 0) 79).1 iq = nI 0 := fun iq hi => by
  have eK9 : (sti τq 79 kq (nI 0) 79).1 = upd (τq 79).1 kq (nI 0) := by simp [sti, stc]
  rw [eK9]
  by_cases e : iq = kq
  · subst e; exact pk_us
  · rw [pk_un e]; exact hz iq (by omega)
end OIq
theorem i2l_bd (vz : Int32) : -(2 ^ 62 : Int) ≤ vz.toInt64.toInt ∧ vz.toInt64.toInt ≤ 2 ^ 62 := by
  rw [Int32.toInt_toInt64]
  have h1 := vz.le_toInt
  have h2 := vz.toInt_lt
  omega
