/-! one order after another: the next greater one, none left out -/
def toL (nq : Nat) (xf : Nat → Int32) : List Int32 := (List.range nq).map xf
def fnL (ls : List Int32) : Nat → Int32 := fun iq => ls.getD iq 0
def agr (nq : Nat) (xf x2 : Nat → Int32) : Prop := ∀ iq, iq < nq → xf iq = x2 iq
def lexL (nq : Nat) (xf x2 : Nat → Int32) : Prop := ∃ dq, dq < nq ∧ (∀ iq, iq < dq → xf iq = x2 iq) ∧ (xf dq).toInt < (x2 dq).toInt
def oneW (vz : Int32) : Int32 → Int := fun zz => if zz = vz then 1 else 0
theorem oneW_nn (vz zz : Int32) : 0 ≤ oneW vz zz := by unfold oneW; split <;> omega
theorem ad_mono {wf : Int32 → Int} (hw : ∀ zz, 0 ≤ wf zz) {xf : Nat → Int32} {mq : Nat} : ∀ {nq : Nat}, mq ≤ nq → adF wf xf mq ≤ adF wf xf nq
  | 0, h => by rw [show mq = 0 by omega]; exact Int.le_refl _
  | nq + 1, h => by
    rcases Nat.lt_or_ge nq mq with h1 | h1
    · rw [show mq = nq + 1 by omega]; exact Int.le_refl _
    · have h2 := ad_mono hw (xf := xf) h1
      have h3 := hw (xf nq)
      show adF wf xf mq ≤ adF wf xf nq + wf (xf nq)
      omega
theorem ad_none {vz : Int32} {xf : Nat → Int32} {dq : Nat} : ∀ {nq : Nat}, dq ≤ nq → (∀ jq, dq ≤ jq → jq < nq → ¬ xf jq = vz) → adF (oneW vz) xf nq = adF (oneW vz) xf dq
  | 0, h, _ => by rw [show dq = 0 by omega]
  | nq + 1, h, hn => by
    rcases Nat.lt_or_ge nq dq with h1 | h1
    · rw [show dq = nq + 1 by omega]
    · have h2 := ad_none h1 (fun jq a b => hn jq a (by omega))
      show adF (oneW vz) xf nq + oneW vz (xf nq) = _
      rw [h2, show oneW vz (xf nq) = 0 from if_neg (hn nq h1 (by omega))]
      omega
theorem m1q {nq dq : Nat} {x0 xf gf : Nat → Int32} (hf : oIn nq x0 xf) (hg : oIn nq x0 gf) (hd : dq < nq) (ha : ∀ iq, iq < dq → xf iq = gf iq) : ∃ jq, dq ≤ jq ∧ jq < nq ∧ gf dq = xf jq := by
  refine Classical.byContradiction (fun hc => ?_)
  have h1 : adF (oneW (gf dq)) xf nq = adF (oneW (gf dq)) xf dq := ad_none (by omega) (fun jq a b e => hc ⟨jq, a, b, e.symm⟩)
  have h2 : adF (oneW (gf dq)) gf (dq + 1) ≤ adF (oneW (gf dq)) gf nq := ad_mono (oneW_nn _) hd
  have h3 : adF (oneW (gf dq)) gf (dq + 1) = adF (oneW (gf dq)) gf dq + 1 := by
    show _ + oneW (gf dq) (gf dq) = _
    rw [show oneW (gf dq) (gf dq) = 1 from if_pos rfl]
  have h4 := adF_cong (wf := oneW (gf dq)) ha
  have h5 := hf.2 (oneW (gf dq))
  have h6 := hg.2 (oneW (gf dq))
  omega
theorem fdiff {xf gf : Nat → Int32} : ∀ mq, (∀ iq, iq < mq → xf iq = gf iq) ∨ ∃ dq, dq < mq ∧ (∀ iq, iq < dq → xf iq = gf iq) ∧ ¬ xf dq = gf dq
  | 0 => Or.inl (fun iq h => absurd h (Nat.not_lt_zero iq))
  | mq + 1 => by
    rcases fdiff (xf := xf) (gf := gf) mq with h | ⟨dq, h1, h2, h3⟩
    · by_cases e : xf mq = gf mq
      · exact Or.inl (fun iq hi => by
          rcases Nat.lt_or_ge iq mq with h1 | h1
          · exact h iq h1
          · rw [show iq = mq by omega]; exact e)
      · exact Or.inr ⟨mq, by omega, h, e⟩
    · exact Or.inr ⟨dq, by omega, h2, h3⟩
theorem cmp_up {nq rq : Nat} {x0 bf gf : Nat → Int32} (hb : oIn nq x0 bf) (hg : oIn nq x0 gf) (ha : ∀ iq, iq < rq → bf iq = gf iq) (hs : ∀ aq bq, rq ≤ aq → aq ≤ bq → bq < nq → (bf aq).toInt ≤ (bf bq).toInt) : agr nq bf gf ∨ lexL nq bf gf := by
  rcases fdiff (xf := bf) (gf := gf) nq with h | ⟨dq, h1, h2, h3⟩
  · exact Or.inl h
  · right
    have hr : rq ≤ dq := by
      rcases Nat.lt_or_ge dq rq with h | h
      · exact absurd (ha dq h) h3
      · exact h
    obtain ⟨jq, j1, j2, j3⟩ := m1q hb hg h1 h2
    have h4 := hs dq jq hr j1 j2
    refine ⟨dq, h1, h2, ?_⟩
    have h5 : ¬ (bf dq).toInt = (gf dq).toInt := fun e => h3 (Int32.toInt_inj.mp e)
    rw [← j3] at h4
    omega
theorem ri_spec (xf : Nat → Int32) : ∀ mq, (0 < riS xf mq → xf (riS xf mq - 1) < xf (riS xf mq)) ∧ ∀ kq, riS xf mq ≤ kq → kq < mq → ¬ xf kq < xf (kq + 1)
  | 0 => ⟨fun h => absurd h (Nat.lt_irrefl 0), fun kq _ h => absurd h (Nat.not_lt_zero kq)⟩
  | mq + 1 => by
    obtain ⟨a1, a2⟩ := ri_spec xf mq
    by_cases h : xf mq < xf (mq + 1)
    · rw [riS_y h]
      exact ⟨fun _ => h, fun kq h1 h2 => by omega⟩
    · rw [riS_n h]
      refine ⟨a1, fun kq h1 h2 => ?_⟩
      rcases Nat.lt_or_ge kq mq with h3 | h3
      · exact a2 kq h1 h3
      · rw [show kq = mq by omega]; exact h
theorem noninc {xf : Nat → Int32} {rq mq : Nat} (h : ∀ kq, rq ≤ kq → kq < mq → ¬ xf kq < xf (kq + 1)) : ∀ bq aq, rq ≤ aq → aq ≤ bq → bq ≤ mq → (xf bq).toInt ≤ (xf aq).toInt
  | 0, aq, _, h2, _ => by rw [show aq = 0 by omega]; exact Int.le_refl _
  | bq + 1, aq, h1, h2, h3 => by
    rcases Nat.lt_or_ge bq aq with h4 | h4
    · rw [show aq = bq + 1 by omega]; exact Int.le_refl _
    · have h5 := noninc h bq aq h1 h4 (by omega)
      have h6 := h bq (by omega) (by omega)
      rw [fa_lt] at h6
      omega
theorem gr_spec {xf : Nat → Int32} {rq : Nat} (h0 : xf rq < xf (rq + 1)) : ∀ mq, rq < mq → rq < grS xf rq mq ∧ xf rq < xf (grS xf rq mq) ∧ ∀ jq, grS xf rq mq < jq → jq ≤ mq → ¬ xf rq < xf jq
  | 0, h => absurd h (Nat.not_lt_zero rq)
  | mq + 1, h => by
    by_cases h1 : xf rq < xf (mq + 1)
    · rw [grS_b h1]
      exact ⟨h, h1, fun jq a b => by omega⟩
    · rw [grS_c (by omega) h1]
      have h2 : rq < mq := by
        rcases Nat.lt_or_ge rq mq with q | q
        · exact q
        · rw [show mq = rq by omega] at h1; exact absurd h0 h1
      obtain ⟨a1, a2, a3⟩ := gr_spec h0 mq h2
      refine ⟨a1, a2, fun jq j1 j2 => ?_⟩
      rcases Nat.lt_or_ge mq jq with q | q
      · rw [show jq = mq + 1 by omega]; exact h1
      · exact a3 jq j1 q
theorem swp_l {xf : Nat → Int32} {iq jq : Nat} : swp xf iq jq jq = xf iq := pk_us
theorem swp_i {xf : Nat → Int32} {iq jq : Nat} (h : iq ≠ jq) : swp xf iq jq iq = xf jq := by unfold swp; rw [pk_un h, pk_us]
theorem swp_o {xf : Nat → Int32} {iq jq kq : Nat} (h : kq ≠ iq) (h2 : kq ≠ jq) : swp xf iq jq kq = xf kq := by unfold swp; rw [pk_un h2, pk_un h]
theorem rv_val : ∀ (fuq : Nat) (xf : Nat → Int32) (iq jq kq : Nat), jq < iq + 2 * fuq → rvS fuq xf iq jq kq = if iq ≤ kq ∧ kq ≤ jq then xf (iq + jq - kq) else xf kq
  | 0, xf, iq, jq, kq, h => by
    rw [if_neg (by omega)]
    rfl
  | fuq + 1, xf, iq, jq, kq, h => by
    by_cases h1 : jq ≤ iq
    · rw [rvS_n h1]
      by_cases h2 : iq ≤ kq ∧ kq ≤ jq
      · rw [if_pos h2, show iq + jq - kq = kq by omega]
      · rw [if_neg h2]
    · rw [rvS_y h1, rv_val fuq _ (iq + 1) (jq - 1) kq (by omega)]
      by_cases h2 : iq + 1 ≤ kq ∧ kq ≤ jq - 1
      · rw [if_pos h2, if_pos (by omega), show iq + 1 + (jq - 1) - kq = iq + jq - kq by omega, swp_o (by omega) (by omega)]
      · rw [if_neg h2]
        by_cases h3 : kq = iq
        · subst h3; rw [if_pos (by omega), swp_i (by omega), show kq + jq - kq = jq by omega]
        · by_cases h4 : kq = jq
          · subst h4; rw [if_pos (by omega), swp_l, show iq + kq - kq = iq by omega]
          · rw [if_neg (by omega), swp_o h3 h4]
theorem oIn_rv {nq : Nat} {x0 : Nat → Int32} : ∀ (fuq : Nat) {xf : Nat → Int32} {iq jq : Nat}, oIn nq x0 xf → jq < nq → oIn nq x0 (rvS fuq xf iq jq)
  | 0, _, _, _, h, _ => h
  | fuq + 1, xf, iq, jq, h, hj => by
    by_cases h1 : jq ≤ iq
    · rw [rvS_n h1]; exact h
    · rw [rvS_y h1]; exact oIn_rv fuq (oIn_swp h (by omega) hj) (by omega)
theorem oIn_nx {nq : Nat} {x0 xf : Nat → Int32} (hn : 1 ≤ nq) (h : oIn nq x0 xf) : oIn nq x0 (nxS xf nq) := by
  have h1 := riS_le xf (nq - 1)
  have h2 := grS_le xf (riS xf (nq - 1) - 1) (nq - 1)
  unfold nxS
  split
  · exact h
  · exact oIn_rv 24 (oIn_swp h (by omega) (by omega)) (by omega)
theorem nx_succ {nq : Nat} {x0 xf : Nat → Int32} (hn : 1 ≤ nq) (hn2 : nq ≤ 24) (hf : oIn nq x0 xf) (hr : 0 < riS xf (nq - 1)) : lexL nq xf (nxS xf nq) ∧ ∀ gf, oIn nq x0 gf → lexL nq xf gf → agr nq (nxS xf nq) gf ∨ lexL nq (nxS xf nq) gf := by
  have hle := riS_le xf (nq - 1)
  obtain ⟨s1, s2⟩ := ri_spec xf (nq - 1)
  have hb := oIn_nx hn hf
  generalize hrq : riS xf (nq - 1) = rq at *
  have s1 := s1 hr
  have hg := gr_spec (xf := xf) (rq := rq - 1) (by rw [show rq - 1 + 1 = rq by omega]; exact s1) (nq - 1) (by omega)
  have hgl := grS_le xf (rq - 1) (nq - 1)
  have hnx : nxS xf nq = rvS 24 (swp xf (rq - 1) (grS xf (rq - 1) (nq - 1))) rq (nq - 1) := by
    unfold nxS
    rw [hrq, if_neg (by omega)]
  generalize grS xf (rq - 1) (nq - 1) = gq at *
  obtain ⟨g1, g2, g3⟩ := hg
  have ni := noninc s2
  have val : ∀ kq, nxS xf nq kq = if rq ≤ kq ∧ kq ≤ nq - 1 then swp xf (rq - 1) gq (rq + (nq - 1) - kq) else swp xf (rq - 1) gq kq := fun kq => by rw [hnx]; exact rv_val 24 _ rq (nq - 1) kq (by omega)
  have vlo : ∀ kq, kq < rq - 1 → nxS xf nq kq = xf kq := fun kq hk => by rw [val, if_neg (by omega), swp_o (by omega) (by omega)]
  have vr : nxS xf nq (rq - 1) = xf gq := by rw [val, if_neg (by omega), swp_i (by omega)]
  rw [fa_lt] at s1 g2
  have hsw : ∀ aq bq, rq ≤ aq → aq ≤ bq → bq ≤ nq - 1 → (swp xf (rq - 1) gq bq).toInt ≤ (swp xf (rq - 1) gq aq).toInt := by
    intro aq bq h1 h2 h3
    by_cases e1 : bq = gq
    · subst e1
      rw [swp_l]
      by_cases e2 : aq = bq
      · subst e2; rw [swp_l]; exact Int.le_refl _
      · rw [swp_o (by omega) e2]
        have := ni bq aq h1 h2 h3
        omega
    · rw [swp_o (by omega) e1]
      by_cases e2 : aq = gq
      · subst e2
        rw [swp_l]
        have := g3 bq (by omega) h3
        rw [fa_lt] at this
        omega
      · rw [swp_o (by omega) e2]
        exact ni bq aq h1 h2 h3
  have hup : ∀ aq bq, rq ≤ aq → aq ≤ bq → bq < nq → (nxS xf nq aq).toInt ≤ (nxS xf nq bq).toInt := by
    intro aq bq h1 h2 h3
    rw [val aq, val bq, if_pos (by omega), if_pos (by omega)]
    exact hsw _ _ (by omega) (by omega) (by omega)
  refine ⟨⟨rq - 1, by omega, fun iq hi => (vlo iq hi).symm, by rw [vr]; exact g2⟩, ?_⟩
  rintro gf hgf ⟨dq, d1, d2, d3⟩
  rcases Nat.lt_or_ge dq (rq - 1) with h1 | h1
  · exact Or.inr ⟨dq, d1, fun iq hi => by rw [vlo iq (by omega)]; exact d2 iq hi, by rw [vlo dq h1]; exact d3⟩
  · obtain ⟨jq, j1, j2, j3⟩ := m1q hf hgf d1 d2
    rcases Nat.lt_or_ge dq rq with h2 | h2
    · have e : dq = rq - 1 := by omega
      subst e
      have hj : rq ≤ jq := by
        rcases Nat.lt_or_ge jq rq with q | q
        · rw [show jq = rq - 1 by omega] at j3
          rw [j3] at d3; omega
        · exact q
      have hjg : jq ≤ gq := by
        rcases Nat.lt_or_ge gq jq with q | q
        · have := g3 jq q (by omega)
          rw [fa_lt, ← j3] at this
          omega
        · exact q
      have h3 := ni gq jq hj hjg hgl
      rw [← j3] at h3
      by_cases e : xf gq = gf (rq - 1)
      · refine cmp_up (rq := rq) hb hgf (fun iq hi => ?_) hup
        rcases Nat.lt_or_ge iq (rq - 1) with q | q
        · rw [vlo iq q]; exact d2 iq q
        · rw [show iq = rq - 1 by omega, vr]; exact e
      · refine Or.inr ⟨rq - 1, d1, fun iq hi => by rw [vlo iq hi]; exact d2 iq hi, ?_⟩
        rw [vr]
        have : ¬ (xf gq).toInt = (gf (rq - 1)).toInt := fun z => e (Int32.toInt_inj.mp z)
        omega
    · have h3 := ni jq dq h2 j1 (by omega)
      rw [← j3] at h3
      omega
theorem nx_last {nq : Nat} {x0 xf gf : Nat → Int32} (hf : oIn nq x0 xf) (hg : oIn nq x0 gf) (hr : riS xf (nq - 1) = 0) : ¬ lexL nq xf gf := by
  rintro ⟨dq, d1, d2, d3⟩
  have s2 := (ri_spec xf (nq - 1)).2
  rw [hr] at s2
  obtain ⟨jq, j1, j2, j3⟩ := m1q hf hg d1 d2
  have h3 := noninc s2 jq dq (Nat.zero_le _) j1 (by omega)
  rw [← j3] at h3
  omega
/-! the first order -/
theorem ins_up : ∀ (iq : Nat) {xf : Nat → Int32} {eq1 : Nat}, iq ≤ eq1 → (∀ aq bq, aq < bq → bq ≤ eq1 → aq ≠ iq → bq ≠ iq → (xf aq).toInt ≤ (xf bq).toInt) → (∀ bq, iq < bq → bq ≤ eq1 → (xf iq).toInt ≤ (xf bq).toInt) → ∀ aq bq, aq < bq → bq ≤ eq1 → (insS iq xf aq).toInt ≤ (insS iq xf bq).toInt
  | 0, xf, eq1, hi, h1, h2, aq, bq, ha, hb => by
    show (xf aq).toInt ≤ (xf bq).toInt
    by_cases e : aq = 0
    · subst e; exact h2 bq ha hb
    · exact h1 aq bq ha hb e (by omega)
  | iq + 1, xf, eq1, hi, h1, h2, aq, bq, ha, hb => by
    by_cases h : xf iq ≤ xf (iq + 1)
    · rw [insS_n h]
      rw [fa_le] at h
      by_cases e1 : aq = iq + 1
      · subst e1; exact h2 bq ha hb
      · by_cases e2 : bq = iq + 1
        · subst e2
          by_cases e3 : aq = iq
          · subst e3; exact h
          · have := h1 aq iq (by omega) (by omega) e1 (by omega)
            omega
        · exact h1 aq bq ha hb e1 e2
    · rw [insS_y h]
      rw [fa_le] at h
      refine ins_up iq (by omega) (fun cq dq hc hd c1 d1 => ?_) (fun dq hd1 hd2 => ?_) aq bq ha hb
      · by_cases e1 : cq = iq + 1
        · subst e1; rw [swp_l, swp_o d1 (by omega)]; exact h1 iq dq (by omega) hd (by omega) (by omega)
        · rw [swp_o c1 e1]
          by_cases e2 : dq = iq + 1
          · subst e2; rw [swp_l]; exact h1 cq iq (by omega) (by omega) e1 (by omega)
          · rw [swp_o d1 e2]; exact h1 cq dq hc hd e1 e2
      · rw [swp_i (by omega)]
        by_cases e2 : dq = iq + 1
        · subst e2; rw [swp_l]; omega
        · rw [swp_o (by omega) e2]; exact h2 dq (by omega) hd2
theorem sr_up (xf : Nat → Int32) : ∀ mq aq bq, aq < bq → bq < mq → (srS xf mq aq).toInt ≤ (srS xf mq bq).toInt
  | 0, aq, bq, _, h => absurd h (Nat.not_lt_zero bq)
  | mq + 1, aq, bq, h1, h2 => ins_up mq (Nat.le_refl mq) (fun cq dq hc hd c1 d1 => sr_up xf mq cq dq hc (by omega)) (fun dq a b => absurd a (by omega)) aq bq h1 (by omega)
theorem oIn_ins {nq : Nat} {x0 : Nat → Int32} : ∀ (iq : Nat) {xf : Nat → Int32}, iq < nq → oIn nq x0 xf → oIn nq x0 (insS iq xf)
  | 0, _, _, h => h
  | iq + 1, xf, hi, h => by
    by_cases h1 : xf iq ≤ xf (iq + 1)
    · rw [insS_n h1]; exact h
    · rw [insS_y h1]; exact oIn_ins iq (by omega) (oIn_swp h (by omega) hi)
theorem oIn_sr {nq : Nat} {x0 : Nat → Int32} : ∀ mq, mq ≤ nq → oIn nq x0 (srS x0 mq)
  | 0, _ => oIn_rfl
  | mq + 1, h => oIn_ins mq (by omega) (oIn_sr mq (by omega))
