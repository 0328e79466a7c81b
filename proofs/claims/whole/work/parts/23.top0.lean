/-! the class's calls: what they compute, what they leave -/
def dlF (σ : Sto) (sn : Nat → Nat) (cntq rq : Nat) : Nat → Int32 := dealW sn cntq 21 0 (σ (13 + rq)).1
def nuF (df : Nat → Int32) (endq : Nat) : Nat → Int32 := gnum df (fun _ => 0) endq
def yeF (df : Nat → Int32) : Nat → (Nat → Nat)
  | 0 => fun _ => 0
  | kq + 1 => if df kq = -1000000 then yeF df kq else updN (yeF df kq) (gcnt df kq) kq
theorem ag_mix {gq g2 fq f2 : Nat → Int32} {aq bq : Nat} (h : ∀ yq, yq < 24 → fq yq = f2 yq) (h2 : ∀ yq, yq < 24 → gq yq = g2 yq) : ∀ yq, yq < 24 → mix gq fq aq bq yq = mix g2 f2 aq bq yq := by
  intro yq hy
  unfold mix
  rw [h yq hy, h2 yq hy]
theorem ag_at {fq f2 : Nat → Int32} (h : ∀ yq, yq < 24 → fq yq = f2 yq) (pz : Int32) : atI fq pz = atI f2 pz := by
  unfold atI
  split
  · rename_i h1
    exact h _ (by have := (inB_nI (n := 23) (by decide) h1).2; omega)
  · rfl
theorem ag_sm {fq f2 : Nat → Int32} (h : ∀ yq, yq < 24 → fq yq = f2 yq) (jq : Nat) : ∀ mq, smA fq jq mq = smA f2 jq mq
  | 0 => rfl
  | mq + 1 => by
    unfold smA
    rw [ag_sm h jq mq, ag_at h]
theorem ag_step {sn : Nat → Nat} {aq : Nat} {fq f2 : Nat → Int32} (h : ∀ yq, yq < 24 → fq yq = f2 yq) : ∀ yq, yq < 24 → stepF sn aq fq yq = stepF sn aq f2 yq := by
  intro yq hy
  unfold stepF
  split
  · exact ag_mix h (fun zq _ => by unfold smF; rw [ag_sm h]) yq hy
  · split
    · exact ag_mix h (fun zq _ => by unfold lagF; rw [ag_at h]) yq hy
    · split
      · exact ag_mix h (fun zq hz => by unfold trnF; rw [h zq hz]) yq hy
      · split
        · exact ag_mix h (fun zq hz => by unfold cutF; rw [h zq hz]) yq hy
        · split
          · exact ag_mix h (fun zq hz => by unfold difF; rw [h zq hz, ag_at h]) yq hy
          · exact h yq hy
theorem ag_deal {sn : Nat → Nat} {cntq : Nat} : ∀ (nq aq : Nat) {fq f2 : Nat → Int32}, (∀ yq, yq < 24 → fq yq = f2 yq) → ∀ yq, yq < 24 → dealW sn cntq nq aq fq yq = dealW sn cntq nq aq f2 yq
  | 0, _, _, _, h => h
  | nq + 1, aq, fq, f2, h => by
    intro yq hy
    unfold dealW
    split
    · exact ag_deal nq _ (ag_step h) yq hy
    · exact h yq hy
theorem ag_cnt {fq f2 : Nat → Int32} : ∀ {kq : Nat}, (∀ yq, yq < kq → fq yq = f2 yq) → gcnt fq kq = gcnt f2 kq
  | 0, _ => rfl
  | kq + 1, h => by
    unfold gcnt
    rw [ag_cnt (fun yq hy => h yq (Nat.lt_succ_of_lt hy)), h kq (Nat.lt_succ_self kq)]
theorem ag_num {fq f2 gq g2 : Nat → Int32} : ∀ {kq : Nat}, (∀ yq, yq < kq → fq yq = f2 yq) → ∀ jq, jq < gcnt fq kq → gnum fq gq kq jq = gnum f2 g2 kq jq
  | 0, _, jq, hj => absurd hj (Nat.not_lt_zero jq)
  | kq + 1, h, jq, hj => by
    have h0 : ∀ yq, yq < kq → fq yq = f2 yq := fun yq hy => h yq (Nat.lt_succ_of_lt hy)
    have e := h kq (Nat.lt_succ_self kq)
    have hc := ag_cnt h0
    by_cases h1 : fq kq = -1000000
    · rw [gnum_g h1, gnum_g (by rw [← e]; exact h1)]
      rw [gcnt_g h1] at hj
      exact ag_num h0 jq hj
    · rw [gnum_n h1, gnum_n (by rw [← e]; exact h1), ← hc, ← e]
      rw [gcnt_n h1] at hj
      by_cases h2 : jq = gcnt fq kq
      · subst h2; rw [pk_us, pk_us]
      · rw [pk_un h2, pk_un h2]
        exact ag_num h0 jq (by omega)
theorem ag_yr {fq f2 gq : Nat → Int32} : ∀ {kq : Nat}, (∀ yq, yq < kq → fq yq = f2 yq) → ∀ jq, jq < gcnt fq kq → gyr fq gq kq jq = nI (yeF f2 kq jq)
  | 0, _, jq, hj => absurd hj (Nat.not_lt_zero jq)
  | kq + 1, h, jq, hj => by
    have h0 : ∀ yq, yq < kq → fq yq = f2 yq := fun yq hy => h yq (Nat.lt_succ_of_lt hy)
    have e := h kq (Nat.lt_succ_self kq)
    have hc := ag_cnt h0
    unfold yeF
    by_cases h1 : fq kq = -1000000
    · rw [gyr_g h1, if_pos (by rw [← e]; exact h1)]
      rw [gcnt_g h1] at hj
      exact ag_yr h0 jq hj
    · rw [gyr_n h1, if_neg (by rw [← e]; exact h1), ← hc]
      rw [gcnt_n h1] at hj
      by_cases h2 : jq = gcnt fq kq
      · subst h2; rw [pk_us, show updN (yeF f2 kq) (gcnt fq kq) kq (gcnt fq kq) = kq from if_pos rfl]
      · rw [pk_un h2, show updN (yeF f2 kq) (gcnt fq kq) kq jq = yeF f2 kq jq from if_neg h2]
        exact ag_yr h0 jq (by omega)
theorem yeF_lt {df : Nat → Int32} : ∀ kq, 1 ≤ kq → ∀ jq, yeF df kq jq < kq
  | 0, h => absurd h (by decide)
  | kq + 1, _ => by
    intro jq
    unfold yeF
    split
    · rcases Nat.eq_zero_or_pos kq with h | h
      · subst h; exact Nat.zero_lt_one
      · have := yeF_lt (df := df) kq h jq; omega
    · show (if _ then _ else _) < _
      split
      · omega
      · rcases Nat.eq_zero_or_pos kq with h | h
        · subst h; exact Nat.zero_lt_one
        · have := yeF_lt (df := df) kq h jq; omega
theorem sum_cong {xf x2 : Nat → Int32} : ∀ {nq : Nat}, (∀ jq, jq < nq → xf jq = x2 jq) → sumL xf nq = sumL x2 nq
  | 0, _ => rfl
  | nq + 1, h => by
    unfold sumL
    rw [sum_cong (fun jq hj => h jq (Nat.lt_succ_of_lt hj)), h nq (Nat.lt_succ_self nq)]
theorem sq_cong {xf x2 : Nat → Int32} : ∀ {nq : Nat}, (∀ jq, jq < nq → xf jq = x2 jq) → sqL xf nq = sqL x2 nq
  | 0, _ => rfl
  | nq + 1, h => by
    unfold sqL
    rw [sq_cong (fun jq hj => h jq (Nat.lt_succ_of_lt hj)), h nq (Nat.lt_succ_self nq)]
theorem hs_cong {yrq : Nat → Nat} {lq rq : Nat} {xf x2 : Nat → Int32} : ∀ {nq : Nat}, (∀ jq, jq < nq → xf jq = x2 jq) → hsum yrq lq rq xf nq = hsum yrq lq rq x2 nq
  | 0, _ => rfl
  | nq + 1, h => by
    unfold hsum
    rw [hs_cong (fun jq hj => h jq (Nat.lt_succ_of_lt hj)), h nq (Nat.lt_succ_self nq)]
theorem wgR_cong {yrq : Nat → Nat} {nq lq : Nat} {xf x2 : Nat → Int32} (h : ∀ jq, jq < nq → xf jq = x2 jq) : ∀ rq, wgR yrq nq lq xf rq = wgR yrq nq lq x2 rq
  | 0 => rfl
  | rq + 1 => by
    unfold wgR
    rw [wgR_cong h rq, hs_cong h]
theorem wg_cong {yrq : Nat → Nat} {nq lq : Nat} {xf x2 : Nat → Int32} (h : ∀ jq, jq < nq → xf jq = x2 jq) : wgt yrq nq lq xf = wgt yrq nq lq x2 := wgR_cong h lq
theorem fg_cong {yrq : Nat → Nat} {nq f1q : Nat} {xf x2 : Nat → Int32} (h : ∀ jq, jq < nq → xf jq = x2 jq) : ∀ iq, fgS yrq nq xf f1q iq = fgS yrq nq x2 f1q iq
  | 0 => rfl
  | iq + 1 => by
    unfold fgS
    rw [fg_cong h iq, wg_cong h]
theorem rch_cong {yrq : Nat → Nat} {nq f1q : Nat} {xf x2 : Nat → Int32} {glq : Int64} (h : ∀ jq, jq < nq → xf jq = x2 jq) : ∀ iq, rchB yrq nq xf glq f1q iq = rchB yrq nq x2 glq f1q iq
  | 0 => rfl
  | iq + 1 => by
    unfold rchB
    rw [rch_cong h iq, wg_cong h]
theorem fgS_one {yrq : Nat → Nat} {nq lq : Nat} {xf : Nat → Int32} : (fgS yrq nq xf lq (lq + 1 - lq)).1 = lq := by
  rw [show lq + 1 - lq = 0 + 1 by omega]
  have := fgS_in (yrq := yrq) (nq := nq) (f1q := lq) (xf := xf) (0 + 1)
  omega
def scr1 (cz : Nat) : Prop := cz = 2 ∨ cz = 4 ∨ cz = 20 ∨ cz = 21 ∨ cz = 22 ∨ (32 ≤ cz ∧ cz < 71)
def scrC (cz : Nat) : Prop := (2 ≤ cz ∧ cz ≤ 8) ∨ (20 ≤ cz ∧ cz ≤ 26) ∨ (32 ≤ cz ∧ cz < 71)
def keepC (σ τq : Sto) : Prop := ∀ cz, ¬ scrC cz → τq cz = σ cz
def TkR (σ τq : Sto) (df : Nat → Int32) (endq f1q t1q : Nat) : Prop := (τq 2).1 3 = nI (gcnt df endq) ∧ (∀ jq, jq < gcnt df endq → (τq 21).1 jq = nuF df endq jq) ∧ (∀ jq, jq < gcnt df endq → (τq 22).1 jq = nI (yeF df endq jq)) ∧ (∀ yq, yq < 24 → (τq 20).1 yq = df yq) ∧ (τq 4).1 1 = nI f1q ∧ (τq 4).1 2 = nI t1q ∧ (∀ jq, f1q ≤ jq → jq ≤ t1q → LaidO τq jq (yeF df endq) (gcnt df endq)) ∧ ∀ cz, ¬ scr1 cz → τq cz = σ cz
def shU (df : Nat → Int32) (endq lq : Nat) : Int64 := (nI (gcnt df endq)).toInt64 * wgt (yeF df endq) (gcnt df endq) lq (nuF df endq) - 27720 * sumL (nuF df endq) (gcnt df endq) * sumL (nuF df endq) (gcnt df endq)
def shD (df : Nat → Int32) (endq : Nat) : Int64 := 27720 * ((nI (gcnt df endq)).toInt64 * sqL (nuF df endq) (gcnt df endq) - sumL (nuF df endq) (gcnt df endq) * sumL (nuF df endq) (gcnt df endq))
def refI (b1q b2q : Bool) (flq : Option Nat) : Int32 := if b1q = false then -1 else if b2q = false then -2 else match flq with
  | none => nI 0
  | some _ => -5
theorem refI_z {b1q b2q : Bool} {flq : Option Nat} (h : refI b1q b2q flq = 0) : b1q = true ∧ b2q = true ∧ flq = none := by
  cases b1q with
  | false => exact absurd h (show ¬ (-1 : Int32) = 0 by decide)
  | true =>
    cases b2q with
    | false => exact absurd h (show ¬ (-2 : Int32) = 0 by decide)
    | true =>
      cases flq with
      | none => exact ⟨rfl, rfl, rfl⟩
      | some _ => exact absurd h (show ¬ (-5 : Int32) = 0 by decide)
theorem fltI_none {sn : Nat → Nat} {cntq : Nat} (h : fltI sn cntq = -6) (hl : ∀ pq1, fltF sn cntq 21 0 = some pq1 → pq1 < 2 ^ 31) : fltF sn cntq 21 0 = none := by
  unfold fltI at h
  split at h
  · rename_i pq1 hq
    exact absurd h (nI_ne6 (hl pq1 hq))
  · assumption
theorem bad_le {sn : Nat → Nat} {cntq aq : Nat} : ∀ {rq iq pq1 : Nat}, badD sn cntq aq rq iq = some pq1 → pq1 ≤ cntq
  | 0, _, _, h => by cases h
  | rq + 1, iq, pq1, h => by
    unfold badD at h
    split at h
    · cases h; exact Nat.le_refl _
    · split at h
      · exact bad_le h
      · cases h; omega
theorem flt_le {sn : Nat → Nat} {cntq : Nat} : ∀ {nq aq pq1 : Nat}, fltF sn cntq nq aq = some pq1 → pq1 ≤ cntq
  | 0, _, _, h => by cases h
  | nq + 1, aq, pq1, h => by
    unfold fltF at h
    split at h
    · split at h
      · cases h; omega
      · split at h
        · rename_i hq; cases h; exact bad_le hq
        · exact flt_le h
    · cases h
def LOSTq : Int64 := -1000000000000000000
theorem lk_cong {yrq : Nat → Nat} {nq lq : Nat} {xf x2 bf b2 : Nat → Int32} {yq1 : Nat} (h : ∀ jq, jq < nq → xf jq = x2 jq) (hb : ∀ yq, yq < 24 → bf yq = b2 yq) : ∀ {kq : Nat}, yq1 + kq ≤ 24 → lkS yrq nq lq xf bf yq1 kq = lkS yrq nq lq x2 b2 yq1 kq
  | 0, _ => rfl
  | kq + 1, hk => by
    have h0 := lk_cong (yrq := yrq) (lq := lq) (yq1 := yq1) h hb (kq := kq) (by omega)
    unfold lkS sideQ
    rw [h0, sum_cong h, hs_cong h, hb (yq1 + kq) (by omega)]
theorem inB_lo {aq bq : Nat} (ha : aq < 2 ^ 31) (hb : bq < 2 ^ 31) {vz : Int32} (h : inB (nI aq) (nI bq) vz = true) : ∃ kq, vz = nI kq ∧ aq ≤ kq ∧ kq ≤ bq := by
  rw [inB_iff, nI_toInt ha, nI_toInt hb] at h
  have h0 : ¬ vz < 0 := by rw [fa_lt]; show ¬ vz.toInt < 0; omega
  obtain ⟨jq, hj, rfl⟩ := nI_of h0
  rw [nI_toInt hj] at h
  exact ⟨jq, rfl, by omega, by omega⟩
theorem inB_wk {aq bq : Nat} {vz : Int32} (h : inB (nI aq) (nI bq) vz = true) (ha : aq < 2 ^ 31 := by decide) (hb : bq < 2 ^ 31 := by decide) : inB (nI 0) (nI bq) vz = true := by
  obtain ⟨kq, rfl, h1, h2⟩ := inB_lo ha hb h
  rw [inB_N (by decide) hb (by omega)]
  simp; omega
theorem inB_ge {aq bq : Nat} {vz : Int32} (h : inB (nI aq) (nI bq) vz = true) (ha : aq < 2 ^ 31 := by decide) (hb : bq < 2 ^ 31 := by decide) : aq ≤ vz.toNatClampNeg := by
  obtain ⟨kq, rfl, h1, h2⟩ := inB_lo ha hb h
  rw [nI_clamp (by omega)]
  exact h1
