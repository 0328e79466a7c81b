/-! go, waves, luck, later years: what the model computes -/
def goM (af bf : Nat → Int32) : Nat → Nat
  | 0 => 0
  | kq + 1 => if (tmU af bf kq).toInt * (tmD af bf 0).toInt < (tmU af bf 0).toInt * (tmD af bf kq).toInt then goM af bf kq else goM af bf kq + 1
theorem goM_le (af bf : Nat → Int32) : ∀ kq, goM af bf kq ≤ kq
  | 0 => Nat.le_refl 0
  | kq + 1 => by
    have := goM_le af bf kq
    unfold goM
    split <;> omega
theorem goM_ag {af a2 bf b2 : Nat → Int32} (ha : ∀ yq, yq < 24 → af yq = a2 yq) (hb : ∀ yq, yq < 24 → bf yq = b2 yq) : ∀ kq, goM af bf kq = goM a2 b2 kq
  | 0 => rfl
  | kq + 1 => by
    unfold goM
    rw [goM_ag ha hb kq, (tm_ag ha hb kq).1, (tm_ag ha hb kq).2, (tm_ag ha hb 0).1, (tm_ag ha hb 0).2]
theorem bd_ag {af a2 : Nat → Int32} (ha : ∀ yq, yq < 24 → af yq = a2 yq) (h : BdF a2) : BdF af := fun yq hy => by rw [ha yq hy]; exact h yq hy
theorem c_X10_lessF (l : Launch) (G : Gl) (σ : Sto) (az bz cz dz : Int64) (h1 : 0 ≤ az.toInt) (h2 : 0 < bz.toInt) (h3 : 0 ≤ cz.toInt) (h4 : 0 < dz.toInt) : CtI l G yX10_isLess cX10_isLess 21 (some .boolean) 0 0 [.long az, .long bz, .long cz, .long dz] σ (fun r σ' => r = b01 (decide (az.toInt * dz.toInt < cz.toInt * bz.toInt)) ∧ σ' = σ) := by
  have a1 := az.toInt_lt
  have a2 := bz.toInt_lt
  have a3 := cz.toInt_lt
  have a4 := dz.toInt_lt
  have ct := c_X10_isLess l G σ az.toInt.toNat bz.toInt.toNat cz.toInt.toNat dz.toInt.toNat (by omega) ⟨by omega, by omega⟩ (by omega) ⟨by omega, by omega⟩
  rw [← lN_of h1, ← lN_of (Int.le_of_lt h2), ← lN_of h3, ← lN_of (Int.le_of_lt h4)] at ct
  refine ct.mono (fun r τq h => ⟨h.1.trans (congrArg b01 ?_), h.2⟩)
  rw [decide_eq_decide, ← Int.ofNat_lt, Int.natCast_mul, Int.natCast_mul, Int.toNat_of_nonneg h1, Int.toNat_of_nonneg (Int.le_of_lt h2), Int.toNat_of_nonneg h3, Int.toNat_of_nonneg (Int.le_of_lt h4)]
/-! waves -/
def cntW (bq yq : Nat) : Nat → Nat
  | 0 => 0
  | kq + 1 => cntW bq yq kq + btq bq (yq - kq)
theorem bt_le (aq iq : Nat) : btq aq iq ≤ 1 := by unfold btq; split <;> omega
theorem cntW_le (bq yq : Nat) : ∀ kq, cntW bq yq kq ≤ kq
  | 0 => Nat.le_refl 0
  | kq + 1 => by
    have := cntW_le bq yq kq
    have := bt_le bq (yq - kq)
    unfold cntW
    omega
theorem smW_s {bq yq kq : Nat} : nI (2 * cntW bq yq kq) - nI kq + (nI (2 * (bq / 2 ^ (yq - kq) &&& 1)) - nI 1) = nI (2 * cntW bq yq (kq + 1)) - nI (kq + 1) := by
  rw [bt_and, show 2 * cntW bq yq (kq + 1) = 2 * cntW bq yq kq + 2 * btq bq (yq - kq) by show 2 * (_ + _) = _; omega, ← nI_add, ← nI_add]
  generalize nI (2 * cntW bq yq kq) = az
  generalize nI (2 * btq bq (yq - kq)) = bz
  generalize nI kq = cz
  generalize nI 1 = dz
  grind
theorem smW_c {aq bq mq : Nat} (ha : aq ≤ 100) (hb : bq ≤ 100) (hm : mq ≤ 100) : (nI (2 * aq) - nI mq ≤ nI (2 * bq) - nI mq) ↔ aq ≤ bq := by
  rw [fa_le, nI_subI (by omega) (by omega), nI_subI (by omega) (by omega)]
  omega
def tpW (bq yq mq : Nat) : Bool := decide (cntW bq (yq - 1) mq < cntW bq yq mq) && decide (cntW bq (yq + 1) mq < cntW bq yq mq)
def wvI (mq bq : Nat) : Nat → Nat
  | 0 => 0
  | jq + 1 => wvI mq bq jq + (if tpW bq (mq + jq) mq = true then 1 else 0)
def wvM (nq mq : Nat) : Nat → Nat
  | 0 => 0
  | kq + 1 => wvM nq mq kq + wvI mq kq (nq - 1 - mq)
theorem cntW_sh (bq yq : Nat) : ∀ mq, mq ≤ yq → cntW bq yq mq + btq bq (yq - mq) = btq bq yq + cntW bq (yq - 1) mq
  | 0, _ => by unfold cntW; rw [Nat.sub_zero]; omega
  | mq + 1, h => by
    have h0 := cntW_sh bq yq mq (by omega)
    unfold cntW
    rw [show yq - 1 - mq = yq - (mq + 1) by omega]
    omega
theorem tpW_e {bq yq mq : Nat} (h : mq ≤ yq) (h1 : 1 ≤ mq) : tpW bq yq mq = (bq.testBit yq && !bq.testBit (yq - mq) && (bq.testBit (yq + 1 - mq) && !bq.testBit (yq + 1))) := by
  have a1 := cntW_sh bq yq mq h
  have a2 := cntW_sh bq (yq + 1) mq (by omega)
  rw [show yq + 1 - 1 = yq from rfl] at a2
  unfold tpW
  have b1 : decide (cntW bq (yq - 1) mq < cntW bq yq mq) = (bq.testBit yq && !bq.testBit (yq - mq)) := by
    rw [Bool.eq_iff_iff, decide_eq_true_eq]
    unfold btq at a1
    cases hb1 : bq.testBit yq <;> cases hb2 : bq.testBit (yq - mq) <;> simp [hb1, hb2] at a1 ⊢ <;> omega
  have b2 : decide (cntW bq (yq + 1) mq < cntW bq yq mq) = (bq.testBit (yq + 1 - mq) && !bq.testBit (yq + 1)) := by
    rw [Bool.eq_iff_iff, decide_eq_true_eq]
    unfold btq at a2
    cases hb1 : bq.testBit (yq + 1) <;> cases hb2 : bq.testBit (yq + 1 - mq) <;> simp [hb1, hb2] at a2 ⊢ <;> omega
  rw [b1, b2]
theorem top_bit {nq mq rq iq : Nat} : ((ndiff rq (rq * 2 ^ mq) &&& ndiff (rq * 2 ^ mq) rq / 2 ^ 1) &&& ndiff (2 ^ (nq - 1) - 1) (2 ^ mq - 1)).testBit iq = ((rq.testBit iq && !(decide (mq ≤ iq) && rq.testBit (iq - mq))) && ((decide (mq ≤ iq + 1) && rq.testBit (iq + 1 - mq)) && !rq.testBit (iq + 1)) && (decide (iq < nq - 1) && !decide (iq < mq))) := by
  rw [Nat.testBit_and, Nat.testBit_and, nd_bit, nd_bit, Nat.testBit_div_two_pow, nd_bit, Nat.testBit_two_pow_sub_one, Nat.testBit_two_pow_sub_one, Nat.testBit_mul_two_pow, Nat.testBit_mul_two_pow]
theorem top_e {nq mq rq : Nat} (hm : 1 ≤ mq) (hn : nq ≤ 20) : topN nq mq rq = wvI mq rq (nq - 1 - mq) := by
  unfold topN popc
  generalize hX : ((ndiff rq (rq * 2 ^ mq) &&& ndiff (rq * 2 ^ mq) rq / 2 ^ 1) &&& ndiff (2 ^ (nq - 1) - 1) (2 ^ mq - 1)) = xq
  have key : ∀ iq, popN iq xq = wvI mq rq (min (nq - 1 - mq) (iq - mq)) := by
    intro iq
    induction iq with
    | zero => rw [show min (nq - 1 - mq) (0 - mq) = 0 by omega]; rfl
    | succ iq ih =>
      rw [popN_b, ih]
      unfold btq
      rw [← hX, top_bit]
      by_cases h1 : mq ≤ iq ∧ iq < nq - 1
      · rw [show min (nq - 1 - mq) (iq + 1 - mq) = (iq - mq) + 1 by omega, show min (nq - 1 - mq) (iq - mq) = iq - mq by omega]
        show _ = wvI mq rq (iq - mq) + _
        rw [show mq + (iq - mq) = iq by omega, tpW_e h1.1 hm, decide_eq_true h1.1, decide_eq_true (show mq ≤ iq + 1 by omega), decide_eq_true h1.2, decide_eq_false (show ¬ iq < mq by omega)]
        simp only [Bool.true_and, Bool.not_false, Bool.and_true]
      · rw [show min (nq - 1 - mq) (iq + 1 - mq) = min (nq - 1 - mq) (iq - mq) by omega]
        have h2 : (decide (iq < nq - 1) && !decide (iq < mq)) = false := by
          rcases Nat.lt_or_ge iq mq with h3 | h3
          · rw [decide_eq_true h3]; simp
          · rw [decide_eq_false (show ¬ iq < nq - 1 by omega)]; rfl
        rw [h2, Bool.and_false]
        simp
  rw [key, show min (nq - 1 - mq) (20 - mq) = nq - 1 - mq by omega]
theorem wv_e {nq mq : Nat} (hm : 1 ≤ mq) (hn : nq ≤ 20) : ∀ kq, wvM nq mq kq = wvS nq mq kq
  | 0 => rfl
  | kq + 1 => by
    unfold wvM wvS
    rw [wv_e hm hn kq, top_e hm hn]
theorem shl_e {kq : Nat} (h : kq ≤ 24) : (1 : Int64) <<< ((nI kq).toInt64 &&& 63) = (nI (1 * 2 ^ kq)).toInt64 := by
  have hh : ∀ kq : Fin 25, (1 : Int64) <<< ((nI kq.val).toInt64 &&& 63) = (nI (1 * 2 ^ kq.val)).toInt64 := by decide
  exact hh ⟨kq, by omega⟩
theorem nl_ti {kq : Nat} (h : kq < 2 ^ 31) : ((nI kq).toInt64).toInt = (kq : Int) := by rw [Int32.toInt_toInt64, nI_toInt h]
theorem pw_ti {kq : Nat} (h : kq ≤ 24) : 0 < ((nI (1 * 2 ^ kq)).toInt64).toInt := by
  have h1 : 2 ^ kq ≤ 2 ^ 24 := Nat.pow_le_pow_right (by decide) h
  have h2 : 1 ≤ 2 ^ kq := Nat.one_le_two_pow
  rw [nl_ti (by omega)]
  omega
/-! luck -/
def chW (nq kq : Nat) : Nat → Int64
  | 0 => 1
  | iq + 1 => chW nq kq iq * (nI (nq - kq + (iq + 1))).toInt64 / (nI (iq + 1)).toInt64
def lkM (hdq cdq : Nat) : Nat → Int64
  | 0 => 0
  | jq + 1 => lkM hdq cdq jq + chW cdq (hdq + jq) (hdq + jq)
def chN (nq kq : Nat) : Nat → Nat
  | 0 => 1
  | iq + 1 => chN nq kq iq * (nq - kq + (iq + 1)) / (iq + 1)
def wyN (cdq : Nat) : Nat → Nat
  | 0 => 1
  | iq + 1 => wyN cdq iq * (cdq - iq) / (iq + 1)
def sWq (cdq hdq : Nat) : Nat → Nat
  | 0 => 0
  | iq + 1 => if iq < hdq then sWq cdq hdq iq else sWq cdq hdq iq + wyN cdq iq
theorem ch_wy : ∀ cdq, cdq < 21 → ∀ kq, kq < cdq + 1 → chN cdq kq kq = wyN cdq kq := by decide +kernel
theorem wy_bd : ∀ cdq, cdq < 21 → ∀ kq, kq < 22 → wyN cdq kq ≤ 200000 := by decide +kernel
theorem ch_bd : ∀ cdq, cdq < 21 → ∀ kq, kq < cdq + 1 → ∀ iq, iq < kq + 1 → chN cdq kq iq ≤ 200000 := by decide +kernel
theorem ch_N {cdq kq : Nat} (hc : cdq ≤ 20) (hk : kq ≤ cdq) : ∀ iq, iq ≤ kq → chW cdq kq iq = lN (chN cdq kq iq)
  | 0, _ => by show (1 : Int64) = lN 1; decide
  | iq + 1, hi => by
    have h0 := ch_bd cdq (by omega) kq (by omega) iq (by omega)
    have h1 : chN cdq kq iq * (cdq - kq + (iq + 1)) ≤ 200000 * 100 := Nat.mul_le_mul h0 (by omega)
    unfold chW chN
    rw [ch_N hc hk iq (by omega), nI_l (by omega), nI_l (by omega), lN_mul, pk_lDiv (by omega) (by omega) (by omega)]
theorem wy_N {cdq : Nat} (hdq : Nat) (hc : cdq ≤ 20) : ∀ iq, iq ≤ cdq + 1 → (lkW hdq cdq iq).1 = lN (wyN cdq iq)
  | 0, _ => by show (1 : Int64) = lN 1; decide
  | iq + 1, hi => by
    have h0 := wy_bd cdq (by omega) iq (by omega)
    have h1 : wyN cdq iq * (cdq - iq) ≤ 200000 * 100 := Nat.mul_le_mul h0 (by omega)
    show (lkW hdq cdq iq).1 * (nI (cdq - iq)).toInt64 / (nI (iq + 1)).toInt64 = lN (wyN cdq iq * (cdq - iq) / (iq + 1))
    rw [wy_N hdq hc iq (by omega), nI_l (by omega), nI_l (by omega), lN_mul, pk_lDiv (by omega) (by omega) (by omega)]
theorem sw_N {cdq : Nat} (hdq : Nat) (hc : cdq ≤ 20) : ∀ iq, iq ≤ cdq + 1 → (lkW hdq cdq iq).2 = lN (sWq cdq hdq iq)
  | 0, _ => rfl
  | iq + 1, hi => by
    show (if iq < hdq then (lkW hdq cdq iq).2 else (lkW hdq cdq iq).2 + (lkW hdq cdq iq).1) = lN (if iq < hdq then sWq cdq hdq iq else sWq cdq hdq iq + wyN cdq iq)
    rw [sw_N hdq hc iq (by omega), wy_N hdq hc iq (by omega)]
    split
    · rfl
    · rw [lN_add]
theorem sw_0 (cdq hdq : Nat) : ∀ iq, iq ≤ hdq → sWq cdq hdq iq = 0
  | 0, _ => rfl
  | iq + 1, h => by
    unfold sWq
    rw [if_pos (by omega)]
    exact sw_0 cdq hdq iq (by omega)
theorem sw_bd {cdq : Nat} (hdq : Nat) (hc : cdq ≤ 20) : ∀ iq, iq ≤ cdq + 1 → sWq cdq hdq iq ≤ 200000 * iq
  | 0, _ => Nat.le_refl 0
  | iq + 1, h => by
    have h0 := sw_bd hdq hc iq (by omega)
    have h1 := wy_bd cdq (by omega) iq (by omega)
    unfold sWq
    split <;> omega
theorem lkM_N {cdq hdq : Nat} (hc : cdq ≤ 20) : ∀ jq, hdq + jq ≤ cdq + 1 → lkM hdq cdq jq = lN (sWq cdq hdq (hdq + jq))
  | 0, _ => by rw [Nat.add_zero, sw_0 cdq hdq hdq (Nat.le_refl _)]; rfl
  | jq + 1, h => by
    unfold lkM
    rw [lkM_N hc jq (by omega), ch_N hc (by omega) _ (Nat.le_refl _), ch_wy cdq (by omega) _ (by omega), lN_add]
    show _ = lN (if hdq + jq < hdq then _ else _)
    rw [if_neg (by omega)]
    rfl
theorem lk_e {cdq hdq : Nat} (hc : cdq ≤ 20) (h : hdq ≤ cdq) : lkM hdq cdq (cdq + 1 - hdq) = (lkW hdq cdq (cdq + 1)).2 := by
  rw [lkM_N hc _ (by omega), sw_N hdq hc _ (Nat.le_refl _), show hdq + (cdq + 1 - hdq) = cdq + 1 by omega]
theorem lk_ti {cdq hdq : Nat} (hc : cdq ≤ 20) (h : hdq ≤ cdq) : 0 ≤ (lkM hdq cdq (cdq + 1 - hdq)).toInt ∧ (lkM hdq cdq (cdq + 1 - hdq)).toInt ≤ 2 ^ 62 := by
  have h1 := sw_bd hdq hc (cdq + 1) (Nat.le_refl _)
  rw [lkM_N hc _ (by omega), show hdq + (cdq + 1 - hdq) = cdq + 1 by omega, lN_ti' (by omega)]
  omega
