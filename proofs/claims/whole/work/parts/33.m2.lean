/-! the model's numbers, heaps and fractions -/
theorem cntR_le (yrq : Nat → Nat) (lq rq : Nat) : ∀ mq, cntR yrq lq rq mq ≤ mq
  | 0 => Nat.le_refl 0
  | mq + 1 => by
    have := cntR_le yrq lq rq mq
    show cntR yrq lq rq mq + (if yrq mq % lq = rq then 1 else 0) ≤ mq + 1
    split <;> omega
theorem lh_step {yrq : Nat → Nat} {lq iq : Nat} {xf : Nat → Int32} {sf9 : Nat → Int64} {mf9 : Nat → Int32} (hl : 0 < lq) (h : ∀ rq, rq < lq → sf9 rq = hsum yrq lq rq xf iq ∧ mf9 rq = nI (cntR yrq lq rq iq)) : ∀ rq, rq < lq → vp_updL sf9 (yrq iq % lq) (sf9 (yrq iq % lq) + (xf iq).toInt64) rq = hsum yrq lq rq xf (iq + 1) ∧ upd mf9 (yrq iq % lq) (mf9 (yrq iq % lq) + nI 1) rq = nI (cntR yrq lq rq (iq + 1)) := by
  intro rq hr
  have hm := Nat.mod_lt (yrq iq) hl
  by_cases e : rq = yrq iq % lq
  · subst e
    rw [pk_us]
    constructor
    · show (if _ then _ else _) = _
      rw [if_pos rfl, (h _ hm).1]
      exact hs_y rfl
    · rw [(h _ hm).2, nI_add']
      show _ = nI (_ + (if _ then _ else _))
      rw [if_pos rfl]
  · rw [pk_un e]
    constructor
    · show (if _ then _ else _) = _
      rw [if_neg e, (h _ hr).1]
      exact hs_n (fun z => e z.symm)
    · rw [(h _ hr).2]
      show _ = nI (_ + (if _ then _ else _))
      rw [if_neg (fun z => e z.symm)]
      rfl
def upF (yrq : Nat → Nat) (nq : Nat) (xf : Nat → Int32) (lq : Nat) : Int64 := (nI nq).toInt64 * wgt yrq nq lq xf - 27720 * sumL xf nq * sumL xf nq
def loF (nq : Nat) (xf : Nat → Int32) : Int64 := 27720 * ((nI nq).toInt64 * sqL xf nq - sumL xf nq * sumL xf nq)
def upR (yrq : Nat → Nat) (nq lq : Nat) (xf : Nat → Int32) : Nat → Int64
  | 0 => -(sumL xf nq) * sumL xf nq * 27720
  | kq + 1 => upR yrq nq lq xf kq + (if cntR yrq lq kq nq = 0 then 0 else hsum yrq lq kq xf nq * hsum yrq lq kq xf nq * (27720 / (nI (cntR yrq lq kq nq)).toInt64) * (nI nq).toInt64)
theorem fine_div {cq : Nat} (h0 : 0 < cq) (h : cq ≤ 24) : (27720 : Int64) / (nI cq).toInt64 = (nI (27720 / cq)).toInt64 := by
  have e : (27720 : Int64) = lN 27720 := by decide
  have hb : 27720 / cq ≤ 27720 := Nat.div_le_self _ _
  rw [nI_l (by omega), nI_l (by omega), e, pk_lDiv (by decide) h0 (by omega)]
theorem upR_e {yrq : Nat → Nat} {nq lq : Nat} {xf : Nat → Int32} (hn : nq ≤ 24) : ∀ kq, upR yrq nq lq xf kq = (nI nq).toInt64 * wgR yrq nq lq xf kq - 27720 * sumL xf nq * sumL xf nq
  | 0 => by
    show -(sumL xf nq) * sumL xf nq * 27720 = (nI nq).toInt64 * 0 - _
    generalize sumL xf nq = az
    generalize (nI nq).toInt64 = bz
    grind
  | kq + 1 => by
    have ih := upR_e (yrq := yrq) (lq := lq) (xf := xf) hn kq
    have hc := cntR_le yrq lq kq nq
    show upR yrq nq lq xf kq + (if _ then _ else _) = _ * (if _ then _ else _) - _
    by_cases h : cntR yrq lq kq nq = 0
    · rw [if_pos h, if_pos h, ih]; exact Int64.add_zero _
    · rw [if_neg h, if_neg h, ih, fine_div (by omega) (by omega)]
      generalize sumL xf nq = az
      generalize (nI nq).toInt64 = bz
      generalize (nI (27720 / cntR yrq lq kq nq)).toInt64 = dz
      generalize hsum yrq lq kq xf nq = ez
      generalize wgR yrq nq lq xf kq = fz
      grind
theorem upR_l {yrq : Nat → Nat} {nq lq : Nat} {xf : Nat → Int32} (hn : nq ≤ 24) : upR yrq nq lq xf lq = upF yrq nq xf lq := upR_e hn lq
theorem loF_e {nq : Nat} {xf : Nat → Int32} : (sqL xf nq * (nI nq).toInt64 - sumL xf nq * sumL xf nq) * 27720 = loF nq xf := by
  unfold loF
  generalize sumL xf nq = az
  generalize (nI nq).toInt64 = bz
  generalize sqL xf nq = cz
  grind
def mxU (yrq : Nat → Nat) (nq : Nat) (xf : Nat → Int32) (f1q : Nat) : Nat → Int64
  | 0 => upF yrq nq xf f1q
  | iq + 1 => if mxU yrq nq xf f1q iq < upF yrq nq xf (f1q + (iq + 1)) then upF yrq nq xf (f1q + (iq + 1)) else mxU yrq nq xf f1q iq
def lwS (upq : Int64) (anq bnq : Nat) (pz : Int32) : Int64 := if pz = 0 then upq / lN (Nat.gcd anq bnq) else lN bnq / lN (Nat.gcd anq bnq)
theorem lN_ti' {mq : Nat} (h : mq < 2 ^ 63) : (lN mq).toInt = (mq : Int) := lg_ofNat_toInt h
theorem lN_ne {mq : Nat} (h0 : 0 < mq) (h : mq < 2 ^ 63) : ¬ lN mq = 0 := fun e => by
  have := congrArg Int64.toInt e
  rw [lN_ti' h, show (0 : Int64).toInt = 0 by decide] at this
  omega
theorem lN_z {mq : Nat} (h : mq < 2 ^ 63) (e : lN mq = 0) : mq = 0 := by
  rcases Nat.eq_zero_or_pos mq with h0 | h0
  · exact h0
  · exact absurd e (lN_ne h0 h)
theorem gcd_le {aq bq : Nat} (h : 0 < bq) : 0 < Nat.gcd aq bq ∧ Nat.gcd aq bq ≤ bq := ⟨Nat.gcd_pos_of_pos_right _ h, Nat.gcd_le_right _ h⟩
theorem gcd_stp {aq bq : Nat} : Nat.gcd bq (aq % bq) = Nat.gcd aq bq := by rw [Nat.gcd_comm bq, ← Nat.gcd_rec, Nat.gcd_comm]
