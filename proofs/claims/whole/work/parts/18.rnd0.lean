/-! the heaps of a round: places laid heap by heap, and their weight -/
theorem stb_ne {σ : Sto} {cz dz : Nat} {fq : Nat → Int64} (h : dz ≠ cz) : stb σ cz fq dz = σ dz := by simp [stb, stc, h]
theorem stl_ne {σ : Sto} {cz dz kq : Nat} {vz : Int64} (h : dz ≠ cz) : stl σ cz kq vz dz = σ dz := by simp [stl, stc, h]
theorem sti_eq {σ : Sto} {cz kq : Nat} {vz : Int32} : (sti σ cz kq vz cz).1 kq = vz := by simp [sti, stc, upd]
theorem sta_eq {σ : Sto} {cz : Nat} {fq : Nat → Int32} : (sta σ cz fq cz).1 = fq := by simp [sta, stc]
theorem stb_eq {σ : Sto} {cz : Nat} {fq : Nat → Int64} : (stb σ cz fq cz).2 = fq := by simp [stb, stc]
theorem stl_eq {σ : Sto} {cz kq : Nat} {vz : Int64} : (stl σ cz kq vz cz).2 kq = vz := by simp [stl, stc, vp_updL]
theorem stb_id {σ : Sto} {cz : Nat} {fq : Nat → Int64} (h : (σ cz).2 = fq) : σ = stb σ cz fq := by
  subst h
  funext jq
  by_cases h : jq = cz
  · subst h; simp [stb, stc]
  · simp [stb, stc, h]
theorem stl_stb {σ : Sto} {cz kq : Nat} {fq : Nat → Int64} {vz : Int64} : stl (stb σ cz fq) cz kq vz = stb σ cz (vp_updL fq kq vz) := by
  funext jq
  by_cases h : jq = cz <;> simp [stl, stb, stc, h]
theorem sti_stb_ne {σ : Sto} {cz dz kq : Nat} {fq : Nat → Int64} {vz : Int32} (hne : cz ≠ dz) : sti (stb σ cz fq) dz kq vz = stb (sti σ dz kq vz) cz fq := by
  funext jq
  by_cases h : jq = cz
  · subst h; simp [sti, stb, stc, hne]
  · by_cases h2 : jq = dz
    · subst h2; simp [sti, stb, stc, h]
    · simp [sti, stb, stc, h, h2]
def updN (fq : Nat → Nat) (kq xq : Nat) : Nat → Nat := fun jq => if jq = kq then xq else fq jq
def mixp (qf : Nat → Nat) (nq : Nat) (p0q : Nat → Int32) : Nat → Int32 := fun jq => if jq < nq then nI (qf jq) else p0q jq
theorem mixp_0 (qf : Nat → Nat) (p0q : Nat → Int32) : mixp qf 0 p0q = p0q := by funext jq; exact if_neg (by omega)
theorem mixp_s (qf : Nat → Nat) (nq xq : Nat) (p0q : Nat → Int32) : upd (mixp qf nq p0q) nq (nI xq) = mixp (updN qf nq xq) (nq + 1) p0q := by
  funext jq
  unfold upd mixp updN
  by_cases h : jq = nq
  · subst h; rw [if_pos rfl, if_pos (by omega), if_pos rfl]
  · rw [if_neg h]
    by_cases h2 : jq < nq
    · rw [if_pos h2, if_pos (by omega), if_neg h]
    · rw [if_neg h2, if_neg (by omega)]
abbrev PWq : Type := (Nat → Nat) × (Nat → Int64) × Nat
def inS (yrq : Nat → Nat) (lq rq : Nat) : Nat → PWq → PWq
  | 0, tt => tt
  | iq + 1, tt => if yrq iq % lq = rq then (updN (inS yrq lq rq iq tt).1 (inS yrq lq rq iq tt).2.2 iq, vp_updL (inS yrq lq rq iq tt).2.1 (inS yrq lq rq iq tt).2.2 0, (inS yrq lq rq iq tt).2.2 + 1) else inS yrq lq rq iq tt
def ouS (yrq : Nat → Nat) (nq lq : Nat) (tt : PWq) : Nat → PWq
  | 0 => tt
  | rq + 1 => if (ouS yrq nq lq tt rq).2.2 < (inS yrq lq rq nq (ouS yrq nq lq tt rq)).2.2 then ((inS yrq lq rq nq (ouS yrq nq lq tt rq)).1, vp_updL (inS yrq lq rq nq (ouS yrq nq lq tt rq)).2.1 ((inS yrq lq rq nq (ouS yrq nq lq tt rq)).2.2 - 1) (nI (27720 / ((inS yrq lq rq nq (ouS yrq nq lq tt rq)).2.2 - (ouS yrq nq lq tt rq).2.2))).toInt64, (inS yrq lq rq nq (ouS yrq nq lq tt rq)).2.2) else inS yrq lq rq nq (ouS yrq nq lq tt rq)
def cntR (yrq : Nat → Nat) (lq rq : Nat) : Nat → Nat
  | 0 => 0
  | mq + 1 => cntR yrq lq rq mq + (if yrq mq % lq = rq then 1 else 0)
def cumR (yrq : Nat → Nat) (lq rq : Nat) : Nat → Nat
  | 0 => 0
  | mq + 1 => cumR yrq lq rq mq + (if yrq mq % lq < rq then 1 else 0)
theorem cumR_0 (yrq : Nat → Nat) (lq : Nat) : ∀ mq, cumR yrq lq 0 mq = 0
  | 0 => rfl
  | mq + 1 => by
    show cumR yrq lq 0 mq + _ = 0
    rw [cumR_0 yrq lq mq, if_neg (by omega)]
theorem cumR_s (yrq : Nat → Nat) (lq rq : Nat) : ∀ mq, cumR yrq lq (rq + 1) mq = cumR yrq lq rq mq + cntR yrq lq rq mq
  | 0 => rfl
  | mq + 1 => by
    have h := cumR_s yrq lq rq mq
    show cumR yrq lq (rq + 1) mq + (if yrq mq % lq < rq + 1 then 1 else 0) = cumR yrq lq rq mq + (if yrq mq % lq < rq then 1 else 0) + (cntR yrq lq rq mq + (if yrq mq % lq = rq then 1 else 0))
    split <;> split <;> split <;> omega
theorem cumR_le (yrq : Nat → Nat) (lq rq : Nat) : ∀ mq, cumR yrq lq rq mq ≤ mq
  | 0 => Nat.le_refl 0
  | mq + 1 => by
    have h := cumR_le yrq lq rq mq
    show cumR yrq lq rq mq + (if yrq mq % lq < rq then 1 else 0) ≤ mq + 1
    split <;> omega
theorem cntR_mono (yrq : Nat → Nat) (lq rq : Nat) {aq bq : Nat} (h : aq ≤ bq) : cntR yrq lq rq aq ≤ cntR yrq lq rq bq := by
  induction bq with
  | zero => rw [show aq = 0 by omega]; exact Nat.le_refl _
  | succ mq ihq =>
    rcases Nat.lt_or_ge mq aq with h2 | h2
    · rw [show aq = mq + 1 by omega]; exact Nat.le_refl _
    · have := ihq h2
      show _ ≤ cntR yrq lq rq mq + _
      omega
theorem cnt_room {yrq : Nat → Nat} {lq rq iq nq : Nat} (hi : iq < nq) (h : yrq iq % lq = rq) : cumR yrq lq rq nq + cntR yrq lq rq iq < nq := by
  have h1 := cntR_mono yrq lq rq (show iq + 1 ≤ nq from hi)
  have h2 : cntR yrq lq rq (iq + 1) = cntR yrq lq rq iq + 1 := by
    show cntR yrq lq rq iq + (if yrq iq % lq = rq then 1 else 0) = _
    rw [if_pos h]
  have h3 := cumR_s yrq lq rq nq
  have h4 := cumR_le yrq lq (rq + 1) nq
  omega
theorem inS_y {yrq : Nat → Nat} {lq rq iq : Nat} {tt : PWq} (h : yrq iq % lq = rq) : inS yrq lq rq (iq + 1) tt = (updN (inS yrq lq rq iq tt).1 (inS yrq lq rq iq tt).2.2 iq, vp_updL (inS yrq lq rq iq tt).2.1 (inS yrq lq rq iq tt).2.2 0, (inS yrq lq rq iq tt).2.2 + 1) := if_pos h
theorem inS_n {yrq : Nat → Nat} {lq rq iq : Nat} {tt : PWq} (h : ¬ yrq iq % lq = rq) : inS yrq lq rq (iq + 1) tt = inS yrq lq rq iq tt := if_neg h
theorem inS_c {yrq : Nat → Nat} {lq rq : Nat} {tt : PWq} : ∀ iq, (inS yrq lq rq iq tt).2.2 = tt.2.2 + cntR yrq lq rq iq
  | 0 => rfl
  | iq + 1 => by
    have h0 := inS_c (yrq := yrq) (lq := lq) (rq := rq) (tt := tt) iq
    by_cases h : yrq iq % lq = rq
    · rw [inS_y h]
      show _ + 1 = _ + (cntR yrq lq rq iq + (if yrq iq % lq = rq then 1 else 0))
      rw [if_pos h, h0]; omega
    · rw [inS_n h, h0]
      show _ = _ + (cntR yrq lq rq iq + (if yrq iq % lq = rq then 1 else 0))
      rw [if_neg h]
      rfl
theorem ouS_y {yrq : Nat → Nat} {nq lq rq : Nat} {tt : PWq} (h : (ouS yrq nq lq tt rq).2.2 < (inS yrq lq rq nq (ouS yrq nq lq tt rq)).2.2) : ouS yrq nq lq tt (rq + 1) = ((inS yrq lq rq nq (ouS yrq nq lq tt rq)).1, vp_updL (inS yrq lq rq nq (ouS yrq nq lq tt rq)).2.1 ((inS yrq lq rq nq (ouS yrq nq lq tt rq)).2.2 - 1) (nI (27720 / ((inS yrq lq rq nq (ouS yrq nq lq tt rq)).2.2 - (ouS yrq nq lq tt rq).2.2))).toInt64, (inS yrq lq rq nq (ouS yrq nq lq tt rq)).2.2) := if_pos h
theorem ouS_n {yrq : Nat → Nat} {nq lq rq : Nat} {tt : PWq} (h : ¬ (ouS yrq nq lq tt rq).2.2 < (inS yrq lq rq nq (ouS yrq nq lq tt rq)).2.2) : ouS yrq nq lq tt (rq + 1) = inS yrq lq rq nq (ouS yrq nq lq tt rq) := if_neg h
theorem ouS_c {yrq : Nat → Nat} {nq lq : Nat} {tt : PWq} (h0 : tt.2.2 = 0) : ∀ rq, (ouS yrq nq lq tt rq).2.2 = cumR yrq lq rq nq
  | 0 => by rw [cumR_0]; exact h0
  | rq + 1 => by
    have h1 := ouS_c (yrq := yrq) (nq := nq) (lq := lq) h0 rq
    have h2 := inS_c (yrq := yrq) (lq := lq) (rq := rq) (tt := ouS yrq nq lq tt rq) nq
    by_cases h : (ouS yrq nq lq tt rq).2.2 < (inS yrq lq rq nq (ouS yrq nq lq tt rq)).2.2
    · rw [ouS_y h, cumR_s]
      show (inS yrq lq rq nq (ouS yrq nq lq tt rq)).2.2 = _
      omega
    · rw [ouS_n h, cumR_s]; omega
/-! weight -/
def wgS (qf : Nat → Nat) (wf : Nat → Int64) (xf : Nat → Int32) : Nat → Int64 × Int64
  | 0 => (0, 0)
  | iq + 1 => if wf iq = 0 then ((wgS qf wf xf iq).1, (wgS qf wf xf iq).2 + (xf (qf iq)).toInt64) else ((wgS qf wf xf iq).1 + wf iq * ((wgS qf wf xf iq).2 + (xf (qf iq)).toInt64) * ((wgS qf wf xf iq).2 + (xf (qf iq)).toInt64), 0)
def hsum (yrq : Nat → Nat) (lq rq : Nat) (xf : Nat → Int32) : Nat → Int64
  | 0 => 0
  | mq + 1 => if yrq mq % lq = rq then hsum yrq lq rq xf mq + (xf mq).toInt64 else hsum yrq lq rq xf mq
def wgR (yrq : Nat → Nat) (nq lq : Nat) (xf : Nat → Int32) : Nat → Int64
  | 0 => 0
  | rq + 1 => if cntR yrq lq rq nq = 0 then wgR yrq nq lq xf rq else wgR yrq nq lq xf rq + (nI (27720 / cntR yrq lq rq nq)).toInt64 * hsum yrq lq rq xf nq * hsum yrq lq rq xf nq
def wgt (yrq : Nat → Nat) (nq lq : Nat) (xf : Nat → Int32) : Int64 := wgR yrq nq lq xf lq
theorem wgS_cong {qf qf2 : Nat → Nat} {wf wf2 : Nat → Int64} {xf : Nat → Int32} : ∀ {nq : Nat}, (∀ jq, jq < nq → qf jq = qf2 jq ∧ wf jq = wf2 jq) → wgS qf wf xf nq = wgS qf2 wf2 xf nq
  | 0, _ => rfl
  | nq + 1, h => by
    have h1 := wgS_cong (xf := xf) (fun jq hj => h jq (Nat.lt_succ_of_lt hj))
    obtain ⟨h2, h3⟩ := h nq (Nat.lt_succ_self nq)
    show (if wf nq = 0 then _ else _) = (if wf2 nq = 0 then _ else _)
    rw [h1, h2, h3]
theorem w_in {yrq : Nat → Nat} {lq rq : Nat} {tt : PWq} {xf : Nat → Int32} {Aq : Int64} (h : wgS tt.1 tt.2.1 xf tt.2.2 = (Aq, 0)) : ∀ iq, wgS (inS yrq lq rq iq tt).1 (inS yrq lq rq iq tt).2.1 xf (inS yrq lq rq iq tt).2.2 = (Aq, hsum yrq lq rq xf iq)
  | 0 => h
  | iq + 1 => by
    have h0 := w_in (yrq := yrq) (lq := lq) (rq := rq) h iq
    by_cases h1 : yrq iq % lq = rq
    · rw [inS_y h1]
      generalize inS yrq lq rq iq tt = uu at *
      have hc : wgS (updN uu.1 uu.2.2 iq) (vp_updL uu.2.1 uu.2.2 0) xf uu.2.2 = wgS uu.1 uu.2.1 xf uu.2.2 := wgS_cong (fun jq hj => ⟨if_neg (by omega), pk_uLn (by omega)⟩)
      have hq : updN uu.1 uu.2.2 iq uu.2.2 = iq := if_pos rfl
      show (if (vp_updL uu.2.1 uu.2.2 0) uu.2.2 = 0 then ((wgS (updN uu.1 uu.2.2 iq) (vp_updL uu.2.1 uu.2.2 0) xf uu.2.2).1, (wgS (updN uu.1 uu.2.2 iq) (vp_updL uu.2.1 uu.2.2 0) xf uu.2.2).2 + (xf (updN uu.1 uu.2.2 iq uu.2.2)).toInt64) else _) = (Aq, (if yrq iq % lq = rq then hsum yrq lq rq xf iq + (xf iq).toInt64 else hsum yrq lq rq xf iq))
      rw [if_pos pk_uLs, if_pos h1, hc, h0, hq]
    · rw [inS_n h1, h0]
      show _ = (Aq, (if yrq iq % lq = rq then _ else _))
      rw [if_neg h1]
theorem fine_ne {kq : Nat} (h : 1 ≤ kq) (h2 : kq ≤ 24) : ¬ (nI (27720 / kq)).toInt64 = 0 := by
  have hh : ∀ kq : Fin 25, 1 ≤ kq.val → ¬ (nI (27720 / kq.val)).toInt64 = 0 := by decide
  exact hh ⟨kq, by omega⟩ h
theorem w_last {yrq : Nat → Nat} {lq rq : Nat} {tt : PWq} {xf : Nat → Int32} {Aq Wq : Int64} (h : wgS tt.1 tt.2.1 xf tt.2.2 = (Aq, 0)) (hW : ¬ Wq = 0) : ∀ iq, tt.2.2 < (inS yrq lq rq iq tt).2.2 → wgS (inS yrq lq rq iq tt).1 (vp_updL (inS yrq lq rq iq tt).2.1 ((inS yrq lq rq iq tt).2.2 - 1) Wq) xf (inS yrq lq rq iq tt).2.2 = (Aq + Wq * hsum yrq lq rq xf iq * hsum yrq lq rq xf iq, 0)
  | 0, h2 => absurd h2 (Nat.lt_irrefl _)
  | iq + 1, h2 => by
    by_cases h1 : yrq iq % lq = rq
    · have h0 := w_in (yrq := yrq) (lq := lq) (rq := rq) h iq
      rw [inS_y h1]
      generalize inS yrq lq rq iq tt = uu at *
      have hc : wgS (updN uu.1 uu.2.2 iq) (vp_updL (vp_updL uu.2.1 uu.2.2 0) uu.2.2 Wq) xf uu.2.2 = wgS uu.1 uu.2.1 xf uu.2.2 := wgS_cong (fun jq hj => ⟨if_neg (by omega), by rw [pk_uLn (by omega), pk_uLn (by omega)]⟩)
      have hq : updN uu.1 uu.2.2 iq uu.2.2 = iq := if_pos rfl
      have hwq : vp_updL (vp_updL uu.2.1 uu.2.2 0) uu.2.2 Wq uu.2.2 = Wq := pk_uLs
      show (if vp_updL (vp_updL uu.2.1 uu.2.2 0) uu.2.2 Wq uu.2.2 = 0 then _ else ((wgS (updN uu.1 uu.2.2 iq) (vp_updL (vp_updL uu.2.1 uu.2.2 0) uu.2.2 Wq) xf uu.2.2).1 + vp_updL (vp_updL uu.2.1 uu.2.2 0) uu.2.2 Wq uu.2.2 * ((wgS (updN uu.1 uu.2.2 iq) (vp_updL (vp_updL uu.2.1 uu.2.2 0) uu.2.2 Wq) xf uu.2.2).2 + (xf (updN uu.1 uu.2.2 iq uu.2.2)).toInt64) * ((wgS (updN uu.1 uu.2.2 iq) (vp_updL (vp_updL uu.2.1 uu.2.2 0) uu.2.2 Wq) xf uu.2.2).2 + (xf (updN uu.1 uu.2.2 iq uu.2.2)).toInt64), (0 : Int64))) = (Aq + Wq * (if yrq iq % lq = rq then hsum yrq lq rq xf iq + (xf iq).toInt64 else hsum yrq lq rq xf iq) * (if yrq iq % lq = rq then hsum yrq lq rq xf iq + (xf iq).toInt64 else hsum yrq lq rq xf iq), 0)
      rw [hwq, if_neg hW, if_pos h1, hc, h0, hq]
    · rw [inS_n h1] at h2 ⊢
      rw [w_last h hW iq h2]
      show _ = (Aq + Wq * (if yrq iq % lq = rq then _ else _) * (if yrq iq % lq = rq then _ else _), 0)
      rw [if_neg h1]
theorem w_out {yrq : Nat → Nat} {nq lq : Nat} {tt : PWq} {xf : Nat → Int32} (h0 : tt.2.2 = 0) (hn : nq ≤ 24) : ∀ rq, wgS (ouS yrq nq lq tt rq).1 (ouS yrq nq lq tt rq).2.1 xf (ouS yrq nq lq tt rq).2.2 = (wgR yrq nq lq xf rq, 0)
  | 0 => by show wgS tt.1 tt.2.1 xf tt.2.2 = _; rw [h0]; rfl
  | rq + 1 => by
    have h1 := w_out (yrq := yrq) (nq := nq) (lq := lq) (xf := xf) h0 hn rq
    have h2 := inS_c (yrq := yrq) (lq := lq) (rq := rq) (tt := ouS yrq nq lq tt rq) nq
    have h3 := ouS_c (yrq := yrq) (nq := nq) (lq := lq) h0 rq
    have h4 := cumR_le yrq lq (rq + 1) nq
    have h5 := cumR_s yrq lq rq nq
    by_cases h : (ouS yrq nq lq tt rq).2.2 < (inS yrq lq rq nq (ouS yrq nq lq tt rq)).2.2
    · have e : (inS yrq lq rq nq (ouS yrq nq lq tt rq)).2.2 - (ouS yrq nq lq tt rq).2.2 = cntR yrq lq rq nq := by omega
      rw [ouS_y h]
      show wgS (inS yrq lq rq nq (ouS yrq nq lq tt rq)).1 (vp_updL (inS yrq lq rq nq (ouS yrq nq lq tt rq)).2.1 ((inS yrq lq rq nq (ouS yrq nq lq tt rq)).2.2 - 1) (nI (27720 / ((inS yrq lq rq nq (ouS yrq nq lq tt rq)).2.2 - (ouS yrq nq lq tt rq).2.2))).toInt64) xf (inS yrq lq rq nq (ouS yrq nq lq tt rq)).2.2 = ((if cntR yrq lq rq nq = 0 then _ else _), 0)
      rw [e, if_neg (by omega)]
      exact w_last h1 (fine_ne (by omega) (by omega)) nq h
    · rw [ouS_n h, w_in h1]
      have e : cntR yrq lq rq nq = 0 := by omega
      show _ = ((if cntR yrq lq rq nq = 0 then _ else _), 0)
      rw [if_pos e]
      have hz : ∀ mq, cntR yrq lq rq mq = 0 → hsum yrq lq rq xf mq = 0 := by
        intro mq
        induction mq with
        | zero => intro _; rfl
        | succ mq ihq =>
          intro hc
          have hc2 : cntR yrq lq rq mq + (if yrq mq % lq = rq then 1 else 0) = 0 := hc
          show (if yrq mq % lq = rq then _ else _) = _
          by_cases hy : yrq mq % lq = rq
          · rw [if_pos hy] at hc2; omega
          · rw [if_neg hy]; exact ihq (by omega)
      rw [hz nq e]
theorem pl_lt {yrq : Nat → Nat} {lq rq : Nat} {tt : PWq} {bq : Nat} (h : ∀ jq, jq < tt.2.2 → tt.1 jq < bq) : ∀ iq, iq ≤ bq → ∀ jq, jq < (inS yrq lq rq iq tt).2.2 → (inS yrq lq rq iq tt).1 jq < bq
  | 0, _ => h
  | iq + 1, hi => by
    have h0 := pl_lt (yrq := yrq) (lq := lq) (rq := rq) h iq (by omega)
    by_cases h1 : yrq iq % lq = rq
    · rw [inS_y h1]
      intro jq hj
      show (if jq = _ then iq else _) < bq
      split
      · omega
      · exact h0 jq (by have : jq < (inS yrq lq rq iq tt).2.2 + 1 := hj; omega)
    · rw [inS_n h1]; exact h0
theorem pl_out {yrq : Nat → Nat} {nq lq : Nat} {tt : PWq} (h : tt.2.2 = 0) : ∀ rq, ∀ jq, jq < (ouS yrq nq lq tt rq).2.2 → (ouS yrq nq lq tt rq).1 jq < nq
  | 0 => fun jq hj => by have hj2 : jq < tt.2.2 := hj; omega
  | rq + 1 => by
    have h0 := pl_lt (yrq := yrq) (lq := lq) (rq := rq) (pl_out (yrq := yrq) (nq := nq) (lq := lq) h rq) nq (Nat.le_refl nq)
    by_cases h1 : (ouS yrq nq lq tt rq).2.2 < (inS yrq lq rq nq (ouS yrq nq lq tt rq)).2.2
    · rw [ouS_y h1]; exact h0
    · rw [ouS_n h1]; exact h0
/-- a Round whose places and weights stand for the numbers of these years -/
def LaidO (σ : Sto) (lq : Nat) (yrq : Nat → Nat) (nq : Nat) : Prop := ∃ (qf : Nat → Nat) (kq : Nat), (σ (32 + lq)).1 2 = nI kq ∧ kq ≤ 24 ∧ (∀ jq, jq < kq → (σ (45 + lq)).1 jq = nI (qf jq)) ∧ (∀ jq, jq < kq → qf jq < 24) ∧ ∀ xf : Nat → Int32, (wgS qf (σ (58 + lq)).2 xf kq).1 = wgt yrq nq lq xf
