theorem min12 {mq : Nat} (h : mq ≤ 12) : (if nI mq < nI 12 then nI mq else nI 12) = nI mq := by
  by_cases h0 : mq = 12
  · subst h0; rfl
  · rw [if_pos ((nI_ltI (by omega) (by decide)).mpr (by omega))]
theorem max2 {mq : Nat} (h : 2 ≤ mq ∧ mq ≤ 12) : (if nI 2 < nI mq then nI mq else nI 2) = nI mq := by
  by_cases h0 : mq = 2
  · subst h0; rfl
  · rw [if_pos ((nI_ltI (by decide) (by omega)).mpr (by omega))]
theorem wgS_z1 {qf : Nat → Nat} {wf : Nat → Int64} {xf : Nat → Int32} {iq : Nat} (h : wf iq = 0) : (wgS qf wf xf iq).1 = (wgS qf wf xf (iq + 1)).1 := by
  show _ = (if _ then _ else _ : Int64 × Int64).1
  rw [if_pos h]
theorem wgS_z2 {qf : Nat → Nat} {wf : Nat → Int64} {xf : Nat → Int32} {iq : Nat} (h : wf iq = 0) : (wgS qf wf xf iq).2 + (xf (qf iq)).toInt64 = (wgS qf wf xf (iq + 1)).2 := by
  show _ = (if _ then _ else _ : Int64 × Int64).2
  rw [if_pos h]
theorem wgS_n1 {qf : Nat → Nat} {wf : Nat → Int64} {xf : Nat → Int32} {iq : Nat} (h : ¬ wf iq = 0) : (wgS qf wf xf iq).1 + wf iq * ((wgS qf wf xf iq).2 + (xf (qf iq)).toInt64) * ((wgS qf wf xf iq).2 + (xf (qf iq)).toInt64) = (wgS qf wf xf (iq + 1)).1 := by
  show _ = (if _ then _ else _ : Int64 × Int64).1
  rw [if_neg h]
theorem wgS_n2 {qf : Nat → Nat} {wf : Nat → Int64} {xf : Nat → Int32} {iq : Nat} (h : ¬ wf iq = 0) : 0 = (wgS qf wf xf (iq + 1)).2 := by
  show _ = (if _ then _ else _ : Int64 × Int64).2
  rw [if_neg h]
theorem laid_new {τq : Sto} {lq nq : Nat} {yrq : Nat → Nat} {w0q : Nat → Int64} {p0q : Nat → Int32} (h1 : 2 ≤ lq) (h2 : lq ≤ 12) (hn : nq ≤ 24) : LaidO (stb (sta (sti τq (32 + lq) 2 (nI (ouS yrq nq lq (fun _ => 0, w0q, 0) lq).2.2)) (45 + lq) (mixp (ouS yrq nq lq (fun _ => 0, w0q, 0) lq).1 (ouS yrq nq lq (fun _ => 0, w0q, 0) lq).2.2 p0q)) (58 + lq) (ouS yrq nq lq (fun _ => 0, w0q, 0) lq).2.1) lq yrq nq := by
  have hc := ouS_c (yrq := yrq) (nq := nq) (lq := lq) (tt := (fun _ => 0, w0q, 0)) rfl lq
  have hl := cumR_le yrq lq lq nq
  have hp := pl_out (yrq := yrq) (nq := nq) (lq := lq) (tt := (fun _ => 0, w0q, 0)) rfl lq
  refine ⟨(ouS yrq nq lq (fun _ => 0, w0q, 0) lq).1, (ouS yrq nq lq (fun _ => 0, w0q, 0) lq).2.2, ?_, by omega, ?_, ?_, ?_⟩
  · simp (disch := omega) only [stb_ne, sta_ne, sti_eq]
  · intro jq hj
    simp (disch := omega) only [stb_ne, sta_eq]
    exact if_pos hj
  · intro jq hj
    have := hp jq hj
    omega
  · intro xf
    simp only [stb_eq]
    rw [w_out rfl hn]
    rfl
theorem laid_old {τq : Sto} {lq jq nq : Nat} {yrq : Nat → Nat} {wf : Nat → Int64} {pf2 : Nat → Int32} {vz : Int32} (h : LaidO τq jq yrq nq) (hne : jq ≠ lq) (h1 : jq ≤ 12) (h2 : lq ≤ 12) : LaidO (stb (sta (sti τq (32 + lq) 2 vz) (45 + lq) pf2) (58 + lq) wf) jq yrq nq := by
  obtain ⟨qf, kq, a1, a2, a3, a4, a5⟩ := h
  refine ⟨qf, kq, ?_, a2, ?_, a4, ?_⟩
  · simp (disch := omega) only [stb_ne, sta_ne, sti_ne]; exact a1
  · simp (disch := omega) only [stb_ne, sta_ne, sti_ne]; exact a3
  · simp (disch := omega) only [stb_ne, sta_ne, sti_ne]; exact a5
/-- the first length with the greatest weight, of the lengths f1q, f1q + 1 .. -/
def fgS (yrq : Nat → Nat) (nq : Nat) (xf : Nat → Int32) (f1q : Nat) : Nat → Nat × Int64
  | 0 => (f1q, -1)
  | iq + 1 => if wgt yrq nq (f1q + iq) xf ≤ (fgS yrq nq xf f1q iq).2 then fgS yrq nq xf f1q iq else (f1q + iq, wgt yrq nq (f1q + iq) xf)
theorem fgS_k1 {yrq : Nat → Nat} {nq f1q iq : Nat} {xf : Nat → Int32} (h : wgt yrq nq (f1q + iq) xf ≤ (fgS yrq nq xf f1q iq).2) : (fgS yrq nq xf f1q iq).1 = (fgS yrq nq xf f1q (iq + 1)).1 := by
  show _ = (if _ then _ else _ : Nat × Int64).1
  rw [if_pos h]
theorem fgS_k2 {yrq : Nat → Nat} {nq f1q iq : Nat} {xf : Nat → Int32} (h : wgt yrq nq (f1q + iq) xf ≤ (fgS yrq nq xf f1q iq).2) : (fgS yrq nq xf f1q iq).2 = (fgS yrq nq xf f1q (iq + 1)).2 := by
  show _ = (if _ then _ else _ : Nat × Int64).2
  rw [if_pos h]
theorem fgS_t1 {yrq : Nat → Nat} {nq f1q iq : Nat} {xf : Nat → Int32} (h : ¬ wgt yrq nq (f1q + iq) xf ≤ (fgS yrq nq xf f1q iq).2) : f1q + iq = (fgS yrq nq xf f1q (iq + 1)).1 := by
  show _ = (if _ then _ else _ : Nat × Int64).1
  rw [if_neg h]
theorem fgS_t2 {yrq : Nat → Nat} {nq f1q iq : Nat} {xf : Nat → Int32} (h : ¬ wgt yrq nq (f1q + iq) xf ≤ (fgS yrq nq xf f1q iq).2) : wgt yrq nq (f1q + iq) xf = (fgS yrq nq xf f1q (iq + 1)).2 := by
  show _ = (if _ then _ else _ : Nat × Int64).2
  rw [if_neg h]
theorem fgS_in {yrq : Nat → Nat} {nq f1q : Nat} {xf : Nat → Int32} : ∀ iq, f1q ≤ (fgS yrq nq xf f1q iq).1 ∧ ((fgS yrq nq xf f1q iq).1 < f1q + iq ∨ (fgS yrq nq xf f1q iq).1 = f1q)
  | 0 => ⟨Nat.le_refl _, Or.inr rfl⟩
  | iq + 1 => by
    have h0 := fgS_in (yrq := yrq) (nq := nq) (f1q := f1q) (xf := xf) iq
    by_cases h : wgt yrq nq (f1q + iq) xf ≤ (fgS yrq nq xf f1q iq).2
    · rw [← fgS_k1 h]; omega
    · rw [← fgS_t1 h]; omega
def rchB (yrq : Nat → Nat) (nq : Nat) (xf : Nat → Int32) (glq : Int64) (f1q : Nat) : Nat → Bool
  | 0 => false
  | iq + 1 => if glq ≤ wgt yrq nq (f1q + iq) xf then true else rchB yrq nq xf glq f1q iq
theorem rch_y {yrq : Nat → Nat} {nq f1q iq : Nat} {xf : Nat → Int32} {glq : Int64} (h : glq ≤ wgt yrq nq (f1q + iq) xf) : rchB yrq nq xf glq f1q (iq + 1) = true := if_pos h
theorem rch_n {yrq : Nat → Nat} {nq f1q iq : Nat} {xf : Nat → Int32} {glq : Int64} (h : ¬ glq ≤ wgt yrq nq (f1q + iq) xf) : rchB yrq nq xf glq f1q (iq + 1) = rchB yrq nq xf glq f1q iq := if_neg h
