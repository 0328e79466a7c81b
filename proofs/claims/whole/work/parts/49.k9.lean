/-! the orders that the class goes through: each once, none left out -/
def vsL (nq : Nat) : Nat → (Nat → Int32) → List (List Int32)
  | 0, _ => []
  | fuq + 1, xf => toL nq xf :: (if 0 < riS xf (nq - 1) then vsL nq fuq (nxS xf nq) else [])
def edB (nq : Nat) : Nat → (Nat → Int32) → Bool
  | 0, _ => false
  | fuq + 1, xf => if 0 < riS xf (nq - 1) then edB nq fuq (nxS xf nq) else true
theorem toL_inj {nq : Nat} {xf x2 : Nat → Int32} : toL nq xf = toL nq x2 ↔ agr nq xf x2 := by
  unfold toL agr
  rw [List.map_inj_left]
  constructor
  · intro h iq hi; exact h iq (List.mem_range.mpr hi)
  · intro h iq hi; exact h iq (List.mem_range.mp hi)
theorem lex_agr {nq : Nat} {xf x2 : Nat → Int32} (h : lexL nq xf x2) : ¬ agr nq xf x2 := by
  obtain ⟨dq, d1, d2, d3⟩ := h
  intro ha
  rw [ha dq d1] at d3
  omega
theorem lex_tr {nq : Nat} {xf x2 x3 : Nat → Int32} (h : lexL nq xf x2) (h2 : agr nq x2 x3 ∨ lexL nq x2 x3) : lexL nq xf x3 := by
  obtain ⟨dq, d1, d2, d3⟩ := h
  rcases h2 with h2 | ⟨eq1, e1, e2, e3⟩
  · exact ⟨dq, d1, fun iq hi => by rw [d2 iq hi]; exact h2 iq (by omega), by rw [← h2 dq d1]; exact d3⟩
  · rcases Nat.lt_or_ge dq eq1 with q | q
    · exact ⟨dq, d1, fun iq hi => by rw [d2 iq hi]; exact e2 iq (by omega), by rw [← e2 dq q]; exact d3⟩
    · rcases Nat.lt_or_ge eq1 dq with q2 | q2
      · exact ⟨eq1, e1, fun iq hi => by rw [d2 iq (by omega)]; exact e2 iq hi, by rw [d2 eq1 q2]; exact e3⟩
      · rw [show eq1 = dq by omega] at e2 e3
        exact ⟨dq, d1, fun iq hi => by rw [d2 iq hi]; exact e2 iq hi, by omega⟩
theorem vs_spec {nq : Nat} {x0 : Nat → Int32} (hn : 1 ≤ nq) (hn2 : nq ≤ 24) : ∀ (fuq : Nat) (xf : Nat → Int32), oIn nq x0 xf → (∀ ls, ls ∈ vsL nq fuq xf → ∃ hf, ls = toL nq hf ∧ oIn nq x0 hf ∧ (agr nq xf hf ∨ lexL nq xf hf)) ∧ (vsL nq fuq xf).Nodup
  | 0, xf, _ => ⟨fun ls h => absurd h List.not_mem_nil, List.nodup_nil⟩
  | fuq + 1, xf, h => by
    unfold vsL
    by_cases hr : 0 < riS xf (nq - 1)
    · rw [if_pos hr]
      obtain ⟨i1, i2⟩ := vs_spec hn hn2 fuq (nxS xf nq) (oIn_nx hn h)
      obtain ⟨s1, -⟩ := nx_succ hn hn2 h hr
      have i3 : ∀ ls, ls ∈ vsL nq fuq (nxS xf nq) → ∃ hf, ls = toL nq hf ∧ oIn nq x0 hf ∧ lexL nq xf hf := fun ls hl => by
        obtain ⟨hf, a1, a2, a3⟩ := i1 ls hl
        exact ⟨hf, a1, a2, lex_tr s1 a3⟩
      refine ⟨fun ls hl => ?_, List.nodup_cons.mpr ⟨fun hl => ?_, i2⟩⟩
      · rcases List.mem_cons.mp hl with e | e
        · exact ⟨xf, e, h, Or.inl (fun _ _ => rfl)⟩
        · obtain ⟨hf, a1, a2, a3⟩ := i3 ls e
          exact ⟨hf, a1, a2, Or.inr a3⟩
      · obtain ⟨hf, a1, a2, a3⟩ := i3 _ hl
        exact lex_agr a3 (toL_inj.mp a1)
    · rw [if_neg hr]
      refine ⟨fun ls hl => ?_, List.nodup_cons.mpr ⟨List.not_mem_nil, List.nodup_nil⟩⟩
      have e : ls = toL nq xf := by simpa using hl
      exact ⟨xf, e, h, Or.inl (fun _ _ => rfl)⟩
theorem vs_cov {nq : Nat} {x0 gf : Nat → Int32} (hn : 1 ≤ nq) (hn2 : nq ≤ 24) (hg : oIn nq x0 gf) : ∀ (fuq : Nat) (xf : Nat → Int32), oIn nq x0 xf → edB nq fuq xf = true → (agr nq xf gf ∨ lexL nq xf gf) → toL nq gf ∈ vsL nq fuq xf
  | 0, xf, _, he, _ => by cases he
  | fuq + 1, xf, h, he, hc => by
    unfold vsL
    unfold edB at he
    rcases hc with hc | hc
    · rw [← toL_inj.mpr hc]; exact List.mem_cons_self
    · by_cases hr : 0 < riS xf (nq - 1)
      · rw [if_pos hr] at he
        rw [if_pos hr]
        exact List.mem_cons_of_mem _ (vs_cov hn hn2 hg fuq _ (oIn_nx hn h) he ((nx_succ hn hn2 h hr).2 gf hg hc))
      · exact absurd hc (nx_last h hg (by omega))
theorem vs_len {nq : Nat} : ∀ (fuq : Nat) (xf : Nat → Int32), edB nq fuq xf = false → (vsL nq fuq xf).length = fuq
  | 0, _, _ => rfl
  | fuq + 1, xf, h => by
    unfold edB at h
    unfold vsL
    by_cases hr : 0 < riS xf (nq - 1)
    · rw [if_pos hr] at h
      rw [if_pos hr, List.length_cons, vs_len fuq _ h]
    · rw [if_neg hr] at h; cases h
theorem fn_toL {nq : Nat} {xf : Nat → Int32} {iq : Nat} (h : iq < nq) : fnL (toL nq xf) iq = xf iq := by
  unfold fnL toL
  rw [List.getD_eq_getElem?_getD, List.getElem?_map, List.getElem?_range h]
  rfl
theorem co_vs {yrq : Nat → Nat} {nq f1q wq : Nat} {glq : Int64} : ∀ (fuq : Nat) (xf : Nat → Int32), coR yrq nq f1q wq glq fuq xf = ((vsL nq fuq xf).countP (fun ls => rchB yrq nq (fnL ls) glq f1q wq), (vsL nq fuq xf).length)
  | 0, _ => rfl
  | fuq + 1, xf => by
    have e : rchB yrq nq (fnL (toL nq xf)) glq f1q wq = rchB yrq nq xf glq f1q wq := rch_cong (fun jq hj => fn_toL hj) wq
    unfold vsL
    by_cases hr : 0 < riS xf (nq - 1)
    · rw [coR_y hr, if_pos hr, List.countP_cons, List.length_cons, co_vs fuq (nxS xf nq), e]
      exact Prod.ext (Nat.add_comm _ _) (Nat.add_comm _ _)
    · rw [coR_n hr, if_neg hr, List.countP_cons, e]
      exact Prod.ext (Nat.zero_add _).symm rfl
/-! orders as lists -/
def adL (wf : Int32 → Int) : List Int32 → Int
  | [] => 0
  | zz :: ls => wf zz + adL wf ls
theorem adL_app (wf : Int32 → Int) (zz : Int32) : ∀ ls : List Int32, adL wf (ls ++ [zz]) = adL wf ls + wf zz
  | [] => by show wf zz + 0 = 0 + wf zz; omega
  | yy :: ls => by
    show wf yy + adL wf (ls ++ [zz]) = wf yy + adL wf ls + wf zz
    rw [adL_app wf zz ls]
    omega
theorem toL_s (nq : Nat) (xf : Nat → Int32) : toL (nq + 1) xf = toL nq xf ++ [xf nq] := by
  unfold toL
  rw [List.range_succ, List.map_append]
  rfl
theorem ad_L (wf : Int32 → Int) (xf : Nat → Int32) : ∀ nq, adF wf xf nq = adL wf (toL nq xf)
  | 0 => rfl
  | nq + 1 => by
    rw [toL_s, adL_app, ← ad_L wf xf nq]
    rfl
theorem adL_perm (wf : Int32 → Int) {ls l2 : List Int32} (h : List.Perm ls l2) : adL wf ls = adL wf l2 := by
  induction h with
  | nil => rfl
  | cons zz _ ih => show wf zz + _ = wf zz + _; rw [ih]
  | swap aa bb ls => show wf bb + (wf aa + adL wf ls) = wf aa + (wf bb + adL wf ls); omega
  | trans _ _ ih1 ih2 => exact ih1.trans ih2
theorem cnt_L (vz : Int32) : ∀ ls : List Int32, ((ls.count vz : Nat) : Int) = adL (oneW vz) ls
  | [] => rfl
  | yy :: ls => by
    rw [List.count_cons]
    show _ = oneW vz yy + adL (oneW vz) ls
    rw [← cnt_L vz ls]
    unfold oneW
    by_cases e : yy = vz
    · subst e; simp; omega
    · simp [e]
theorem oIn_perm {nq : Nat} {x0 gf : Nat → Int32} (h : oIn nq x0 gf) : List.Perm (toL nq gf) (toL nq x0) := by
  apply List.perm_iff_count.mpr
  intro vz
  have h1 := h.2 (oneW vz)
  rw [ad_L, ad_L, ← cnt_L, ← cnt_L] at h1
  omega
theorem toL_len (nq : Nat) (xf : Nat → Int32) : (toL nq xf).length = nq := by unfold toL; rw [List.length_map, List.length_range]
theorem toL_fn {nq : Nat} {ls : List Int32} (h : ls.length = nq) : toL nq (fnL ls) = ls := by
  apply List.ext_getElem?
  intro iq
  unfold toL fnL
  rw [List.getElem?_map]
  rcases Nat.lt_or_ge iq nq with h1 | h1
  · rw [List.getElem?_range h1]
    show some (ls.getD iq 0) = _
    rw [List.getD_eq_getElem?_getD, List.getElem?_eq_getElem (by omega)]
    rfl
  · rw [List.getElem?_eq_none (by rw [List.length_range]; exact h1), List.getElem?_eq_none (by omega)]
    rfl
theorem perm_oIn {nq : Nat} {x0 : Nat → Int32} {ls : List Int32} (h : List.Perm ls (toL nq x0)) : ls.length = nq ∧ oIn nq x0 (fnL ls) := by
  have hl : ls.length = nq := by rw [h.length_eq, toL_len]
  refine ⟨hl, fun iq hi => ?_, fun wf => ?_⟩
  · have h1 : fnL ls iq ∈ ls := by
      unfold fnL
      rw [List.getD_eq_getElem?_getD, List.getElem?_eq_getElem (by omega)]
      exact List.getElem_mem _
    have h2 := h.mem_iff.mp h1
    unfold toL at h2
    rw [List.mem_map] at h2
    obtain ⟨jq, h3, h4⟩ := h2
    exact ⟨jq, List.mem_range.mp h3, h4.symm⟩
  · rw [ad_L, ad_L, toL_fn hl]
    exact adL_perm wf h
def facq : Nat → Nat
  | 0 => 1
  | nq + 1 => (nq + 1) * facq nq
theorem ins_len {α : Type} (xq : α) : ∀ bs : List α, (insA xq bs).length = bs.length + 1
  | [] => rfl
  | yq :: ys => by
    unfold insA
    rw [List.length_cons, List.length_map, ins_len xq ys, List.length_cons]
theorem flat_len {α : Type} {fq : List α → List (List α)} {cq : Nat} : ∀ ms : List (List α), (∀ bs, bs ∈ ms → (fq bs).length = cq) → (ms.flatMap fq).length = cq * ms.length
  | [], _ => rfl
  | bs :: ms, h => by
    rw [List.flatMap_cons, List.length_append, h bs List.mem_cons_self, flat_len ms (fun cs hc => h cs (List.mem_cons_of_mem _ hc)), List.length_cons, Nat.mul_add]
    omega
theorem prm_len {α : Type} : ∀ lq : List α, (prm lq).length = facq lq.length
  | [] => rfl
  | xq :: lq => by
    show ((prm lq).flatMap (insA xq)).length = (lq.length + 1) * facq lq.length
    rw [flat_len (cq := lq.length + 1) (prm lq) (fun bs hb => by rw [ins_len, (prm_perm lq bs hb).length_eq]), prm_len lq]
theorem fac_le : ∀ nq, nq < 8 → facq nq ≤ 5040 := by decide
/-- of all orders, those that are as much: as of those that look different -/
theorem ord_e {nq : Nat} {x0 : Nat → Int32} (hn : 1 ≤ nq) (hn7 : nq ≤ 7) (pb : List Int32 → Bool) : (prm (toL nq x0)).countP pb = mulF (toL nq x0) * (vsL nq 5040 (srS x0 nq)).countP pb ∧ (prm (toL nq x0)).length = mulF (toL nq x0) * (vsL nq 5040 (srS x0 nq)).length := by
  have hs := oIn_sr (x0 := x0) nq (Nat.le_refl nq)
  obtain ⟨v1, v2⟩ := vs_spec hn (by omega) 5040 (srS x0 nq) hs
  have v3 : ∀ ls, ls ∈ vsL nq 5040 (srS x0 nq) → (prm (toL nq x0)).count ls = mulF (toL nq x0) := fun ls hl => by
    obtain ⟨hf, a1, a2, -⟩ := v1 ls hl
    rw [a1]
    exact prm_count _ _ (oIn_perm a2)
  have hp := mulF_pos (toL nq x0)
  have v4 : ∀ ls, ls ∈ prm (toL nq x0) → ls ∈ vsL nq 5040 (srS x0 nq) := by
    cases he : edB nq 5040 (srS x0 nq) with
    | true =>
      intro ls hl
      obtain ⟨h1, h2⟩ := perm_oIn (prm_perm _ ls hl)
      rw [← toL_fn h1]
      exact vs_cov hn (by omega) h2 5040 (srS x0 nq) hs he (cmp_up (rq := 0) hs h2 (fun iq hi => absurd hi (Nat.not_lt_zero iq)) (fun aq bq _ h3 h4 => by
        rcases Nat.lt_or_ge aq bq with q | q
        · exact sr_up x0 nq aq bq q h4
        · rw [show aq = bq by omega]; exact Int.le_refl _))
    | false =>
      have hl := vs_len 5040 (srS x0 nq) he
      have hm := prm_len (toL nq x0)
      rw [toL_len] at hm
      have hf := fac_le nq (by omega)
      have hg := pig (vsL nq 5040 (srS x0 nq)) (prm (toL nq x0)) v2 (fun ls h => by rw [v3 ls h]; exact hp)
      exact hg.2 (by omega)
  refine ⟨cnt_fin pb _ _ _ v2 v3 v4, ?_⟩
  have h := cnt_fin (fun _ => true) _ _ _ v2 v3 v4
  simpa using h
