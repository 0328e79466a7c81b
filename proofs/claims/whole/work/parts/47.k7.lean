/-! all orders of a list, how often each comes -/
def insA {α : Type} (xq : α) : List α → List (List α)
  | [] => [[xq]]
  | yq :: ys => (xq :: yq :: ys) :: (insA xq ys).map (fun zs => yq :: zs)
def prm {α : Type} : List α → List (List α)
  | [] => [[]]
  | xq :: lq => (prm lq).flatMap (insA xq)
def eraA {α : Type} [DecidableEq α] (xq : α) : List α → List (List α)
  | [] => []
  | yq :: ys => (if yq = xq then [ys] else []) ++ (eraA xq ys).map (fun zs => yq :: zs)
def smL {α : Type} (fq : α → Nat) : List α → Nat
  | [] => 0
  | yq :: ys => fq yq + smL fq ys
theorem cnt_mapc {α : Type} [DecidableEq α] (cq yq : α) (cs : List α) : ∀ ls : List (List α), (ls.map (fun zs => yq :: zs)).count (cq :: cs) = if cq = yq then ls.count cs else 0
  | [] => by simp
  | zs :: ls => by
    have h := cnt_mapc cq yq cs ls
    rw [List.map_cons, List.count_cons, List.count_cons, h]
    by_cases e : cq = yq
    · subst e
      rw [if_pos rfl, if_pos rfl]
      congr 1
      by_cases e2 : zs = cs
      · subst e2; simp
      · simp [e2]
    · rw [if_neg e, if_neg e]
      have e2 : ¬ yq = cq := fun z => e z.symm
      simp [e2]
theorem ins_era {α : Type} [DecidableEq α] (xq : α) : ∀ (bs as : List α), (insA xq bs).count as = (eraA xq as).count bs
  | [], [] => by simp [insA, eraA]
  | [], [yq] => by
    by_cases e : yq = xq
    · subst e; simp [insA, eraA]
    · have e2 : ¬ xq = yq := fun z => e z.symm
      simp [insA, eraA, e, List.count_cons, e2]
  | [], yq :: zq :: zs => by
    have h1 : (insA xq ([] : List α)).count (yq :: zq :: zs) = 0 := by simp [insA]
    rw [h1]
    symm
    apply List.count_eq_zero.mpr
    unfold eraA
    intro hm
    rw [List.mem_append] at hm
    rcases hm with hm | hm
    · split at hm
      · simp at hm
      · simp at hm
    · simp at hm
  | yq :: ys, [] => by
    show List.count [] ((xq :: yq :: ys) :: (insA xq ys).map (fun zs => yq :: zs)) = 0
    apply List.count_eq_zero.mpr
    simp
  | yq :: ys, cq :: cs => by
    have ih := ins_era xq ys cs
    show List.count (cq :: cs) ((xq :: yq :: ys) :: (insA xq ys).map (fun zs => yq :: zs)) = List.count (yq :: ys) ((if cq = xq then [cs] else []) ++ (eraA xq cs).map (fun zs => cq :: zs))
    rw [List.count_cons, List.count_append, cnt_mapc, cnt_mapc, ih, Nat.add_comm]
    congr 1
    · by_cases e : cq = xq
      · subst e
        rw [if_pos rfl]
        by_cases e2 : cs = yq :: ys
        · subst e2; simp
        · have : ¬ (yq :: ys) = cs := fun z => e2 z.symm
          simp [e2, this]
      · rw [if_neg e]
        have e2 : ¬ xq = cq := fun z => e z.symm
        simp [e2]
    · by_cases e : cq = yq
      · rw [if_pos e, if_pos e.symm]
      · rw [if_neg e, if_neg (fun z => e z.symm)]
theorem smL_cong {α : Type} {fq gq : α → Nat} : ∀ {ls : List α}, (∀ xq, xq ∈ ls → fq xq = gq xq) → smL fq ls = smL gq ls
  | [], _ => rfl
  | yq :: ys, h => by
    unfold smL
    rw [h yq (List.mem_cons_self), smL_cong (fun xq hx => h xq (List.mem_cons_of_mem _ hx))]
theorem smL_zero {α : Type} : ∀ ls : List α, smL (fun _ => 0) ls = 0
  | [] => rfl
  | _ :: ys => by unfold smL; rw [smL_zero ys]
theorem smL_add {α : Type} (fq gq : α → Nat) : ∀ ls : List α, smL (fun xq => fq xq + gq xq) ls = smL fq ls + smL gq ls
  | [] => rfl
  | yq :: ys => by unfold smL; rw [smL_add fq gq ys]; omega
theorem smL_const {α : Type} (cq : Nat) : ∀ ls : List α, smL (fun _ => cq) ls = ls.length * cq
  | [] => by unfold smL; simp
  | _ :: ys => by unfold smL; rw [smL_const cq ys, List.length_cons, Nat.add_mul]; omega
theorem smL_one {α : Type} [BEq α] (eq1 : α) : ∀ ls : List α, smL (fun bq => if (bq == eq1) = true then 1 else 0) ls = ls.count eq1
  | [] => rfl
  | yq :: ys => by
    unfold smL
    rw [smL_one eq1 ys, List.count_cons]
    omega
theorem dbl {α : Type} [BEq α] [LawfulBEq α] (ms : List α) : ∀ es : List α, smL (fun bq => es.count bq) ms = smL (fun eq1 => ms.count eq1) es
  | [] => by
    show smL (fun bq => ([] : List α).count bq) ms = 0
    rw [smL_cong (gq := fun _ => 0) (fun xq _ => by simp), smL_zero]
  | eq1 :: es => by
    have h : smL (fun bq => (eq1 :: es).count bq) ms = smL (fun bq => es.count bq + (if (bq == eq1) = true then 1 else 0)) ms := smL_cong (fun bq _ => by
      rw [List.count_cons]
      congr 1
      have e : (eq1 == bq) = (bq == eq1) := by
        rw [Bool.eq_iff_iff, beq_iff_eq, beq_iff_eq]
        exact ⟨fun z => z.symm, fun z => z.symm⟩
      rw [e])
    rw [h, smL_add, dbl ms es, smL_one]
    show _ = ms.count eq1 + smL (fun eq1 => ms.count eq1) es
    omega
theorem cnt_flat {α : Type} [DecidableEq α] {fq : List α → List (List α)} (as : List α) : ∀ ms : List (List α), (ms.flatMap fq).count as = smL (fun bs => (fq bs).count as) ms
  | [] => rfl
  | bs :: ms => by
    rw [List.flatMap_cons, List.count_append, cnt_flat as ms]
    rfl
theorem era_len {α : Type} [DecidableEq α] (xq : α) : ∀ as : List α, (eraA xq as).length = as.count xq
  | [] => rfl
  | yq :: ys => by
    unfold eraA
    rw [List.length_append, List.length_map, era_len xq ys, List.count_cons]
    by_cases e : yq = xq
    · subst e; simp; omega
    · simp [e]
theorem era_perm {α : Type} [DecidableEq α] (xq : α) : ∀ (as es : List α), es ∈ eraA xq as → List.Perm (xq :: es) as
  | [], es, h => by simp [eraA] at h
  | yq :: ys, es, h => by
    unfold eraA at h
    rw [List.mem_append] at h
    rcases h with h | h
    · split at h
      · rename_i e
        have : es = ys := by simpa using h
        subst this; subst e
        exact List.Perm.refl _
      · simp at h
    · rw [List.mem_map] at h
      obtain ⟨zs, h1, h2⟩ := h
      subst h2
      exact (List.Perm.swap yq xq zs).trans ((era_perm xq ys zs h1).cons yq)
def mulF {α : Type} [DecidableEq α] : List α → Nat
  | [] => 1
  | xq :: lq => (lq.count xq + 1) * mulF lq
theorem mulF_pos {α : Type} [DecidableEq α] : ∀ lq : List α, 0 < mulF lq
  | [] => by show 0 < 1; decide
  | xq :: lq => Nat.mul_pos (Nat.succ_pos _) (mulF_pos lq)
theorem prm_count {α : Type} [DecidableEq α] : ∀ (lq as : List α), List.Perm as lq → (prm lq).count as = mulF lq
  | [], as, h => by
    rw [List.Perm.eq_nil h]
    show List.count [] [[]] = 1
    simp
  | xq :: lq, as, h => by
    show ((prm lq).flatMap (insA xq)).count as = (lq.count xq + 1) * mulF lq
    rw [cnt_flat, smL_cong (gq := fun bs => (eraA xq as).count bs) (fun bs _ => ins_era xq bs as), dbl]
    rw [smL_cong (gq := fun _ => mulF lq) (fun es he => prm_count lq es ((List.perm_cons xq).mp ((era_perm xq as es he).trans h))), smL_const, era_len, h.count_eq, List.count_cons]
    simp
theorem ins_perm {α : Type} (xq : α) : ∀ (bs as : List α), as ∈ insA xq bs → List.Perm as (xq :: bs)
  | [], as, h => by
    have : as = [xq] := by simpa [insA] using h
    rw [this]
  | yq :: ys, as, h => by
    unfold insA at h
    rw [List.mem_cons] at h
    rcases h with h | h
    · rw [h]
    · rw [List.mem_map] at h
      obtain ⟨zs, h1, h2⟩ := h
      subst h2
      exact ((ins_perm xq ys zs h1).cons yq).trans (List.Perm.swap xq yq ys)
theorem prm_perm {α : Type} : ∀ (lq as : List α), as ∈ prm lq → List.Perm as lq
  | [], as, h => by
    have : as = [] := by simpa [prm] using h
    rw [this]
  | xq :: lq, as, h => by
    have h2 : as ∈ (prm lq).flatMap (insA xq) := h
    rw [List.mem_flatMap] at h2
    obtain ⟨bs, h3, h4⟩ := h2
    exact (ins_perm xq bs as h4).trans ((prm_perm lq bs h3).cons xq)
theorem prm_mem {α : Type} [DecidableEq α] {lq as : List α} (h : List.Perm as lq) : as ∈ prm lq := by
  have h1 := prm_count lq as h
  have h2 := mulF_pos lq
  exact List.count_pos_iff.mp (by omega)
theorem ins_map {α β : Type} (fq : α → β) (xq : α) : ∀ bs : List α, insA (fq xq) (bs.map fq) = (insA xq bs).map (List.map fq)
  | [] => rfl
  | yq :: ys => by
    show (fq xq :: fq yq :: ys.map fq) :: (insA (fq xq) (ys.map fq)).map (fun zs => fq yq :: zs) = _
    rw [ins_map fq xq ys]
    show _ = List.map (List.map fq) ((xq :: yq :: ys) :: (insA xq ys).map (fun zs => yq :: zs))
    rw [List.map_cons, List.map_map, List.map_map]
    rfl
theorem flat_map2 {α β : Type} {fq : List α → List (List α)} {gq : List β → List (List β)} {hq : List α → List β} (h : ∀ bs, gq (hq bs) = (fq bs).map hq) : ∀ ms : List (List α), (ms.map hq).flatMap gq = (ms.flatMap fq).map hq
  | [] => rfl
  | bs :: ms => by
    rw [List.map_cons, List.flatMap_cons, List.flatMap_cons, List.map_append, flat_map2 h ms, h bs]
theorem prm_map {α β : Type} (fq : α → β) : ∀ lq : List α, prm (lq.map fq) = (prm lq).map (List.map fq)
  | [] => rfl
  | xq :: lq => by
    show (prm (lq.map fq)).flatMap (insA (fq xq)) = ((prm lq).flatMap (insA xq)).map (List.map fq)
    rw [prm_map fq lq]
    exact flat_map2 (ins_map fq xq) (prm lq)
/-! lists held against each other -/
theorem cP_split {α : Type} [BEq α] [LawfulBEq α] (pb : α → Bool) (vq : α) : ∀ ms : List α, ms.countP pb = (ms.filter (fun aq => !(aq == vq))).countP pb + (if pb vq = true then ms.count vq else 0)
  | [] => by simp
  | yq :: ys => by
    have h := cP_split pb vq ys
    rw [List.countP_cons, h, List.filter_cons, List.count_cons]
    by_cases e : (yq == vq) = true
    · have e3 : yq = vq := beq_iff_eq.mp e
      subst e3
      rw [e]
      by_cases e2 : pb yq = true
      · simp [e2]; omega
      · simp [e2]
    · have e3 : (yq == vq) = false := by simpa using e
      rw [e3]
      by_cases e2 : pb yq = true
      · simp [e2]; omega
      · simp [e2]
theorem cP_len {α : Type} [BEq α] [LawfulBEq α] (vq : α) (ms : List α) : ms.length = (ms.filter (fun aq => !(aq == vq))).length + ms.count vq := by
  have h := cP_split (fun _ => true) vq ms
  simpa using h
theorem cnt_filt {α : Type} [BEq α] [LawfulBEq α] {vq aq : α} (h : aq ≠ vq) (ms : List α) : (ms.filter (fun bq => !(bq == vq))).count aq = ms.count aq := by
  rw [List.count_filter (by simp [h])]
theorem cnt_fin {α : Type} [BEq α] [LawfulBEq α] (pb : α → Bool) (cq : Nat) : ∀ (vs ms : List α), vs.Nodup → (∀ aq, aq ∈ vs → ms.count aq = cq) → (∀ aq, aq ∈ ms → aq ∈ vs) → ms.countP pb = cq * vs.countP pb
  | [], ms, _, _, h => by
    have : ms = [] := List.eq_nil_iff_forall_not_mem.mpr (fun aq ha => absurd (h aq ha) List.not_mem_nil)
    rw [this]; simp
  | vq :: vs, ms, hn, hc, hm => by
    rw [List.nodup_cons] at hn
    have ih := cnt_fin pb cq vs (ms.filter (fun aq => !(aq == vq))) hn.2 (fun aq ha => by
      have hne : aq ≠ vq := fun e => hn.1 (e ▸ ha)
      rw [cnt_filt hne]; exact hc aq (List.mem_cons_of_mem _ ha)) (fun aq ha => by
      rw [List.mem_filter] at ha
      have hne : aq ≠ vq := by simpa using ha.2
      exact (List.mem_cons.mp (hm aq ha.1)).resolve_left hne)
    rw [cP_split pb vq ms, ih, hc vq List.mem_cons_self, List.countP_cons, Nat.mul_add]
    by_cases e : pb vq = true
    · rw [if_pos e, if_pos e, Nat.mul_one]
    · rw [if_neg e, if_neg e, Nat.mul_zero]
theorem pig {α : Type} [BEq α] [LawfulBEq α] : ∀ (vs ms : List α), vs.Nodup → (∀ aq, aq ∈ vs → 1 ≤ ms.count aq) → vs.length ≤ ms.length ∧ (vs.length = ms.length → ∀ aq, aq ∈ ms → aq ∈ vs)
  | [], ms, _, _ => ⟨Nat.zero_le _, fun h aq ha => by
    have : ms = [] := List.eq_nil_of_length_eq_zero h.symm
    rw [this] at ha; exact absurd ha List.not_mem_nil⟩
  | vq :: vs, ms, hn, hc => by
    rw [List.nodup_cons] at hn
    have ih := pig vs (ms.filter (fun aq => !(aq == vq))) hn.2 (fun aq ha => by
      have hne : aq ≠ vq := fun e => hn.1 (e ▸ ha)
      rw [cnt_filt hne]; exact hc aq (List.mem_cons_of_mem _ ha))
    have h1 := cP_len vq ms
    have h2 := hc vq List.mem_cons_self
    rw [List.length_cons]
    refine ⟨by omega, fun he aq ha => ?_⟩
    by_cases e : aq = vq
    · rw [e]; exact List.mem_cons_self
    · exact List.mem_cons_of_mem _ (ih.2 (by omega) aq (List.mem_filter.mpr ⟨ha, by simp [e]⟩))
