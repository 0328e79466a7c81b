/-! two rows, waves, orders: what the class's calls compute -/
def tgs (cb : Nat → Bool) (hf2 : Nat → Int64) : Nat → Int64
  | 0 => 0
  | yq + 1 => if cb yq = true then tgs cb hf2 yq + hf2 yq else tgs cb hf2 yq
theorem tgs_y {cb : Nat → Bool} {hf2 : Nat → Int64} {yq : Nat} (h : cb yq = true) : tgs cb hf2 yq + hf2 yq = tgs cb hf2 (yq + 1) := (if_pos h).symm
theorem tgs_n {cb : Nat → Bool} {hf2 : Nat → Int64} {yq : Nat} (h : cb yq = false) : tgs cb hf2 yq = tgs cb hf2 (yq + 1) := (if_neg (by rw [h]; decide)).symm
theorem tgs_cong {cb c2 : Nat → Bool} {hf2 h2 : Nat → Int64} : ∀ {nq : Nat}, (∀ yq, yq < nq → cb yq = c2 yq ∧ hf2 yq = h2 yq) → tgs cb hf2 nq = tgs c2 h2 nq
  | 0, _ => rfl
  | nq + 1, h => by
    unfold tgs
    rw [tgs_cong (fun yq hy => h yq (Nat.lt_succ_of_lt hy)), (h nq (Nat.lt_succ_self nq)).1, (h nq (Nat.lt_succ_self nq)).2]
def tgc (af bf : Nat → Int32) (kq : Nat) : Nat → Bool := fun yq => !(decide (af yq = -1000000)) && !(decide (bf ((yq + 24 - kq) % 24) = -1000000))
def tga (af : Nat → Int32) : Nat → Int64 := fun yq => (af yq).toInt64
def tgb (bf : Nat → Int32) (kq : Nat) : Nat → Int64 := fun yq => (bf ((yq + 24 - kq) % 24)).toInt64
def tgN (af bf : Nat → Int32) (kq : Nat) : Int64 := tgs (tgc af bf kq) (fun _ => 1) 24
def tgA (af bf : Nat → Int32) (kq : Nat) : Int64 := tgs (tgc af bf kq) (tga af) 24
def tgB (af bf : Nat → Int32) (kq : Nat) : Int64 := tgs (tgc af bf kq) (tgb bf kq) 24
def tgAA (af bf : Nat → Int32) (kq : Nat) : Int64 := tgs (tgc af bf kq) (fun yq => tga af yq * tga af yq) 24
def tgBB (af bf : Nat → Int32) (kq : Nat) : Int64 := tgs (tgc af bf kq) (fun yq => tgb bf kq yq * tgb bf kq yq) 24
def tgAB (af bf : Nat → Int32) (kq : Nat) : Int64 := tgs (tgc af bf kq) (fun yq => tga af yq * tgb bf kq yq) 24
def tgU (af bf : Nat → Int32) (kq : Nat) : Int64 := (tgN af bf kq * tgAB af bf kq - tgA af bf kq * tgB af bf kq) * (tgN af bf kq * tgAB af bf kq - tgA af bf kq * tgB af bf kq)
def tgD (af bf : Nat → Int32) (kq : Nat) : Int64 := (tgN af bf kq * tgAA af bf kq - tgA af bf kq * tgA af bf kq) * (tgN af bf kq * tgBB af bf kq - tgB af bf kq * tgB af bf kq)
theorem gapL (vz : Int32) : (vz.toInt64 = -1000000) ↔ vz = -1000000 := by
  constructor
  · intro h
    apply Int32.toInt_inj.mp
    have := congrArg Int64.toInt h
    rw [Int32.toInt_toInt64] at this
    rw [this]
    decide
  · intro h; rw [h]; decide
theorem tg_ag {af a2 bf b2 : Nat → Int32} (ha : ∀ yq, yq < 24 → af yq = a2 yq) (hb : ∀ yq, yq < 24 → bf yq = b2 yq) (kq : Nat) : tgU af bf kq = tgU a2 b2 kq ∧ tgD af bf kq = tgD a2 b2 kq := by
  have hc : ∀ yq, yq < 24 → tgc af bf kq yq = tgc a2 b2 kq yq := fun yq hy => by
    unfold tgc
    rw [ha yq hy, hb _ (Nat.mod_lt _ (by decide))]
  have h1 : ∀ yq, yq < 24 → tga af yq = tga a2 yq := fun yq hy => by unfold tga; rw [ha yq hy]
  have h2 : ∀ yq, yq < 24 → tgb bf kq yq = tgb b2 kq yq := fun yq hy => by unfold tgb; rw [hb _ (Nat.mod_lt _ (by decide))]
  unfold tgU tgD tgN tgA tgB tgAA tgBB tgAB
  rw [tgs_cong (fun yq hy => ⟨hc yq hy, rfl⟩), tgs_cong (fun yq hy => ⟨hc yq hy, h1 yq hy⟩), tgs_cong (fun yq hy => ⟨hc yq hy, h2 yq hy⟩), tgs_cong (hf2 := fun yq => tga af yq * tga af yq) (h2 := fun yq => tga a2 yq * tga a2 yq) (fun yq hy => ⟨hc yq hy, by rw [h1 yq hy]⟩), tgs_cong (hf2 := fun yq => tgb bf kq yq * tgb bf kq yq) (h2 := fun yq => tgb b2 kq yq * tgb b2 kq yq) (fun yq hy => ⟨hc yq hy, by rw [h2 yq hy]⟩), tgs_cong (hf2 := fun yq => tga af yq * tgb bf kq yq) (h2 := fun yq => tga a2 yq * tgb b2 kq yq) (fun yq hy => ⟨hc yq hy, by rw [h1 yq hy, h2 yq hy]⟩)]
  exact ⟨rfl, rfl⟩
def goN (af bf : Nat → Int32) : Nat → Nat
  | 0 => 0
  | kq + 1 => if atlS 100 (fU (tgU af bf kq) (tgD af bf kq)) (fL (tgU af bf kq) (tgD af bf kq)) (fU (tgU af bf 0) (tgD af bf 0)) (fL (tgU af bf 0) (tgD af bf 0)) false = true then goN af bf kq + 1 else goN af bf kq
theorem goN_le (af bf : Nat → Int32) : ∀ kq, goN af bf kq ≤ kq
  | 0 => Nat.le_refl 0
  | kq + 1 => by
    have := goN_le af bf kq
    unfold goN
    split <;> omega
theorem goN_ag {af a2 bf b2 : Nat → Int32} (ha : ∀ yq, yq < 24 → af yq = a2 yq) (hb : ∀ yq, yq < 24 → bf yq = b2 yq) : ∀ kq, goN af bf kq = goN a2 b2 kq
  | 0 => rfl
  | kq + 1 => by
    unfold goN
    rw [goN_ag ha hb kq, (tg_ag ha hb kq).1, (tg_ag ha hb kq).2, (tg_ag ha hb 0).1, (tg_ag ha hb 0).2]
/-! waves -/
def topN (nq mq rq : Nat) : Nat := popc ((ndiff rq (rq * 2 ^ mq) &&& ndiff (rq * 2 ^ mq) rq / 2 ^ 1) &&& ndiff (2 ^ (nq - 1) - 1) (2 ^ mq - 1))
def wvS (nq mq : Nat) : Nat → Nat
  | 0 => 0
  | kq + 1 => wvS nq mq kq + topN nq mq kq
theorem wvS_le (nq mq : Nat) : ∀ kq, wvS nq mq kq ≤ 20 * kq
  | 0 => Nat.le_refl 0
  | kq + 1 => by
    have h := wvS_le nq mq kq
    have h2 : topN nq mq kq ≤ 20 := popc_le _
    show wvS nq mq kq + topN nq mq kq ≤ _
    omega
theorem neg_pow {mq : Nat} (h : mq ≤ 5) : -(nI (1 * 2 ^ mq)) = nI (2 ^ mq - 1) ^^^ (-1) := by
  have hh : ∀ mq : Fin 6, -(nI (1 * 2 ^ mq.val)) = nI (2 ^ mq.val - 1) ^^^ (-1) := by decide
  exact hh ⟨mq, by omega⟩
theorem nI_notP {aq mq : Nat} (h : mq ≤ 5) : nI aq &&& -(nI (1 * 2 ^ mq)) = nI (ndiff aq (2 ^ mq - 1)) := by rw [neg_pow h, nI_ndiff]
/-! orders -/
theorem swp_ag {xf x2 : Nat → Int32} {nq iq jq : Nat} (h : ∀ yq, yq < nq → xf yq = x2 yq) (hi : iq < nq) (hj : jq < nq) : ∀ yq, yq < nq → swp xf iq jq yq = swp x2 iq jq yq := by
  intro yq hy
  unfold swp upd
  rw [h yq hy, h iq hi, h jq hj]
theorem dr_ag {nq : Nat} : ∀ (kq : Nat) {xf x2 : Nat → Int32} {sdq : Nat}, kq < nq → (∀ yq, yq < nq → xf yq = x2 yq) → (∀ yq, yq < nq → (drS kq xf sdq).1 yq = (drS kq x2 sdq).1 yq) ∧ (drS kq xf sdq).2 = (drS kq x2 sdq).2
  | 0, _, _, _, _, h => ⟨h, rfl⟩
  | kq + 1, xf, x2, sdq, hk, h => by
    unfold drS
    exact dr_ag kq (by omega) (swp_ag h hk (by have := Nat.mod_lt (sdq * 16807 % 2147483647) (show 0 < kq + 1 + 1 by omega); omega))
def dnR (yrq : Nat → Nat) (nq lq : Nat) (glq : Int64) : Nat → (Nat → Int32) → Nat → Nat
  | 0, _, _ => 0
  | kq + 1, xf, sdq => (if rchB yrq nq (drS (nq - 1) xf sdq).1 glq lq (lq + 1 - lq) = true then 1 else 0) + dnR yrq nq lq glq kq (drS (nq - 1) xf sdq).1 (drS (nq - 1) xf sdq).2
theorem drS_0 (kq : Nat) (xf : Nat → Int32) (sdq : Nat) (h : kq = 0) : drS kq xf sdq = (xf, sdq) := by subst h; rfl
theorem dn_ag {yrq : Nat → Nat} {nq lq : Nat} {glq : Int64} : ∀ (kq : Nat) {xf x2 : Nat → Int32} {sdq : Nat}, (∀ yq, yq < nq → xf yq = x2 yq) → dnR yrq nq lq glq kq xf sdq = dnR yrq nq lq glq kq x2 sdq
  | 0, _, _, _, _ => rfl
  | kq + 1, xf, x2, sdq, h => by
    unfold dnR
    rcases Nat.eq_zero_or_pos nq with h0 | h0
    · rw [drS_0 (nq - 1) xf sdq (by omega), drS_0 (nq - 1) x2 sdq (by omega), rch_cong (x2 := x2) (fun jq hj => by omega), dn_ag kq (x2 := x2) (fun jq hj => by omega)]
    · have h1 := dr_ag (nq := nq) (nq - 1) (sdq := sdq) (by omega) h
      rw [rch_cong h1.1, h1.2, dn_ag kq h1.1]
theorem drS_lt : ∀ (kq : Nat) (xf : Nat → Int32) (sdq : Nat), sdq < 2147483648 → (drS kq xf sdq).2 < 2147483648
  | 0, _, _, h => h
  | kq + 1, xf, sdq, h => drS_lt kq _ _ (by omega)
theorem ri_ag {xf x2 : Nat → Int32} : ∀ {kq : Nat}, (∀ yq, yq < kq + 1 → xf yq = x2 yq) → riS xf kq = riS x2 kq
  | 0, _ => rfl
  | kq + 1, h => by
    unfold riS
    rw [h kq (by omega), h (kq + 1) (by omega), ri_ag (fun yq hy => h yq (by omega))]
theorem gr_ag {xf x2 : Nat → Int32} {rq : Nat} (hr : xf rq = x2 rq) : ∀ {kq : Nat}, (∀ yq, yq < kq + 1 → xf yq = x2 yq) → grS xf rq kq = grS x2 rq kq
  | 0, _ => rfl
  | kq + 1, h => by
    unfold grS
    rw [hr, h (kq + 1) (by omega), gr_ag hr (fun yq hy => h yq (by omega))]
theorem rv_ag {nq : Nat} : ∀ (fuq : Nat) {xf x2 : Nat → Int32} {iq jq : Nat}, (∀ yq, yq < nq → xf yq = x2 yq) → jq < nq → ∀ yq, yq < nq → rvS fuq xf iq jq yq = rvS fuq x2 iq jq yq
  | 0, _, _, _, _, h, _ => h
  | fuq + 1, xf, x2, iq, jq, h, hj => by
    unfold rvS
    split
    · exact h
    · exact rv_ag fuq (swp_ag h (by omega) hj) (by omega)
theorem nx_ag {nq : Nat} (hn : 1 ≤ nq) {xf x2 : Nat → Int32} (h : ∀ yq, yq < nq → xf yq = x2 yq) : ∀ yq, yq < nq → nxS xf nq yq = nxS x2 nq yq := by
  have h1 : riS xf (nq - 1) = riS x2 (nq - 1) := ri_ag (fun yq hy => h yq (by omega))
  have h2 := riS_le x2 (nq - 1)
  unfold nxS
  rw [h1]
  split
  · exact h
  · have h3 : grS xf (riS x2 (nq - 1) - 1) (nq - 1) = grS x2 (riS x2 (nq - 1) - 1) (nq - 1) := gr_ag (h _ (by omega)) (fun yq hy => h yq (by omega))
    have h4 := grS_le x2 (riS x2 (nq - 1) - 1) (nq - 1)
    rw [h3]
    exact rv_ag 24 (swp_ag h (by omega) (by omega)) (by omega)
theorem ins_ag {nq : Nat} : ∀ (iq : Nat) {xf x2 : Nat → Int32}, iq < nq → (∀ yq, yq < nq → xf yq = x2 yq) → ∀ yq, yq < nq → insS iq xf yq = insS iq x2 yq
  | 0, _, _, _, h => h
  | iq + 1, xf, x2, hi, h => by
    unfold insS
    rw [h iq (by omega), h (iq + 1) hi]
    split
    · exact h
    · exact ins_ag iq (by omega) (swp_ag h (by omega) hi)
theorem sr_ag {nq : Nat} {xf x2 : Nat → Int32} (h : ∀ yq, yq < nq → xf yq = x2 yq) : ∀ (eq1 : Nat), eq1 ≤ nq → ∀ yq, yq < nq → srS xf eq1 yq = srS x2 eq1 yq
  | 0, _ => h
  | eq1 + 1, he => by
    unfold srS
    exact ins_ag eq1 (by omega) (sr_ag h eq1 (by omega))
def coR (yrq : Nat → Nat) (nq f1q wq : Nat) (glq : Int64) : Nat → (Nat → Int32) → Nat × Nat
  | 0, _ => (0, 0)
  | fuq + 1, xf => if 0 < riS xf (nq - 1) then ((if rchB yrq nq xf glq f1q wq = true then 1 else 0) + (coR yrq nq f1q wq glq fuq (nxS xf nq)).1, 1 + (coR yrq nq f1q wq glq fuq (nxS xf nq)).2) else ((if rchB yrq nq xf glq f1q wq = true then 1 else 0), 1)
theorem co_ag {yrq : Nat → Nat} {nq f1q wq : Nat} {glq : Int64} (hn : 1 ≤ nq) : ∀ (fuq : Nat) {xf x2 : Nat → Int32}, (∀ yq, yq < nq → xf yq = x2 yq) → coR yrq nq f1q wq glq fuq xf = coR yrq nq f1q wq glq fuq x2
  | 0, _, _, _ => rfl
  | fuq + 1, xf, x2, h => by
    unfold coR
    rw [ri_ag (kq := nq - 1) (fun yq hy => h yq (by omega)), rch_cong h, co_ag hn fuq (nx_ag hn h)]
theorem co_le {yrq : Nat → Nat} {nq f1q wq : Nat} {glq : Int64} : ∀ (fuq : Nat) (xf : Nat → Int32), (coR yrq nq f1q wq glq fuq xf).1 ≤ (coR yrq nq f1q wq glq fuq xf).2 ∧ (coR yrq nq f1q wq glq fuq xf).2 ≤ fuq
  | 0, _ => ⟨Nat.le_refl 0, Nat.le_refl 0⟩
  | fuq + 1, xf => by
    have h := co_le (yrq := yrq) (nq := nq) (f1q := f1q) (wq := wq) (glq := glq) fuq (nxS xf nq)
    unfold coR
    split
    · show (if _ then 1 else 0) + _ ≤ 1 + _ ∧ 1 + _ ≤ _
      split <;> omega
    · show (if _ then 1 else 0) ≤ 1 ∧ 1 ≤ _
      split <;> omega
/-- where the count stands: reached, all, whether there are more, the order -/
def coI (yrq : Nat → Nat) (nq f1q wq : Nat) (glq : Int64) (alq req : Nat) (moq : Bool) (xf : Nat → Int32) : Nat × Nat := if moq = true then (req + (coR yrq nq f1q wq glq (5040 - alq) xf).1, alq + (coR yrq nq f1q wq glq (5040 - alq) xf).2) else (req, alq)
theorem coR_y {yrq : Nat → Nat} {nq f1q wq fuq : Nat} {glq : Int64} {xf : Nat → Int32} (h : 0 < riS xf (nq - 1)) : coR yrq nq f1q wq glq (fuq + 1) xf = ((if rchB yrq nq xf glq f1q wq = true then 1 else 0) + (coR yrq nq f1q wq glq fuq (nxS xf nq)).1, 1 + (coR yrq nq f1q wq glq fuq (nxS xf nq)).2) := if_pos h
theorem coR_n {yrq : Nat → Nat} {nq f1q wq fuq : Nat} {glq : Int64} {xf : Nat → Int32} (h : ¬ 0 < riS xf (nq - 1)) : coR yrq nq f1q wq glq (fuq + 1) xf = ((if rchB yrq nq xf glq f1q wq = true then 1 else 0), 1) := if_neg h
theorem coI_s {yrq : Nat → Nat} {nq f1q wq alq req : Nat} {glq : Int64} {xf : Nat → Int32} (h : alq < 5040) : coI yrq nq f1q wq glq alq req true xf = coI yrq nq f1q wq glq (alq + 1) (req + (if rchB yrq nq xf glq f1q wq = true then 1 else 0)) (decide (0 < riS xf (nq - 1))) (nxS xf nq) := by
  have e : 5040 - alq = (5040 - (alq + 1)) + 1 := by omega
  by_cases h1 : 0 < riS xf (nq - 1)
  · rw [decide_eq_true h1]
    show (req + (coR yrq nq f1q wq glq (5040 - alq) xf).1, alq + (coR yrq nq f1q wq glq (5040 - alq) xf).2) = (_ + (coR yrq nq f1q wq glq (5040 - (alq + 1)) (nxS xf nq)).1, (alq + 1) + (coR yrq nq f1q wq glq (5040 - (alq + 1)) (nxS xf nq)).2)
    rw [e, coR_y h1]
    exact Prod.ext (Nat.add_assoc _ _ _).symm (Nat.add_assoc _ _ _).symm
  · rw [decide_eq_false h1]
    show (req + (coR yrq nq f1q wq glq (5040 - alq) xf).1, alq + (coR yrq nq f1q wq glq (5040 - alq) xf).2) = (_, alq + 1)
    rw [e, coR_n h1]
theorem coI_e {yrq : Nat → Nat} {nq f1q wq alq req : Nat} {glq : Int64} {xf : Nat → Int32} {moq : Bool} (h : moq = false ∨ 5040 ≤ alq) : coI yrq nq f1q wq glq alq req moq xf = (req, alq) := by
  unfold coI
  cases moq with
  | false => rw [if_neg (by decide)]
  | true =>
    rw [if_pos rfl, show 5040 - alq = 0 by rcases h with h | h; exact absurd h (by decide); omega]
    rfl
theorem laid_ag {σ τq : Sto} {jq nq : Nat} {yrq : Nat → Nat} (h : ∀ cz, 32 ≤ cz → cz < 71 → τq cz = σ cz) (hj : jq ≤ 12) (hl : LaidO σ jq yrq nq) : LaidO τq jq yrq nq := by
  unfold LaidO
  rw [h (32 + jq) (by omega) (by omega), h (45 + jq) (by omega) (by omega), h (58 + jq) (by omega) (by omega)]
  exact hl
