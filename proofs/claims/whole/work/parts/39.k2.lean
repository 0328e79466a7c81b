/-! the model's fractions: percent, two rows -/
theorem keepM_sti {s0q τq : Sto} (h : keepM s0q τq) (cz kq : Nat) (vz : Int32) : keepM (sti s0q cz kq vz) (sti τq cz kq vz) := by
  refine ⟨fun dz a b => ?_, fun jq a b c d => ?_⟩
  · by_cases e : dz = cz
    · subst e; unfold sti stc; rw [if_pos rfl, if_pos rfl, h.1 dz a b]
    · rw [sti_ne e, sti_ne e, h.1 dz a b]
  · by_cases e : 11 = cz
    · subst e
      have := h.2 jq a b c d
      unfold sti stc upd
      simp only [if_true]
      split
      · rfl
      · exact this
    · rw [sti_ne e, sti_ne e]; exact h.2 jq a b c d
theorem nm_sti {s0q τq : Sto} {dfq : Nat → Int32} {endq : Nat} {xf : Nat → Int32} (h : NmX s0q τq dfq endq xf) (cz kq : Nat) (vz : Int32) (hc : 80 < cz) : NmX (sti s0q cz kq vz) (sti τq cz kq vz) dfq endq xf := by
  obtain ⟨a1, a2, a3, a4, a5⟩ := h
  refine ⟨?_, ?_, ?_, ?_, keepM_sti a5 cz kq vz⟩
  · rw [sti_ne (by omega)]; exact a1
  · rw [sti_ne (by omega)]; exact a2
  · rw [sti_ne (by omega)]; exact a3
  · rw [sti_ne (by omega)]; exact a4
theorem pct_0 {upq : Int64} : pctI (fU upq 0) (fL upq 0) = nI 0 := by
  have e1 : fU upq 0 = 0 := by
    unfold fU
    by_cases h0 : upq = 0
    · rw [if_pos h0]
    · rw [if_neg h0, if_pos (by decide)]
  have e2 : fL upq 0 = 1 := by
    unfold fL
    by_cases h0 : upq = 0
    · rw [if_pos h0]
    · rw [if_neg h0, if_pos (by decide)]
  rw [e1, e2]
  decide
theorem l_div_toInt {az bz : Int64} (h : 0 < bz.toInt) : (az / bz).toInt = az.toInt.tdiv bz.toInt := by
  rw [Int64.toInt_div]
  have h1 := az.toInt_lt
  have h2 := az.le_toInt
  have h3 : (az.toInt.tdiv bz.toInt).natAbs ≤ az.toInt.natAbs := by
    rw [Int.natAbs_tdiv]
    exact Nat.div_le_self _ _
  by_cases h0 : az.toInt = -(2 ^ 63)
  · rw [h0] at h3 ⊢
    have h4 : (-(2 ^ 63) : Int).tdiv bz.toInt ≤ 0 := by
      rw [Int.neg_tdiv]
      have := Int.tdiv_nonneg (show (0 : Int) ≤ 2 ^ 63 by decide) (Int.le_of_lt h)
      omega
    rw [Int.bmod_eq_of_le (by omega) (by omega)]
  · rw [Int.bmod_eq_of_le (by omega) (by omega)]
theorem l_mul_toInt {az bz : Int64} (h1 : -(2 ^ 63 : Int) ≤ az.toInt * bz.toInt) (h2 : az.toInt * bz.toInt < 2 ^ 63) : (az * bz).toInt = az.toInt * bz.toInt := by
  rw [Int64.toInt_mul, Int.bmod_eq_of_le (by simpa using h1) (by simpa using h2)]
theorem pct_e {upq lowq : Int64} (h1 : -20000000000000 ≤ upq.toInt) (h2 : upq.toInt ≤ 20000000000000) (h3 : 0 < lowq.toInt) : (100 * upq / lowq).toInt32 = pctI (fU upq lowq) (fL upq lowq) := by
  have hf := fU_e (upq := upq) (lowq := lowq) (by omega) (by omega) h3
  have hg := gcd_le (aq := upq.toInt.natAbs) (bq := lowq.toInt.toNat) (by omega)
  have hl := lowq.toInt_lt
  rw [hf.1, hf.2]
  generalize hgq : Nat.gcd upq.toInt.natAbs lowq.toInt.toNat = gq at *
  have hgi : (lN gq).toInt = (gq : Int) := lN_ti' (by omega)
  have hd1 : (gq : Int) ∣ upq.toInt := by
    have : gq ∣ upq.toInt.natAbs := by rw [← hgq]; exact Nat.gcd_dvd_left _ _
    exact Int.ofNat_dvd_left.mpr this
  have hd2 : (gq : Int) ∣ lowq.toInt := by
    have : gq ∣ lowq.toInt.toNat := by rw [← hgq]; exact Nat.gcd_dvd_right _ _
    have h5 := Int.ofNat_dvd.mpr this
    rwa [Int.toNat_of_nonneg (by omega)] at h5
  obtain ⟨az, ha⟩ := hd1
  obtain ⟨bz, hb⟩ := hd2
  have hu : (upq / lN gq).toInt = az := by
    rw [l_div_toInt (by rw [hgi]; omega), hgi, ha, Int.mul_tdiv_cancel_left _ (by omega)]
  have hw : (lowq / lN gq).toInt = bz := by
    rw [l_div_toInt (by rw [hgi]; omega), hgi, hb, Int.mul_tdiv_cancel_left _ (by omega)]
  have hbp : 0 < bz := by
    rcases Int.lt_or_le 0 bz with h | h
    · exact h
    · have := Int.mul_nonpos_of_nonneg_of_nonpos (show (0 : Int) ≤ (gq : Int) by omega) h
      omega
  have haz : az.natAbs ≤ upq.toInt.natAbs := by
    rw [ha, Int.natAbs_mul]
    exact Nat.le_mul_of_pos_left _ (by omega)
  have h100 : (100 : Int64).toInt = 100 := by decide
  unfold pctI
  rw [if_neg (l_nle.mpr (l_pos.mp (by rw [hw]; exact hbp)))]
  congr 1
  apply Int64.toInt_inj.mp
  rw [l_div_toInt h3, l_div_toInt (by rw [hw]; exact hbp), l_mul_toInt (by rw [h100]; omega) (by rw [h100]; omega), l_mul_toInt (by rw [h100, hu]; omega) (by rw [h100, hu]; omega), hu, hw, h100, ha, hb, show (100 : Int) * ((gq : Int) * az) = (gq : Int) * (100 * az) by grind, Int.mul_tdiv_mul_of_pos _ _ (by omega)]
theorem padM_k {σ τq : Sto} {sn : Nat → Nat} {cntq : Nat} (h1 : τq 11 = σ 11) (h2 : τq 72 = σ 72) (h : PadM σ sn cntq) : PadM τq sn cntq := by
  unfold PadM at *
  rw [h1, h2]
  exact h
theorem dlM_k {σ τq : Sto} {sn : Nat → Nat} {cntq rq : Nat} (h : τq 71 = σ 71) : dlM τq sn cntq rq = dlM σ sn cntq rq := by
  unfold dlM yrF
  rw [h]
theorem yrF_k {σ τq : Sto} {rq : Nat} (h : τq 71 = σ 71) : yrF τq rq = yrF σ rq := by
  unfold yrF
  rw [h]
theorem i_sub24 {iq kq : Nat} (h : kq < 24) : nI iq - nI kq + nI 24 = nI (iq + 24 - kq) := by
  rw [i_sba]
  have e : nI kq - nI 24 = -(nI (24 - kq)) := by
    rw [← nI_sub' (show kq ≤ 24 by omega), Int32.neg_sub]
  rw [e, Int32.sub_neg, nI_add]
  congr 1
  omega
/-! two rows, as integers -/
def tZ (cb : Nat → Bool) (hz : Nat → Int) : Nat → Int
  | 0 => 0
  | yq + 1 => if cb yq = true then tZ cb hz yq + hz yq else tZ cb hz yq
theorem tgs_Z {cb : Nat → Bool} {hf2 : Nat → Int64} {hz : Nat → Int} (h : ∀ yq, hf2 yq = Int64.ofInt (hz yq)) : ∀ nq, tgs cb hf2 nq = Int64.ofInt (tZ cb hz nq)
  | 0 => rfl
  | nq + 1 => by
    show (if _ then _ else _) = Int64.ofInt (if _ then _ else _)
    split
    · rw [tgs_Z h nq, h nq, ofI_a]
    · exact tgs_Z h nq
theorem tZ_bd {cb : Nat → Bool} {hz : Nat → Int} {mz : Int} (hm : 0 ≤ mz) : ∀ {nq : Nat}, (∀ yq, yq < nq → cb yq = true → -mz ≤ hz yq ∧ hz yq ≤ mz) → -(mz * (nq : Int)) ≤ tZ cb hz nq ∧ tZ cb hz nq ≤ mz * (nq : Int)
  | 0, _ => by unfold tZ; omega
  | nq + 1, h => by
    have h0 := tZ_bd hm (cb := cb) (hz := hz) (nq := nq) (fun yq hy hc => h yq (by omega) hc)
    have e : mz * ((nq + 1 : Nat) : Int) = mz * (nq : Int) + mz := by
      rw [show ((nq + 1 : Nat) : Int) = (nq : Int) + 1 by omega, Int.mul_add, Int.mul_one]
    unfold tZ
    rw [e]
    split
    · rename_i hc
      have := h nq (by omega) hc
      omega
    · omega
theorem tZ_sq {cb : Nat → Bool} {hz : Nat → Int} (cz : Int) : ∀ nq : Nat, 0 ≤ tZ cb (fun yq => hz yq * hz yq) nq - 2 * cz * tZ cb hz nq + cz * cz * tZ cb (fun _ => 1) nq
  | 0 => by unfold tZ; omega
  | nq + 1 => by
    have h0 := tZ_sq (cb := cb) (hz := hz) cz nq
    have h1 := sq_nn (hz nq - cz)
    unfold tZ
    split
    · generalize tZ cb (fun yq => hz yq * hz yq) nq = az at *
      generalize tZ cb hz nq = bz at *
      generalize tZ cb (fun _ => 1) nq = dz at *
      generalize hz nq = ez at *
      have e : az + ez * ez - 2 * cz * (bz + ez) + cz * cz * (dz + 1) = (az - 2 * cz * bz + cz * cz * dz) + (ez - cz) * (ez - cz) := by grind
      rw [e]
      omega
    · exact h0
theorem tZ_var {cb : Nat → Bool} {hz : Nat → Int} : ∀ nq : Nat, 0 ≤ tZ cb (fun _ => 1) nq * tZ cb (fun yq => hz yq * hz yq) nq - tZ cb hz nq * tZ cb hz nq
  | 0 => by unfold tZ; omega
  | nq + 1 => by
    have h0 := tZ_var (cb := cb) (hz := hz) nq
    have h1 := tZ_sq (cb := cb) (hz := hz) (hz nq) nq
    unfold tZ
    split
    · generalize tZ cb (fun yq => hz yq * hz yq) nq = az at *
      generalize tZ cb hz nq = bz at *
      generalize tZ cb (fun _ => 1) nq = dz at *
      generalize hz nq = ez at *
      have e : (dz + 1) * (az + ez * ez) - (bz + ez) * (bz + ez) = (dz * az - bz * bz) + (az - 2 * ez * bz + ez * ez * dz) := by grind
      rw [e]
      omega
    · exact h0
theorem mul_bd2 {az bz mz nz : Int} (h1 : -mz ≤ az) (h2 : az ≤ mz) (h3 : -nz ≤ bz) (h4 : bz ≤ nz) : -(mz * nz) ≤ az * bz ∧ az * bz ≤ mz * nz := by
  have a1 := Int.mul_nonneg (show 0 ≤ mz - az by omega) (show 0 ≤ nz + bz by omega)
  have a2 := Int.mul_nonneg (show 0 ≤ mz + az by omega) (show 0 ≤ nz - bz by omega)
  have a3 := Int.mul_nonneg (show 0 ≤ mz - az by omega) (show 0 ≤ nz - bz by omega)
  have a4 := Int.mul_nonneg (show 0 ≤ mz + az by omega) (show 0 ≤ nz + bz by omega)
  constructor <;> grind
def tgUZ (cb : Nat → Bool) (az bz : Nat → Int) : Int := tZ cb (fun _ => 1) 24 * tZ cb (fun yq => az yq * bz yq) 24 - tZ cb az 24 * tZ cb bz 24
theorem tgUZ_bd {cb : Nat → Bool} {az bz : Nat → Int} (ha : ∀ yq, yq < 24 → cb yq = true → -999 ≤ az yq ∧ az yq ≤ 999) (hb : ∀ yq, yq < 24 → cb yq = true → -999 ≤ bz yq ∧ bz yq ≤ 999) : -1200000000 ≤ tgUZ cb az bz ∧ tgUZ cb az bz ≤ 1200000000 := by
  have h1 := tZ_bd (cb := cb) (hz := fun _ => 1) (mz := 1) (by decide) (nq := 24) (fun yq _ _ => ⟨by decide, by decide⟩)
  have h2 := tZ_bd (cb := cb) (hz := az) (mz := 999) (by decide) (nq := 24) ha
  have h3 := tZ_bd (cb := cb) (hz := bz) (mz := 999) (by decide) (nq := 24) hb
  have h4 := tZ_bd (cb := cb) (hz := fun yq => az yq * bz yq) (mz := 998001) (by decide) (nq := 24) (fun yq hy hc => by have := mul_bd2 (ha yq hy hc).1 (ha yq hy hc).2 (hb yq hy hc).1 (hb yq hy hc).2; omega)
  have h5 := mul_bd2 (az := tZ cb (fun _ => 1) 24) (bz := tZ cb (fun yq => az yq * bz yq) 24) (mz := 24) (nz := 23952024) (by omega) (by omega) (by omega) (by omega)
  have h6 := mul_bd2 (az := tZ cb az 24) (bz := tZ cb bz 24) (mz := 23976) (nz := 23976) (by omega) (by omega) (by omega) (by omega)
  unfold tgUZ
  omega
theorem tgc_bd {af bf : Nat → Int32} {kq : Nat} (ha : BdF af) (hb : BdF bf) : (∀ yq, yq < 24 → tgc af bf kq yq = true → -999 ≤ (af yq).toInt ∧ (af yq).toInt ≤ 999) ∧ ∀ yq, yq < 24 → tgc af bf kq yq = true → -999 ≤ (bf ((yq + 24 - kq) % 24)).toInt ∧ (bf ((yq + 24 - kq) % 24)).toInt ≤ 999 := by
  constructor
  · intro yq hy hc
    unfold tgc at hc
    rw [Bool.and_eq_true] at hc
    refine (ha yq hy).resolve_left (fun z => ?_)
    rw [decide_eq_true z] at hc
    exact absurd hc.1 (by decide)
  · intro yq hy hc
    unfold tgc at hc
    rw [Bool.and_eq_true] at hc
    refine (hb _ (Nat.mod_lt _ (by decide))).resolve_left (fun z => ?_)
    rw [decide_eq_true z] at hc
    exact absurd hc.2 (by decide)
def azF (af : Nat → Int32) : Nat → Int := fun yq => (af yq).toInt
def bzF (bf : Nat → Int32) (kq : Nat) : Nat → Int := fun yq => (bf ((yq + 24 - kq) % 24)).toInt
theorem tg_Z {af bf : Nat → Int32} (kq : Nat) : tgU af bf kq = Int64.ofInt (tgUZ (tgc af bf kq) (azF af) (bzF bf kq) * tgUZ (tgc af bf kq) (azF af) (bzF bf kq)) ∧ tgD af bf kq = Int64.ofInt (tgUZ (tgc af bf kq) (azF af) (azF af) * tgUZ (tgc af bf kq) (bzF bf kq) (bzF bf kq)) := by
  have e1 : tgN af bf kq = Int64.ofInt (tZ (tgc af bf kq) (fun _ => 1) 24) := tgs_Z (fun _ => by decide) 24
  have e2 : tgA af bf kq = Int64.ofInt (tZ (tgc af bf kq) (azF af) 24) := tgs_Z (fun yq => ofI_w _) 24
  have e3 : tgB af bf kq = Int64.ofInt (tZ (tgc af bf kq) (bzF bf kq) 24) := tgs_Z (fun yq => ofI_w _) 24
  have e4 : tgAA af bf kq = Int64.ofInt (tZ (tgc af bf kq) (fun yq => azF af yq * azF af yq) 24) := tgs_Z (fun yq => by unfold tga azF; rw [ofI_w, ofI_m]) 24
  have e5 : tgBB af bf kq = Int64.ofInt (tZ (tgc af bf kq) (fun yq => bzF bf kq yq * bzF bf kq yq) 24) := tgs_Z (fun yq => by unfold tgb bzF; rw [ofI_w, ofI_m]) 24
  have e6 : tgAB af bf kq = Int64.ofInt (tZ (tgc af bf kq) (fun yq => azF af yq * bzF bf kq yq) 24) := tgs_Z (fun yq => by unfold tga tgb azF bzF; rw [ofI_w, ofI_w, ofI_m]) 24
  unfold tgU tgD tgUZ
  rw [e1, e2, e3, e4, e5, e6]
  refine ⟨?_, ?_⟩ <;> simp only [ofI_m, ofI_s]
theorem tg_bd {af bf : Nat → Int32} (ha : BdF af) (hb : BdF bf) (kq : Nat) : (0 ≤ (tgU af bf kq).toInt ∧ (tgU af bf kq).toInt ≤ 2 ^ 62) ∧ 0 ≤ (tgD af bf kq).toInt ∧ (tgD af bf kq).toInt ≤ 2 ^ 62 := by
  obtain ⟨c1, c2⟩ := tgc_bd (kq := kq) ha hb
  obtain ⟨e1, e2⟩ := tg_Z (af := af) (bf := bf) kq
  have b1 := tgUZ_bd (cb := tgc af bf kq) (az := azF af) (bz := bzF bf kq) c1 c2
  have b2 := tgUZ_bd (cb := tgc af bf kq) (az := azF af) (bz := azF af) c1 c1
  have b3 := tgUZ_bd (cb := tgc af bf kq) (az := bzF bf kq) (bz := bzF bf kq) c2 c2
  have v2 : 0 ≤ tgUZ (tgc af bf kq) (azF af) (azF af) := tZ_var 24
  have v3 : 0 ≤ tgUZ (tgc af bf kq) (bzF bf kq) (bzF bf kq) := tZ_var 24
  have m1 := mul_bd2 b1.1 b1.2 b1.1 b1.2
  have m2 := mul_bd2 b2.1 b2.2 b3.1 b3.2
  have m3 := sq_nn (tgUZ (tgc af bf kq) (azF af) (bzF bf kq))
  have m4 := Int.mul_nonneg v2 v3
  rw [e1, e2, ofI_ti (by omega) (by omega), ofI_ti (by omega) (by omega)]
  omega
def tmU (af bf : Nat → Int32) (kq : Nat) : Int64 := if tgD af bf kq = 0 then 0 else tgU af bf kq
def tmD (af bf : Nat → Int32) (kq : Nat) : Int64 := if tgD af bf kq = 0 then 1 else tgD af bf kq
theorem tm_bd {af bf : Nat → Int32} (ha : BdF af) (hb : BdF bf) (kq : Nat) : (0 ≤ (tmU af bf kq).toInt ∧ (tmU af bf kq).toInt ≤ 2 ^ 62) ∧ 0 < (tmD af bf kq).toInt ∧ (tmD af bf kq).toInt ≤ 2 ^ 62 := by
  have h := tg_bd ha hb kq
  unfold tmU tmD
  by_cases h0 : tgD af bf kq = 0
  · rw [if_pos h0, if_pos h0]; decide
  · rw [if_neg h0, if_neg h0]
    refine ⟨h.1, ?_, h.2.2⟩
    rcases Int.lt_or_eq_of_le h.2.1 with h2 | h2
    · exact h2
    · exact absurd (by apply Int64.toInt_inj.mp; rw [← h2]; rfl) h0
theorem fU_d0 (upq : Int64) : fU upq 0 = 0 ∧ fL upq 0 = 1 := by
  unfold fU fL
  by_cases h0 : upq = 0
  · rw [if_pos h0, if_pos h0]; exact ⟨rfl, rfl⟩
  · rw [if_neg h0, if_neg h0, if_pos (by decide), if_pos (by decide)]; exact ⟨rfl, rfl⟩
theorem fU_tm (af bf : Nat → Int32) (kq : Nat) : fU (tmU af bf kq) (tmD af bf kq) = fU (tgU af bf kq) (tgD af bf kq) ∧ fL (tmU af bf kq) (tmD af bf kq) = fL (tgU af bf kq) (tgD af bf kq) := by
  unfold tmU tmD
  by_cases h0 : tgD af bf kq = 0
  · rw [if_pos h0, if_pos h0, h0, (fU_d0 _).1, (fU_d0 _).2]; decide
  · rw [if_neg h0, if_neg h0]; exact ⟨rfl, rfl⟩
theorem fX_tm (af bf : Nat → Int32) (kq : Nat) (pz : Int32) : fX (tmU af bf kq) (tmD af bf kq) pz = fX (tgU af bf kq) (tgD af bf kq) pz := by
  unfold fX
  rw [(fU_tm af bf kq).1, (fU_tm af bf kq).2]
theorem tm_ag {af a2 bf b2 : Nat → Int32} (ha : ∀ yq, yq < 24 → af yq = a2 yq) (hb : ∀ yq, yq < 24 → bf yq = b2 yq) (kq : Nat) : tmU af bf kq = tmU a2 b2 kq ∧ tmD af bf kq = tmD a2 b2 kq := by
  unfold tmU tmD
  rw [(tg_ag ha hb kq).1, (tg_ag ha hb kq).2]
  exact ⟨rfl, rfl⟩
/-! fractions held against each other -/
theorem lNe {aq bq : Nat} (ha : aq < 2 ^ 63) (hb : bq < 2 ^ 63) : lN aq = lN bq ↔ aq = bq := by
  constructor
  · intro h
    have := congrArg Int64.toInt h
    rw [lN_ti' ha, lN_ti' hb] at this
    omega
  · intro h; rw [h]
theorem lNle {aq bq : Nat} (ha : aq < 2 ^ 63) (hb : bq < 2 ^ 63) : lN aq ≤ lN bq ↔ aq ≤ bq := by
  rw [fa_le64, lN_ti' ha, lN_ti' hb]; omega
theorem lNlt {aq bq : Nat} (ha : aq < 2 ^ 63) (hb : bq < 2 ^ 63) : lN aq < lN bq ↔ aq < bq := by
  rw [fa_lt64, lN_ti' ha, lN_ti' hb]; omega
theorem cr_dm {pn qn rn sn2 : Nat} (h : pn / qn = rn / sn2) : (pn * sn2 < rn * qn ↔ pn % qn * sn2 < rn % sn2 * qn) ∧ (rn * qn < pn * sn2 ↔ rn % sn2 * qn < pn % qn * sn2) := by
  have h1 := Nat.div_add_mod pn qn
  have h2 := Nat.div_add_mod rn sn2
  rw [← h] at h2
  generalize pn / qn = tq2 at *
  generalize pn % qn = aq at *
  generalize rn % sn2 = bq at *
  have e1 : pn * sn2 = qn * tq2 * sn2 + aq * sn2 := by rw [← h1]; grind
  have e2 : rn * qn = qn * tq2 * sn2 + bq * qn := by rw [← h2]; grind
  rw [e1, e2]
  omega
theorem cr_lt {pn qn rn sn2 : Nat} (hq : 0 < qn) (hs : 0 < sn2) (h : pn / qn < rn / sn2) : pn * sn2 < rn * qn := by
  have h1 : pn < qn * (pn / qn + 1) := Nat.lt_mul_div_succ pn hq
  have h2 : sn2 * (rn / sn2) ≤ rn := Nat.mul_div_le rn sn2
  have h3 : pn * sn2 < qn * (pn / qn + 1) * sn2 := Nat.mul_lt_mul_of_pos_right h1 hs
  have h4 : qn * (pn / qn + 1) * sn2 ≤ qn * (rn / sn2) * sn2 := Nat.mul_le_mul_right sn2 (Nat.mul_le_mul_left qn (by omega))
  have h5 : sn2 * (rn / sn2) * qn ≤ rn * qn := Nat.mul_le_mul_right qn h2
  have h6 : qn * (rn / sn2) * sn2 = sn2 * (rn / sn2) * qn := by grind
  omega
def lsI (tz : Bool) (pn qn rn sn2 : Nat) : Prop := if tz = true then rn * qn < pn * sn2 else pn * sn2 < rn * qn
theorem ls_step {tz : Bool} {pn qn rn sn2 : Nat} (h : pn / qn = rn / sn2) : lsI tz pn qn rn sn2 ↔ lsI (!tz) qn (pn % qn) sn2 (rn % sn2) := by
  have hc := cr_dm h
  unfold lsI
  cases tz
  · simp only [Bool.false_eq_true, if_false, Bool.not_false, if_true]
    rw [hc.1, Nat.mul_comm sn2, Nat.mul_comm qn]
  · simp only [Bool.not_true, Bool.false_eq_true, if_false, if_true]
    rw [hc.2, Nat.mul_comm qn, Nat.mul_comm sn2]
theorem lt_a {pn qn rn sn2 : Nat} (hq : 0 < qn) (hs : 0 < sn2) (h : ¬ pn / qn = rn / sn2) : (pn * sn2 < rn * qn) ↔ pn / qn < rn / sn2 := by
  constructor
  · intro h1
    rcases Nat.lt_or_ge (pn / qn) (rn / sn2) with h2 | h2
    · exact h2
    · have := cr_lt hs hq (show rn / sn2 < pn / qn by omega)
      omega
  · exact cr_lt hq hs
theorem lt_b {pn qn rn sn2 : Nat} (hq : 0 < qn) (h : pn / qn = rn / sn2) (h0 : pn % qn = 0) : (pn * sn2 < rn * qn) ↔ ¬ rn % sn2 = 0 := by
  rw [(cr_dm h).1, h0, Nat.zero_mul]
  constructor
  · intro h1 h2; rw [h2, Nat.zero_mul] at h1; omega
  · intro h1; exact Nat.mul_pos (Nat.pos_of_ne_zero h1) hq
theorem lt_c {pn qn rn sn2 : Nat} (h : pn / qn = rn / sn2) (h0 : rn % sn2 = 0) : ¬ (pn * sn2 < rn * qn) := by
  rw [(cr_dm h).1, h0, Nat.zero_mul]
  omega
