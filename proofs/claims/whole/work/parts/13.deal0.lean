/-! rows of years -/
def atI (fq : Nat → Int32) (pz : Int32) : Int32 := if inB (nI 0) (nI 23) pz = true then fq pz.toNatClampNeg else -1000000
def minI (xq yq : Int32) : Int32 := if yq < xq then yq else xq
def maxI (xq yq : Int32) : Int32 := if xq < yq then yq else xq
def holdI (vz : Int32) : Int32 := if vz = -1000000 then -1000000 else maxI (-999) (minI (nI 999) vz)
def smA (fq : Nat → Int32) (jq : Nat) : Nat → Int32
  | 0 => nI 0
  | iq + 1 => if smA fq jq iq = -1000000 then -1000000 else if atI fq (nI jq - nI iq) = -1000000 then -1000000 else smA fq jq iq + atI fq (nI jq - nI iq)
def smF (fq : Nat → Int32) (mq : Nat) : Nat → Int32 := fun jq => holdI (smA fq jq mq)
def lagF (fq : Nat → Int32) (mq : Nat) : Nat → Int32 := fun jq => atI fq (nI jq - nI mq)
def trnF (fq : Nat → Int32) : Nat → Int32 := fun jq => if fq jq = -1000000 then fq jq else -(fq jq)
def cutF (fq : Nat → Int32) (aq bq : Nat) : Nat → Int32 := fun jq => if aq ≤ jq ∧ jq ≤ bq then fq jq else -1000000
def difF (fq : Nat → Int32) : Nat → Int32 := fun jq => if fq jq = -1000000 then -1000000 else if atI fq (nI jq - nI 1) = -1000000 then -1000000 else holdI (fq jq - atI fq (nI jq - nI 1))
def mix (gq fq : Nat → Int32) (aq bq : Nat) : Nat → Int32 := fun yq => if aq ≤ yq ∧ yq < bq then gq yq else fq yq
theorem mix_nil (gq fq : Nat → Int32) (aq : Nat) : mix gq fq aq aq = fq := by
  funext yq
  unfold mix
  rw [if_neg (by omega)]
theorem mix_lo {gq fq : Nat → Int32} {aq bq yq : Nat} (h : yq < aq) : mix gq fq aq bq yq = fq yq := if_neg (by omega)
theorem mix_hi {gq fq : Nat → Int32} {aq bq yq : Nat} (h : bq ≤ yq) : mix gq fq aq bq yq = fq yq := if_neg (by omega)
theorem mix_in {gq fq : Nat → Int32} {aq bq yq : Nat} (h : aq ≤ yq) (h2 : yq < bq) : mix gq fq aq bq yq = gq yq := if_pos ⟨h, h2⟩
theorem mix_dn {gq fq : Nat → Int32} {jq bq : Nat} {vz : Int32} (hj : jq < bq) (hv : vz = gq jq) : upd (mix gq fq (jq + 1) bq) jq vz = mix gq fq jq bq := by
  funext yq
  unfold upd mix
  by_cases h : yq = jq
  · subst h; rw [if_pos rfl, if_pos (by omega), hv]
  · rw [if_neg h]
    by_cases h2 : jq + 1 ≤ yq ∧ yq < bq
    · rw [if_pos h2, if_pos (by omega)]
    · rw [if_neg h2, if_neg (by omega)]
theorem mix_up {gq fq : Nat → Int32} {aq kq : Nat} {vz : Int32} (hj : aq ≤ kq) (hv : vz = gq kq) : upd (mix gq fq aq kq) kq vz = mix gq fq aq (kq + 1) := by
  funext yq
  unfold upd mix
  by_cases h : yq = kq
  · subst h; rw [if_pos rfl, if_pos (by omega), hv]
  · rw [if_neg h]
    by_cases h2 : aq ≤ yq ∧ yq < kq
    · rw [if_pos h2, if_pos (by omega)]
    · rw [if_neg h2, if_neg (by omega)]
theorem mix_skip {gq fq : Nat → Int32} {aq kq : Nat} (hv : fq kq = gq kq) : mix gq fq aq kq = mix gq fq aq (kq + 1) := by
  funext yq
  unfold mix
  by_cases h : yq = kq
  · subst h
    rw [if_neg (by omega)]
    split
    · exact hv
    · rfl
  · by_cases h2 : aq ≤ yq ∧ yq < kq
    · rw [if_pos h2, if_pos (by omega)]
    · rw [if_neg h2, if_neg (by omega)]
theorem sti_sta {σ : Sto} {cz kq : Nat} {fq : Nat → Int32} {vz : Int32} : sti (sta σ cz fq) cz kq vz = sta σ cz (upd fq kq vz) := by
  funext jq
  by_cases h : jq = cz <;> simp [sti, sta, stc, h]
theorem sti_sta_ne {σ : Sto} {cz dz kq : Nat} {fq : Nat → Int32} {vz : Int32} (hne : cz ≠ dz) : sti (sta σ cz fq) dz kq vz = sta (sti σ dz kq vz) cz fq := by
  funext jq
  by_cases h : jq = cz
  · subst h; simp [sti, sta, stc, hne]
  · by_cases h2 : jq = dz
    · subst h2; simp [sti, sta, stc, h]
    · simp [sti, sta, stc, h, h2]
theorem sti_sti {σ : Sto} {cz kq : Nat} {vz wz : Int32} : sti (sti σ cz kq vz) cz kq wz = sti σ cz kq wz := by
  funext jq
  by_cases h : jq = cz
  · subst h
    simp only [sti, stc, if_true]
    congr 1
    funext iq
    by_cases h2 : iq = kq <;> simp [upd, h2]
  · simp [sti, stc, h]
theorem sta_sta {σ : Sto} {cz : Nat} {fq gq : Nat → Int32} : sta (sta σ cz fq) cz gq = sta σ cz gq := by
  funext jq
  by_cases h : jq = cz <;> simp [sta, stc, h]
theorem sta_id {σ : Sto} {cz : Nat} {fq : Nat → Int32} (h : (σ cz).1 = fq) : σ = sta σ cz fq := by
  subst h
  funext jq
  by_cases h : jq = cz
  · subst h; simp [sta, stc]
  · simp [sta, stc, h]
theorem sti_id {σ : Sto} {cz kq : Nat} {vz : Int32} (h : (σ cz).1 kq = vz) : σ = sti σ cz kq vz := by
  subst h
  funext jq
  by_cases h : jq = cz
  · subst h
    have : upd (σ jq).1 kq ((σ jq).1 kq) = (σ jq).1 := by
      funext iq
      by_cases h2 : iq = kq
      · subst h2; simp [upd]
      · simp [upd, h2]
    simp [sti, stc, this]
  · simp [sti, stc, h]
theorem mix_bk {σ : Sto} {cz jq bq : Nat} {gq fq : Nat → Int32} {vz : Int32} (hj : jq < bq) (hv : vz = gq jq) : sti (sta σ cz (mix gq fq (jq + 1) bq)) cz jq vz = sta σ cz (mix gq fq jq bq) := by rw [sti_sta, mix_dn hj hv]
theorem mix_fw {σ : Sto} {cz aq kq : Nat} {gq fq : Nat → Int32} {vz : Int32} (hj : aq ≤ kq) (hv : vz = gq kq) : sti (sta σ cz (mix gq fq aq kq)) cz kq vz = sta σ cz (mix gq fq aq (kq + 1)) := by rw [sti_sta, mix_up hj hv]
theorem nI_subI {jq iq : Nat} (hj : jq < 2 ^ 30) (hi : iq < 2 ^ 30) : (nI jq - nI iq).toInt = (jq : Int) - iq := pk_sub_toInt hj hi
theorem atI_sub {fq : Nat → Int32} {jq iq : Nat} (hj : jq < 24) (hi : iq < 2 ^ 30) : atI fq (nI jq - nI iq) = if iq ≤ jq then fq (jq - iq) else -1000000 := by
  unfold atI
  by_cases h : iq ≤ jq
  · rw [if_pos h, pk_sub h, inB_N (by decide) (by decide) (by omega), if_pos (by simp; omega), nI_clamp (by omega)]
  · rw [if_neg h, if_neg]
    intro h2
    rw [inB_iff, nI_subI (by omega) hi, nI_toInt (by decide)] at h2
    omega
theorem atI_dn {gq fq : Nat → Int32} {jq iq bq : Nat} (hj : jq < 24) (hi : iq < 2 ^ 30) : atI (mix gq fq (jq + 1) bq) (nI jq - nI iq) = atI fq (nI jq - nI iq) := by
  rw [atI_sub hj hi, atI_sub hj hi]
  split
  · rw [mix_lo (by omega)]
  · rfl
theorem smA_stop {fq : Nat → Int32} {jq iq : Nat} (h : smA fq jq iq = -1000000) : ∀ {mq : Nat}, iq ≤ mq → smA fq jq iq = smA fq jq mq := by
  intro mq
  induction mq with
  | zero => intro h2; rw [show iq = 0 by omega]
  | succ nq ihq =>
    intro h2
    rcases Nat.lt_or_ge nq iq with h3 | h3
    · rw [show iq = nq + 1 by omega]
    · have h4 := ihq h3
      show _ = (if smA fq jq nq = -1000000 then -1000000 else _)
      rw [if_pos (by rw [← h4, h]), h]
theorem smA_add {fq : Nat → Int32} {jq iq : Nat} (h : ¬ smA fq jq iq = -1000000) (h2 : ¬ atI fq (nI jq - nI iq) = -1000000) : smA fq jq iq + atI fq (nI jq - nI iq) = smA fq jq (iq + 1) := by
  show _ = (if smA fq jq iq = -1000000 then -1000000 else _)
  rw [if_neg h, if_neg h2]
theorem smA_gp {fq : Nat → Int32} {jq iq : Nat} (h : ¬ smA fq jq iq = -1000000) (h2 : atI fq (nI jq - nI iq) = -1000000) : -1000000 = smA fq jq (iq + 1) := by
  show _ = (if smA fq jq iq = -1000000 then -1000000 else _)
  rw [if_neg h, if_pos h2]
/-! numbers gathered -/
def gcnt (fq : Nat → Int32) : Nat → Nat
  | 0 => 0
  | kq + 1 => if fq kq = -1000000 then gcnt fq kq else gcnt fq kq + 1
def gnum (fq gq : Nat → Int32) : Nat → (Nat → Int32)
  | 0 => gq
  | kq + 1 => if fq kq = -1000000 then gnum fq gq kq else upd (gnum fq gq kq) (gcnt fq kq) (fq kq)
def gyr (fq gq : Nat → Int32) : Nat → (Nat → Int32)
  | 0 => gq
  | kq + 1 => if fq kq = -1000000 then gyr fq gq kq else upd (gyr fq gq kq) (gcnt fq kq) (nI kq)
theorem gcnt_le (fq : Nat → Int32) : ∀ kq, gcnt fq kq ≤ kq
  | 0 => Nat.le_refl 0
  | kq + 1 => by
    have := gcnt_le fq kq
    show (if fq kq = -1000000 then _ else _) ≤ _
    split <;> omega
theorem gcnt_g {fq : Nat → Int32} {kq : Nat} (h : fq kq = -1000000) : gcnt fq (kq + 1) = gcnt fq kq := if_pos h
theorem gcnt_n {fq : Nat → Int32} {kq : Nat} (h : ¬ fq kq = -1000000) : gcnt fq (kq + 1) = gcnt fq kq + 1 := if_neg h
theorem gnum_g {fq gq : Nat → Int32} {kq : Nat} (h : fq kq = -1000000) : gnum fq gq (kq + 1) = gnum fq gq kq := if_pos h
theorem gnum_n {fq gq : Nat → Int32} {kq : Nat} (h : ¬ fq kq = -1000000) : gnum fq gq (kq + 1) = upd (gnum fq gq kq) (gcnt fq kq) (fq kq) := if_neg h
theorem gyr_g {fq gq : Nat → Int32} {kq : Nat} (h : fq kq = -1000000) : gyr fq gq (kq + 1) = gyr fq gq kq := if_pos h
theorem gyr_n {fq gq : Nat → Int32} {kq : Nat} (h : ¬ fq kq = -1000000) : gyr fq gq (kq + 1) = upd (gyr fq gq kq) (gcnt fq kq) (nI kq) := if_neg h
def sumL (fq : Nat → Int32) : Nat → Int64
  | 0 => 0
  | kq + 1 => sumL fq kq + (fq kq).toInt64
def sqL (fq : Nat → Int32) : Nat → Int64
  | 0 => 0
  | kq + 1 => sqL fq kq + (fq kq).toInt64 * (fq kq).toInt64
/-! a dealing -/
def stepF (sn : Nat → Nat) (aq : Nat) (fq : Nat → Int32) : Nat → Int32 :=
  if sn aq = 115 then mix (smF fq (sn (aq + 1) - 48)) fq 0 24
  else if sn aq = 108 then mix (lagF fq (sn (aq + 1) - 48)) fq 0 24
  else if sn aq = 116 then mix (trnF fq) fq (twoN sn (aq + 1)) 24
  else if sn aq = 99 then mix (cutF fq (twoN sn (aq + 1)) (twoN sn (aq + 3))) fq 0 24
  else if sn aq = 100 then mix (difF fq) fq 0 24
  else fq
def dgN (cq : Nat) : Nat := match digs cq with
  | some kq => kq
  | none => 0
def dealW (sn : Nat → Nat) (cntq : Nat) : Nat → Nat → (Nat → Int32) → (Nat → Int32)
  | 0, _, fq => fq
  | nq + 1, aq, fq => if aq < cntq then dealW sn cntq nq (aq + 1 + dgN (sn aq)) (stepF sn aq fq) else fq
theorem dealW_s {sn : Nat → Nat} {cntq nq aq dgq : Nat} {fq : Nat → Int32} (haq : aq < cntq) (hdq : digs (sn aq) = some dgq) : dealW sn cntq (nq + 1) aq fq = dealW sn cntq nq (aq + 1 + dgq) (stepF sn aq fq) := by
  show (if aq < cntq then _ else _) = _
  rw [if_pos haq]
  unfold dgN
  rw [hdq]
theorem dealW_e {sn : Nat → Nat} {cntq nq aq : Nat} {fq : Nat → Int32} (haq : cntq ≤ aq) : dealW sn cntq nq aq fq = fq := by
  cases nq with
  | zero => rfl
  | succ nq =>
    show (if aq < cntq then _ else _) = _
    rw [if_neg (by omega)]
theorem flt_none {sn : Nat → Nat} {cntq nq aq : Nat} (h : fltF sn cntq (nq + 1) aq = none) (haq : aq < cntq) : ∃ dgq, digs (sn aq) = some dgq ∧ badD sn cntq aq dgq 1 = none ∧ fltF sn cntq nq (aq + 1 + dgq) = none := by
  unfold fltF at h
  rw [if_pos haq] at h
  split at h
  · cases h
  · rename_i dgq hdq
    split at h
    · cases h
    · rename_i hbq
      exact ⟨dgq, hdq, hbq, h⟩
theorem bad_none {sn : Nat → Nat} {cntq aq : Nat} : ∀ {rq iq : Nat}, badD sn cntq aq rq iq = none → ∀ jq, iq ≤ jq → jq < iq + rq → aq + jq < cntq ∧ canS sn aq jq = true := by
  intro rq
  induction rq with
  | zero => intro iq _ jq h1 h2; omega
  | succ rq ihq =>
    intro iq h jq h1 h2
    unfold badD at h
    split at h
    · cases h
    · rename_i h3
      split at h
      · rename_i h4
        rcases Nat.lt_or_ge iq jq with h5 | h5
        · exact ihq h jq h5 (by omega)
        · rw [show jq = iq by omega]
          exact ⟨by omega, h4⟩
      · cases h
theorem dgs_s {cq dgq : Nat} (h : cq = 115) (h2 : digs cq = some dgq) : 1 = dgq := by subst h; exact Option.some.inj h2
theorem dgs_l {cq dgq : Nat} (h : cq = 108) (h2 : digs cq = some dgq) : 1 = dgq := by subst h; exact Option.some.inj h2
theorem dgs_t {cq dgq : Nat} (h : cq = 116) (h2 : digs cq = some dgq) : 2 = dgq := by subst h; exact Option.some.inj h2
theorem dgs_c {cq dgq : Nat} (h : cq = 99) (h2 : digs cq = some dgq) : 4 = dgq := by subst h; exact Option.some.inj h2
theorem dgs_no {cq dgq : Nat} (h1 : ¬ cq = 99) (h2 : ¬ cq = 100) (h3 : ¬ cq = 108) (h4 : ¬ cq = 115) (h5 : ¬ cq = 116) : ¬ digs cq = some dgq := by
  unfold digs
  rw [if_neg h1, if_neg h2, if_neg h3, if_neg h4, if_neg h5]
  exact fun h => by cases h
theorem canE {sn : Nat → Nat} {aq iq : Nat} (h1 : ¬ sn aq = 108) (h2 : ¬ sn aq = 115) (hi : iq % 2 = 0) (h : canS sn aq iq = true) : fst2 sn aq iq ≤ 10 * (sn (aq + iq - 1) - 48) + (sn (aq + iq) - 48) ∧ 10 * (sn (aq + iq - 1) - 48) + (sn (aq + iq) - 48) ≤ 23 := by
  unfold canS at h
  rw [if_neg h1, if_neg h2, Bool.and_eq_true] at h
  have h3 := h.2
  unfold canY at h3
  rw [if_neg (by omega), Bool.and_eq_true, decide_eq_true_eq, decide_eq_true_eq] at h3
  exact h3
theorem canT (sn : Nat → Nat) (aq : Nat) (h1 : sn aq = 116) (h : canS sn aq 2 = true) : twoN sn (aq + 1) ≤ 23 := (canE (by omega) (by omega) rfl h).2
theorem canC2 (sn : Nat → Nat) (aq : Nat) (h1 : sn aq = 99) (h : canS sn aq 2 = true) : twoN sn (aq + 1) ≤ 23 := (canE (by omega) (by omega) rfl h).2
theorem canC4 (sn : Nat → Nat) (aq : Nat) (h1 : sn aq = 99) (h : canS sn aq 4 = true) : twoN sn (aq + 1) ≤ twoN sn (aq + 3) ∧ twoN sn (aq + 3) ≤ 23 := canE (by omega) (by omega) rfl h
theorem sta_ne {σ : Sto} {cz dz : Nat} {fq : Nat → Int32} (h : dz ≠ cz) : sta σ cz fq dz = σ dz := by simp [sta, stc, h]
theorem sti_ne {σ : Sto} {cz dz kq : Nat} {vz : Int32} (h : dz ≠ cz) : sti σ cz kq vz dz = σ dz := by simp [sti, stc, h]
theorem max0 {mq : Nat} (h : mq < 2 ^ 31) : (if nI 0 < nI mq then nI mq else nI 0) = nI mq := by
  by_cases h0 : mq = 0
  · subst h0; rfl
  · rw [if_pos ((nI_ltI (by decide) h).mpr (by omega))]
theorem inY_t {pz : Int32} (h1 : ¬ pz < 0) (h2 : ¬ nI 24 ≤ pz) : inB (nI 0) (nI 23) pz = true := by
  rw [fa_lt] at h1
  rw [fa_le, nI_toInt (by decide)] at h2
  rw [inB_iff, nI_toInt (by decide), nI_toInt (by decide)]
  have h3 : ¬ pz.toInt < 0 := h1
  omega
theorem inY_f1 {pz : Int32} (h : pz < 0) : ¬ inB (nI 0) (nI 23) pz = true := by
  rw [inB_iff, nI_toInt (by decide)]
  rw [fa_lt] at h
  have h3 : pz.toInt < 0 := h
  omega
theorem inY_f2 {pz : Int32} (h : nI 24 ≤ pz) : ¬ inB (nI 0) (nI 23) pz = true := by
  rw [inB_iff, nI_toInt (n := 23) (by decide)]
  rw [fa_le, nI_toInt (by decide)] at h
  omega
