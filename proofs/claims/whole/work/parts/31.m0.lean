/-! THE MODEL: what its calls compute -/
def PadM (σ : Sto) (sn : Nat → Nat) (cntq : Nat) : Prop := (σ 11).1 2 = nI cntq ∧ cntq ≤ 20 ∧ (∀ jq, jq < cntq → (σ 72).1 jq = nI (sn jq)) ∧ ∀ jq, sn jq < 127
def dgM (cq : Nat) : Int32 := match digs cq with
  | some kq => nI kq
  | none => -1
theorem popN_up (kq iq : Nat) : popN iq kq + (kq / 2 ^ iq &&& 1) = popN (iq + 1) kq := by
  have h0 := popN_split iq 0 kq
  have h1 := popN_split iq 1 kq
  rw [Nat.add_zero, show popN 0 (kq / 2 ^ iq) = 0 from rfl, Nat.add_zero] at h0
  rw [h1, ← h0, Nat.and_one_is_mod]
  rfl
theorem in_dig {sq : Nat} (h : sq < 127) : inL 0 9 (nI sq - nI 48).toInt64 = decide (48 ≤ sq ∧ sq ≤ 57) := by
  have e : inL 0 9 (nI sq - nI 48).toInt64 = inB (nI 0) (nI 9) (nI sq - nI 48) := by rw [← inL_w]; rfl
  rw [e, Bool.eq_iff_iff, inB_iff, decide_eq_true_eq, nI_subI (by omega) (by omega), nI_toInt (by decide), nI_toInt (by decide)]
  omega
def BdI (vz : Int32) : Prop := vz = -1000000 ∨ (-999 ≤ vz.toInt ∧ vz.toInt ≤ 999)
def BdF (fq : Nat → Int32) : Prop := ∀ yq, yq < 24 → BdI (fq yq)
def hlM (vz : Int32) : Int32 := maxI (-999) (minI (nI 999) vz)
theorem hlM_y {vz : Int32} (h : ¬ vz = -1000000) : holdI vz = hlM vz := if_neg h
theorem hld_a {vz : Int32} (h : (999 : Int64) < vz.toInt64) : nI 999 = hlM vz := by
  rw [fa_lt64, Int32.toInt_toInt64] at h
  have h2 : nI 999 < vz := by rw [fa_lt, nI_toInt (by decide)]; exact h
  unfold hlM minI
  rw [if_neg (fun z => by rw [fa_lt] at z h2; omega)]
  decide
theorem hld_b {vz : Int32} (h1 : ¬ (999 : Int64) < vz.toInt64) (h : vz.toInt64 < (-999 : Int64)) : (-999 : Int32) = hlM vz := by
  rw [fa_lt64, Int32.toInt_toInt64] at h
  have h3 : (-999 : Int64).toInt = -999 := by decide
  rw [h3] at h
  unfold hlM minI
  rw [if_pos (by rw [fa_lt, nI_toInt (by decide)]; omega)]
  unfold maxI
  rw [if_neg (fun z => by rw [fa_lt, show (-999 : Int32).toInt = -999 by decide] at z; omega)]
theorem hld_c {vz : Int32} (h1 : ¬ (999 : Int64) < vz.toInt64) (h : ¬ vz.toInt64 < (-999 : Int64)) : vz.toInt64.toInt32 = hlM vz := by
  rw [fa_lt64, Int32.toInt_toInt64, show (-999 : Int64).toInt = -999 by decide] at h
  rw [fa_lt64, Int32.toInt_toInt64, show (999 : Int64).toInt = 999 by decide] at h1
  rw [Int32.toInt32_toInt64]
  unfold hlM minI
  by_cases h4 : vz < nI 999
  · rw [if_pos h4]
    unfold maxI
    by_cases h5 : (-999 : Int32) < vz
    · rw [if_pos h5]
    · rw [if_neg h5]
      rw [fa_lt, show (-999 : Int32).toInt = -999 by decide] at h5
      apply Int32.toInt_inj.mp
      rw [show (-999 : Int32).toInt = -999 by decide]
      omega
  · rw [if_neg h4]
    rw [fa_lt, nI_toInt (by decide)] at h4
    apply Int32.toInt_inj.mp
    rw [show maxI (-999) (nI 999) = nI 999 by decide, nI_toInt (by decide)]
    omega
theorem hlM_bd (vz : Int32) : -999 ≤ (hlM vz).toInt ∧ (hlM vz).toInt ≤ 999 := by
  unfold hlM
  have h2 : (minI (nI 999) vz).toInt ≤ 999 := by
    unfold minI
    split
    · rename_i h; rw [fa_lt, nI_toInt (by decide)] at h; omega
    · rw [nI_toInt (by decide)]; omega
  generalize minI (nI 999) vz = wz at *
  unfold maxI
  split
  · rename_i h; rw [fa_lt, show (-999 : Int32).toInt = -999 by decide] at h; omega
  · rw [show (-999 : Int32).toInt = -999 by decide]; omega
theorem bd_hold (vz : Int32) : BdI (holdI vz) := by
  by_cases h : vz = -1000000
  · left; unfold holdI; rw [if_pos h]
  · right; rw [hlM_y h]; exact hlM_bd vz
theorem bd_at {fq : Nat → Int32} (h : BdF fq) (pz : Int32) : BdI (atI fq pz) := by
  unfold atI
  split
  · rename_i h1
    exact h _ (by have := (inB_nI (n := 23) (by decide) h1).2; omega)
  · exact Or.inl rfl
theorem i_add_toInt {az bz : Int32} (h1 : -(2 ^ 31 : Int) ≤ az.toInt + bz.toInt) (h2 : az.toInt + bz.toInt < 2 ^ 31) : (az + bz).toInt = az.toInt + bz.toInt := by
  rw [Int32.toInt_add, Int.bmod_eq_of_le (by simpa using h1) (by simpa using h2)]
theorem i_sub_toInt {az bz : Int32} (h1 : -(2 ^ 31 : Int) ≤ az.toInt - bz.toInt) (h2 : az.toInt - bz.toInt < 2 ^ 31) : (az - bz).toInt = az.toInt - bz.toInt := by
  rw [Int32.toInt_sub, Int.bmod_eq_of_le (by simpa using h1) (by simpa using h2)]
theorem i_neg_toInt {az : Int32} (h1 : -(2 ^ 31 : Int) < az.toInt) : (-az).toInt = -az.toInt := by
  rw [Int32.toInt_neg, Int.bmod_eq_of_le (by have := az.toInt_lt; simp; omega) (by simp; omega)]
theorem gap_ne {vz : Int32} (h : -900000 ≤ vz.toInt) : ¬ vz = -1000000 := fun e => by
  rw [e, show (-1000000 : Int32).toInt = -1000000 by decide] at h
  omega
theorem smA_bd {fq : Nat → Int32} (h : BdF fq) (jq : Nat) : ∀ mq, mq ≤ 9 → smA fq jq mq = -1000000 ∨ (-(999 * (mq : Int)) ≤ (smA fq jq mq).toInt ∧ (smA fq jq mq).toInt ≤ 999 * (mq : Int))
  | 0, _ => Or.inr (show -(999 * ((0 : Nat) : Int)) ≤ (nI 0).toInt ∧ (nI 0).toInt ≤ 999 * ((0 : Nat) : Int) by decide)
  | mq + 1, hm => by
    have h0 := smA_bd h jq mq (by omega)
    show (if smA fq jq mq = -1000000 then (-1000000 : Int32) else _) = _ ∨ (_ ≤ (if smA fq jq mq = -1000000 then (-1000000 : Int32) else _).toInt ∧ (if smA fq jq mq = -1000000 then (-1000000 : Int32) else _).toInt ≤ _)
    by_cases h1 : smA fq jq mq = -1000000
    · rw [if_pos h1]; exact Or.inl rfl
    · rw [if_neg h1]
      have h0' := h0.resolve_left h1
      by_cases h2 : atI fq (nI jq - nI mq) = -1000000
      · rw [if_pos h2]; exact Or.inl rfl
      · rw [if_neg h2]
        have h3 := (bd_at h (nI jq - nI mq)).resolve_left h2
        right
        rw [i_add_toInt (by omega) (by omega)]
        omega
theorem smA_nx {fq : Nat → Int32} (h : BdF fq) {jq mq : Nat} (hm : mq < 9) (h1 : ¬ smA fq jq mq = -1000000) (h2 : ¬ atI fq (nI jq - nI mq) = -1000000) : ¬ smA fq jq (mq + 1) = -1000000 := by
  rw [← smA_add h1 h2]
  have h3 := (bd_at h (nI jq - nI mq)).resolve_left h2
  have h4 := (smA_bd h jq mq (by omega)).resolve_left h1
  apply gap_ne
  rw [i_add_toInt (by omega) (by omega)]
  omega
theorem smA_g1 {fq : Nat → Int32} {jq mq : Nat} (h1 : smA fq jq mq = -1000000) : smA fq jq (mq + 1) = -1000000 := (smA_stop h1 (Nat.le_succ mq)).symm.trans h1
theorem smA_g2 {fq : Nat → Int32} {jq mq : Nat} (h2 : atI fq (nI jq - nI mq) = -1000000) : smA fq jq (mq + 1) = -1000000 := by
  by_cases h1 : smA fq jq mq = -1000000
  · exact smA_g1 h1
  · exact (smA_gp h1 h2).symm
section STP
variable {sn : Nat → Nat} {aq : Nat} {fq : Nat → Int32} {jq : Nat}
theorem stp_s (h : sn aq = 115) (hj : jq < 24) : stepF sn aq fq jq = holdI (smA fq jq (sn (aq + 1) - 48)) := by
  unfold stepF; rw [if_pos h, mix_in (Nat.zero_le _) hj]; rfl
theorem stp_l (h : sn aq = 108) (hj : jq < 24) : stepF sn aq fq jq = atI fq (nI jq - nI (sn (aq + 1) - 48)) := by
  unfold stepF; rw [if_neg (by omega), if_pos h, mix_in (Nat.zero_le _) hj]; rfl
theorem stp_t (h : sn aq = 116) (hj : jq < 24) : stepF sn aq fq jq = if twoN sn (aq + 1) ≤ jq then (if fq jq = -1000000 then fq jq else -(fq jq)) else fq jq := by
  unfold stepF; rw [if_neg (by omega), if_neg (by omega), if_pos h]
  by_cases h2 : twoN sn (aq + 1) ≤ jq
  · rw [mix_in h2 hj, if_pos h2]; rfl
  · rw [mix_lo (by omega), if_neg h2]
theorem stp_c (h : sn aq = 99) (hj : jq < 24) : stepF sn aq fq jq = if twoN sn (aq + 1) ≤ jq ∧ jq ≤ twoN sn (aq + 3) then fq jq else -1000000 := by
  unfold stepF; rw [if_neg (by omega), if_neg (by omega), if_neg (by omega), if_pos h, mix_in (Nat.zero_le _) hj]; rfl
theorem stp_d (h : sn aq = 100) (hj : jq < 24) : stepF sn aq fq jq = if fq jq = -1000000 then -1000000 else if atI fq (nI jq - nI 1) = -1000000 then -1000000 else holdI (fq jq - atI fq (nI jq - nI 1)) := by
  unfold stepF; rw [if_neg (by omega), if_neg (by omega), if_neg (by omega), if_neg (by omega), if_pos h, mix_in (Nat.zero_le _) hj]; rfl
end STP
theorem bd_neg {vz : Int32} (h : BdI vz) (h1 : ¬ vz = -1000000) : BdI (-vz) := by
  have h2 := h.resolve_left h1
  right
  rw [i_neg_toInt (by omega)]
  omega
theorem bd_step {sn : Nat → Nat} {aq : Nat} {fq : Nat → Int32} (h : BdF fq) : BdF (stepF sn aq fq) := by
  intro yq hy
  by_cases h1 : sn aq = 115
  · rw [stp_s h1 hy]; exact bd_hold _
  by_cases h2 : sn aq = 108
  · rw [stp_l h2 hy]; exact bd_at h _
  by_cases h3 : sn aq = 116
  · rw [stp_t h3 hy]
    split
    · split
      · exact h yq hy
      · rename_i h4; exact bd_neg (h yq hy) h4
    · exact h yq hy
  by_cases h4 : sn aq = 99
  · rw [stp_c h4 hy]
    split
    · exact h yq hy
    · exact Or.inl rfl
  by_cases h5 : sn aq = 100
  · rw [stp_d h5 hy]
    split
    · exact Or.inl rfl
    · split
      · exact Or.inl rfl
      · exact bd_hold _
  unfold stepF
  rw [if_neg h1, if_neg h2, if_neg h3, if_neg h4, if_neg h5]
  exact h yq hy
theorem bd_deal {sn : Nat → Nat} {cntq : Nat} : ∀ (nq aq : Nat) {fq : Nat → Int32}, BdF fq → BdF (dealW sn cntq nq aq fq)
  | 0, _, _, h => h
  | nq + 1, aq, fq, h => by
    unfold dealW
    split
    · exact bd_deal nq _ (bd_step h)
    · exact h
theorem i_sba (az bz cz : Int32) : az - bz + cz = az - (bz - cz) := by
  rw [Int32.sub_eq_add_neg az, Int32.sub_eq_add_neg az, Int32.neg_sub, Int32.add_assoc, Int32.sub_eq_add_neg cz, Int32.add_comm cz]
theorem sta_com {σ : Sto} {cz dz : Nat} {fq gq : Nat → Int32} (hne : cz ≠ dz) : sta (sta σ cz fq) dz gq = sta (sta σ dz gq) cz fq := by
  funext jq
  by_cases h : jq = cz
  · subst h; simp [sta, stc, hne]
  · by_cases h2 : jq = dz
    · subst h2; simp [sta, stc, h]
    · simp [sta, stc, h, h2]
def yrF (σ : Sto) (rq : Nat) : Nat → Int32 := fun yq => (σ 71).1 (24 * rq + yq)
def dlM (σ : Sto) (sn : Nat → Nat) (cntq rq : Nat) : Nat → Int32 := dealW sn cntq 21 0 (yrF σ rq)
theorem mst_23 {sn : Nat → Nat} {aq kq : Nat} (h : 2 ≤ kq → twoN sn (aq + 1) ≤ 23) : fst2 sn aq (kq + 1) ≤ 23 := by
  unfold fst2
  split
  · exact h (by omega)
  · omega
theorem twoN_e {sn : Nat → Nat} {jq : Nat} (h0 : 48 ≤ sn jq) (h : 48 ≤ sn (jq + 1)) : 10 * (sn jq - 48) + sn (jq + 1) - 48 = twoN sn jq := by
  unfold twoN; omega
theorem bc_t {alq : Bool} {pq : Prop} [Decidable pq] (h : alq = !decide pq) (h2 : alq = false) : pq := by
  rw [h2] at h
  by_cases hp : pq
  · exact hp
  · rw [decide_eq_false hp] at h; cases h
theorem bc_f {alq : Bool} {pq : Prop} [Decidable pq] (h : alq = !decide pq) (h2 : alq = true) : ¬ pq := by
  rw [h2] at h
  intro hp
  rw [decide_eq_true hp] at h; cases h
theorem df_ne {fq : Nat → Int32} {jq : Nat} (h : BdF fq) (hj : jq < 24) (h1 : ¬ fq jq = -1000000) (h2 : ¬ atI fq (nI jq - nI 1) = -1000000) : ¬ fq jq - atI fq (nI jq - nI 1) = -1000000 := by
  have a1 := (h jq hj).resolve_left h1
  have a2 := (bd_at h (nI jq - nI 1)).resolve_left h2
  apply gap_ne
  rw [i_sub_toInt (by omega) (by omega)]
  omega
theorem fl_s {sn : Nat → Nat} {aq kq : Nat} (h : sn aq = 115) (h2 : sn (aq + (kq + 1)) < 127) : inL 50 53 (nI (sn (aq + (kq + 1)))).toInt64 = canS sn aq (kq + 1) := by
  have e : inL 50 53 (nI (sn (aq + (kq + 1)))).toInt64 = inB (nI 50) (nI 53) (nI (sn (aq + (kq + 1)))) := by rw [← inL_w]; rfl
  rw [e, inB_N (by decide) (by decide) (by omega)]
  unfold canS
  rw [if_neg (by omega), if_pos h, Bool.eq_iff_iff]
  simp
  omega
theorem fl_l {sn : Nat → Nat} {aq kq : Nat} (h : sn aq = 108) (h2 : sn (aq + (kq + 1)) < 127) : inL 49 57 (nI (sn (aq + (kq + 1)))).toInt64 = canS sn aq (kq + 1) := by
  have e : inL 49 57 (nI (sn (aq + (kq + 1)))).toInt64 = inB (nI 49) (nI 57) (nI (sn (aq + (kq + 1)))) := by rw [← inL_w]; rfl
  rw [e, inB_N (by decide) (by decide) (by omega)]
  unfold canS
  rw [if_pos h, Bool.eq_iff_iff]
  simp
  omega
