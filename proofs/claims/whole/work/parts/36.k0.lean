/-! the model's calls: what they keep, how contracts are told anew -/
theorem CtI.mono {l : Launch} {G : Gl} {y : MethodName} {cb : ByteArray} {mL : Nat} {ret : Option FieldType} {F Lo : Nat} {av : List Value} {σ : Sto} {post pos2 : Int32 → Sto → Prop} (h : CtI l G y cb mL ret F Lo av σ post) (hp : ∀ rz τq, post rz τq → pos2 rz τq) : CtI l G y cb mL ret F Lo av σ pos2 := by
  unfold CtI Met at *
  exact MetFree.mono h (fun _ _ q => q) (fun _ _ _ _ _ q => q) (fun a s o t _ q => by
    obtain ⟨⟨⟨r, u, e1, e2, e3⟩, e4⟩, e5⟩ := q
    exact ⟨⟨⟨r, u, e1, hp r u e2, e3⟩, e4⟩, e5⟩)
theorem CtL.mono {l : Launch} {G : Gl} {y : MethodName} {cb : ByteArray} {mL : Nat} {ret : Option FieldType} {F Lo : Nat} {av : List Value} {σ : Sto} {post pos2 : Int64 → Sto → Prop} (h : CtL l G y cb mL ret F Lo av σ post) (hp : ∀ rz τq, post rz τq → pos2 rz τq) : CtL l G y cb mL ret F Lo av σ pos2 := by
  unfold CtL Met at *
  exact MetFree.mono h (fun _ _ q => q) (fun _ _ _ _ _ q => q) (fun a s o t _ q => by
    obtain ⟨⟨⟨r, u, e1, e2, e3⟩, e4⟩, e5⟩ := q
    exact ⟨⟨⟨r, u, e1, hp r u e2, e3⟩, e4⟩, e5⟩)
theorem CtV.mono {l : Launch} {G : Gl} {y : MethodName} {cb : ByteArray} {mL : Nat} {ret : Option FieldType} {F Lo : Nat} {av : List Value} {σ : Sto} {post pos2 : Sto → Prop} (h : CtV l G y cb mL ret F Lo av σ post) (hp : ∀ τq, post τq → pos2 τq) : CtV l G y cb mL ret F Lo av σ pos2 := by
  unfold CtV Met at *
  exact MetFree.mono h (fun _ _ q => q) (fun _ _ _ _ _ q => q) (fun a s o t _ q => by
    obtain ⟨⟨⟨u, e1, e2, e3⟩, e4⟩, e5⟩ := q
    exact ⟨⟨⟨u, e1, hp u e2, e3⟩, e4⟩, e5⟩)
def keepM (σ τq : Sto) : Prop := (∀ cz, cz ≠ 11 → ¬ (73 ≤ cz ∧ cz ≤ 80) → τq cz = σ cz) ∧ ∀ kq, kq ≠ 7 → kq ≠ 14 → kq ≠ 15 → kq ≠ 16 → (τq 11).1 kq = (σ 11).1 kq
theorem keepM_rfl {σ : Sto} : keepM σ σ := ⟨fun _ _ _ => rfl, fun _ _ _ _ _ => rfl⟩
theorem keepM_two {s0q σ τq : Sto} (h : keepM s0q σ) (h2 : ∀ cz, ¬ (73 ≤ cz ∧ cz ≤ 80) → τq cz = σ cz) : keepM s0q τq := ⟨fun cz a b => (h2 cz b).trans (h.1 cz a b), fun kq a b c d => by rw [h2 11 (by omega)]; exact h.2 kq a b c d⟩
def NmX (s0q τq : Sto) (dfq : Nat → Int32) (endq : Nat) (xf : Nat → Int32) : Prop := (τq 11).1 7 = nI (gcnt dfq endq) ∧ (∀ jq, jq < gcnt dfq endq → (τq 75).1 jq = nI (yeF dfq endq jq)) ∧ (∀ jq, jq < gcnt dfq endq → (τq 76).1 jq = xf jq) ∧ (∀ yq, yq < 24 → (τq 73).1 yq = dfq yq) ∧ keepM s0q τq
theorem up_cong {yrq : Nat → Nat} {nq lq : Nat} {xf x2 : Nat → Int32} (h : ∀ jq, jq < nq → xf jq = x2 jq) : upF yrq nq xf lq = upF yrq nq x2 lq := by
  unfold upF; rw [wg_cong h, sum_cong h]
theorem loF_cong {nq : Nat} {xf x2 : Nat → Int32} (h : ∀ jq, jq < nq → xf jq = x2 jq) : loF nq xf = loF nq x2 := by
  unfold loF; rw [sq_cong h, sum_cong h]
theorem mx_cong {yrq : Nat → Nat} {nq f1q : Nat} {xf x2 : Nat → Int32} (h : ∀ jq, jq < nq → xf jq = x2 jq) : ∀ iq, mxU yrq nq xf f1q iq = mxU yrq nq x2 f1q iq
  | 0 => up_cong h
  | iq + 1 => by
    unfold mxU
    rw [mx_cong h iq, up_cong h]
theorem nm_of {s0q σ : Sto} {dfq : Nat → Int32} {endq : Nat} (hend : 1 ≤ endq ∧ endq ≤ 24) (hd : ∀ yq, yq < 24 → (σ 73).1 yq = dfq yq) (hk : ∀ cz, cz ≠ 73 → cz ≠ 74 → σ cz = s0q cz) : NmX s0q (sta (sta (sti σ 11 7 (nI (gcnt (σ 73).1 endq))) 76 (gnum (σ 73).1 (σ 76).1 endq)) 75 (gyr (σ 73).1 (σ 75).1 endq)) dfq endq (nuF dfq endq) := by
  have hbe : ∀ yq, yq < endq → (σ 73).1 yq = dfq yq := fun yq hy => hd yq (by omega)
  have hgc := ag_cnt hbe
  refine ⟨?_, ?_, ?_, ?_, ?_, ?_⟩
  · rw [sta_ne (by decide), sta_ne (by decide), sti_eq, hgc]
  · intro jq hj
    rw [sta_eq]
    exact ag_yr hbe jq (by rw [hgc]; exact hj)
  · intro jq hj
    rw [sta_ne (by decide), sta_eq]
    exact ag_num hbe jq (by rw [hgc]; exact hj)
  · intro yq hy
    rw [sta_ne (by decide), sta_ne (by decide), sti_ne (by decide)]
    exact hd yq hy
  · intro cz h1 h2
    rw [sta_ne (by omega), sta_ne (by omega), sti_ne (by omega)]
    exact hk cz (by omega) (by omega)
  · intro kq h1 _ _ _
    rw [sta_ne (by decide), sta_ne (by decide), ← hk 11 (by decide) (by decide)]
    simp [sti, stc, upd, h1]
theorem nm_keep {s0q σ τq : Sto} {dfq : Nat → Int32} {endq : Nat} {xf : Nat → Int32} (h : NmX s0q σ dfq endq xf) (hk : ∀ cz, cz ≠ 77 → cz ≠ 78 → τq cz = σ cz) : NmX s0q τq dfq endq xf := by
  obtain ⟨a1, a2, a3, a4, a5⟩ := h
  refine ⟨?_, ?_, ?_, ?_, ?_⟩
  · rw [hk 11 (by decide) (by decide)]; exact a1
  · rw [hk 75 (by decide) (by decide)]; exact a2
  · rw [hk 76 (by decide) (by decide)]; exact a3
  · rw [hk 73 (by decide) (by decide)]; exact a4
  · exact keepM_two a5 (fun cz h1 => hk cz (by omega) (by omega))
section NMq
variable {s0q σ : Sto} {dfq : Nat → Int32} {endq : Nat} {xf : Nat → Int32}
theorem c_X10_layN (l : Launch) (G : Gl) (σ : Sto) (s0q : Sto) (dfq : Nat → Int32) (endq : Nat) (hend : 1 ≤ endq ∧ endq ≤ 24) (hd : ∀ yq, yq < 24 → (σ 73).1 yq = dfq yq) (hk : ∀ cz, cz ≠ 73 → cz ≠ 74 → σ cz = s0q cz) : CtV l G yX10_layNumbers cX10_layNumbers 3 none 0 0 [.ref (gad G 11), .int (nI endq)] σ (fun σ' => NmX s0q σ' dfq endq (nuF dfq endq)) :=
  (c_X10_layNumbers l G σ _ rfl _ rfl _ rfl endq hend.2).mono (fun τq h => by subst h; exact nm_of hend hd hk)
theorem c_X10_upN (l : Launch) (G : Gl) (σ : Sto) (s0q : Sto) (dfq : Nat → Int32) (endq : Nat) (hend : 1 ≤ endq ∧ endq ≤ 24) (xf : Nat → Int32) (hnm : NmX s0q σ dfq endq xf) (lq : Nat) (hlq : 2 ≤ lq ∧ lq ≤ 12) : CtL l G yX10_upperOf cX10_upperOf 7 (some .long) 1 23 [.ref (gad G 11), .int (nI lq)] σ (fun r σ' => r = upF (yeF dfq endq) (gcnt dfq endq) xf lq ∧ NmX s0q σ' dfq endq xf) :=
  (c_X10_upperOf l G σ (yeF dfq endq) (gcnt dfq endq) hnm.1 (Nat.le_trans (gcnt_le dfq endq) hend.2) hnm.2.1 (fun jq => by have := yeF_lt (df := dfq) endq hend.1 jq; omega) _ rfl lq hlq).mono (fun r τq h => ⟨h.1.trans (up_cong hnm.2.2.1), nm_keep hnm h.2⟩)
theorem c_X10_grN (l : Launch) (G : Gl) (σ : Sto) (s0q : Sto) (dfq : Nat → Int32) (endq : Nat) (hend : 1 ≤ endq ∧ endq ≤ 24) (xf : Nat → Int32) (hnm : NmX s0q σ dfq endq xf) (f1q t1q : Nat) (hft : 2 ≤ f1q ∧ f1q ≤ t1q ∧ t1q ≤ 12) : CtL l G yX10_greatestOf cX10_greatestOf 8 (some .long) 2 49 [.ref (gad G 11), .int (nI f1q), .int (nI t1q)] σ (fun r σ' => r = mxU (yeF dfq endq) (gcnt dfq endq) xf f1q (t1q - f1q) ∧ NmX s0q σ' dfq endq xf) :=
  (c_X10_greatestOf l G σ (yeF dfq endq) (gcnt dfq endq) hnm.1 (Nat.le_trans (gcnt_le dfq endq) hend.2) hnm.2.1 (fun jq => by have := yeF_lt (df := dfq) endq hend.1 jq; omega) _ rfl f1q t1q hft).mono (fun r τq h => ⟨h.1.trans (mx_cong hnm.2.2.1 _), nm_keep hnm h.2⟩)
theorem c_X10_loN (l : Launch) (G : Gl) (σ : Sto) (s0q : Sto) (dfq : Nat → Int32) (endq : Nat) (hend : 1 ≤ endq ∧ endq ≤ 24) (xf : Nat → Int32) (hnm : NmX s0q σ dfq endq xf) : CtL l G yX10_lowerOf cX10_lowerOf 6 (some .long) 1 23 [.ref (gad G 11)] σ (fun r σ' => r = loF (gcnt dfq endq) xf ∧ σ' = σ) :=
  (c_X10_lowerOf l G σ (gcnt dfq endq) hnm.1 (Nat.le_trans (gcnt_le dfq endq) hend.2) _ rfl).mono (fun r τq h => ⟨h.1.trans (loF_cong hnm.2.2.1), h.2⟩)
theorem c_X10_sumN (l : Launch) (G : Gl) (σ : Sto) (s0q : Sto) (dfq : Nat → Int32) (endq : Nat) (hend : 1 ≤ endq ∧ endq ≤ 24) (xf : Nat → Int32) (hnm : NmX s0q σ dfq endq xf) : CtL l G yX10_sumOf cX10_sumOf 4 (some .long) 0 0 [.ref (gad G 11)] σ (fun r σ' => r = sumL xf (gcnt dfq endq) ∧ σ' = σ) :=
  (c_X10_sumOf l G σ (gcnt dfq endq) hnm.1 (Nat.le_trans (gcnt_le dfq endq) hend.2) _ rfl).mono (fun r τq h => ⟨h.1.trans (sum_cong hnm.2.2.1), h.2⟩)
theorem c_X10_heN (l : Launch) (G : Gl) (σ : Sto) (s0q : Sto) (dfq : Nat → Int32) (endq : Nat) (hend : 1 ≤ endq ∧ endq ≤ 24) (xf : Nat → Int32) (hnm : NmX s0q σ dfq endq xf) (lq : Nat) (hlq : 2 ≤ lq ∧ lq ≤ 12) : CtV l G yX10_layHeaps cX10_layHeaps 3 none 0 0 [.ref (gad G 11), .int (nI lq)] σ (fun σ' => (∀ rq, rq < lq → (σ' 77).2 rq = hsum (yeF dfq endq) lq rq xf (gcnt dfq endq) ∧ (σ' 78).1 rq = nI (cntR (yeF dfq endq) lq rq (gcnt dfq endq))) ∧ NmX s0q σ' dfq endq xf ∧ ∀ cz, cz ≠ 77 → cz ≠ 78 → σ' cz = σ cz) :=
  (c_X10_layHeaps l G σ (yeF dfq endq) (gcnt dfq endq) hnm.1 (Nat.le_trans (gcnt_le dfq endq) hend.2) hnm.2.1 (fun jq => by have := yeF_lt (df := dfq) endq hend.1 jq; omega) _ rfl lq hlq).mono (fun τq h => ⟨fun rq hr => ⟨(h.1 rq hr).1.trans (hs_cong hnm.2.2.1), (h.1 rq hr).2⟩, nm_keep hnm h.2, h.2⟩)
theorem nm_ex {τq : Sto} {aq bq : Nat} (h : NmX s0q σ dfq endq xf) (ha : aq < gcnt dfq endq) (hb : bq < gcnt dfq endq) (ht : τq = sta σ 76 (swp (σ 76).1 aq bq)) : NmX s0q τq dfq endq (swp xf aq bq) := by
  obtain ⟨a1, a2, a3, a4, a5⟩ := h
  subst ht
  refine ⟨?_, ?_, ?_, ?_, ?_⟩
  · rw [sta_ne (by decide)]; exact a1
  · rw [sta_ne (by decide)]; exact a2
  · rw [sta_eq]; exact swp_ag a3 ha hb
  · rw [sta_ne (by decide)]; exact a4
  · exact keepM_two a5 (fun cz h1 => sta_ne (by omega))
theorem c_X10_exN (l : Launch) (G : Gl) (σ : Sto) (s0q : Sto) (dfq : Nat → Int32) (endq : Nat) (hend : 1 ≤ endq ∧ endq ≤ 24) (xf : Nat → Int32) (hnm : NmX s0q σ dfq endq xf) (aq : Nat) (haq : aq < gcnt dfq endq) (bq : Nat) (hbq : bq < gcnt dfq endq) : CtV l G yX10_exchange cX10_exchange 4 none 0 0 [.ref (gad G 11), .int (nI aq), .int (nI bq)] σ (fun σ' => NmX s0q σ' dfq endq (swp xf aq bq) ∧ σ' 79 = σ 79) := by
  have hg := gcnt_le dfq endq
  exact (c_X10_exchange l G σ _ rfl aq (by omega) bq (by omega)).mono (fun τq h => ⟨nm_ex hnm haq hbq h, by rw [h]; exact sta_ne (by decide)⟩)
end NMq
/-! fractions: Euclid's way ends in time -/
def fbq : Nat → Nat
  | 0 => 0
  | 1 => 1
  | nq + 2 => fbq nq + fbq (nq + 1)
theorem gcdS_N : ∀ (nq xq yq : Nat), yq < xq → xq < 2 ^ 63 → (xq < fbq (nq + 2) ∨ yq < fbq (nq + 1)) → gcdS nq (lN xq) (lN yq) = lN (Nat.gcd xq yq)
  | 0, xq, yq, h1, h2, h3 => by
    rw [show fbq (0 + 2) = 1 from rfl, show fbq (0 + 1) = 1 from rfl] at h3
    obtain rfl : yq = 0 := by omega
    rw [Nat.gcd_zero_right]
    rfl
  | nq + 1, xq, yq, h1, h2, h3 => by
    unfold gcdS
    by_cases h0 : yq = 0
    · subst h0
      rw [if_pos (by decide), Nat.gcd_zero_right]
    · rw [if_neg (lN_ne (by omega) (by omega)), show lrm (lN xq) (lN yq) = lN (xq % yq) from pk_lRem h2 (by omega) (by omega), ← gcd_stp (aq := xq) (bq := yq)]
      have hm := Nat.mod_lt xq (show 0 < yq by omega)
      apply gcdS_N nq yq (xq % yq) hm (by omega)
      rcases Nat.lt_or_ge yq (fbq (nq + 2)) with h4 | h4
      · exact Or.inl h4
      · right
        have h5 : fbq (nq + 1 + 2) = fbq (nq + 1) + fbq (nq + 2) := rfl
        have h6 : xq < fbq (nq + 1 + 2) := by
          rcases h3 with h3 | h3
          · exact h3
          · rw [show nq + 1 + 1 = nq + 2 from rfl] at h3; omega
        have h7 : xq % yq + yq ≤ xq := by
          have := Nat.div_add_mod xq yq
          have h8 : yq * 1 ≤ yq * (xq / yq) := Nat.mul_le_mul_left yq (Nat.div_pos (by omega) (by omega))
          omega
        omega
def fbP : Nat → Nat × Nat
  | 0 => (0, 1)
  | nq + 1 => ((fbP nq).2, (fbP nq).1 + (fbP nq).2)
theorem fbP_e : ∀ nq, fbP nq = (fbq nq, fbq (nq + 1))
  | 0 => rfl
  | nq + 1 => by
    unfold fbP
    rw [fbP_e nq]
    rfl
theorem fb_big : 2 ^ 63 < fbq 101 := by
  have h := congrArg Prod.fst (fbP_e 101)
  have h2 : (fbP 101).1 = fbq 101 := h
  rw [← h2]
  decide +kernel
theorem gcdS_100 {xq yq : Nat} (h1 : xq < 2 ^ 63) (h0 : 0 < yq) (h2 : yq < 2 ^ 63) : gcdS 100 (lN xq) (lN yq) = lN (Nat.gcd xq yq) := by
  show (if lN yq = 0 then lN xq else gcdS 99 (lN yq) (lrm (lN xq) (lN yq))) = _
  rw [if_neg (lN_ne h0 h2), show lrm (lN xq) (lN yq) = lN (xq % yq) from pk_lRem h1 h0 h2, ← gcd_stp (aq := xq) (bq := yq)]
  have := fb_big
  exact gcdS_N 99 yq (xq % yq) (Nat.mod_lt xq h0) h2 (Or.inl (show yq < fbq 101 by omega))
def fX (upq lowq : Int64) (pz : Int32) : Int64 := if pz = 0 then fU upq lowq else fL upq lowq
theorem lN_of {vz : Int64} (h : 0 ≤ vz.toInt) : vz = lN vz.toInt.toNat := by
  apply Int64.toInt_inj.mp
  have := vz.toInt_lt
  rw [lN_ti' (by omega)]
  omega
theorem abs_of {upq : Int64} (h1 : -(2 ^ 62 : Int) ≤ upq.toInt) (h2 : upq.toInt ≤ 2 ^ 62) : absL upq = lN upq.toInt.natAbs ∧ (if upq < 0 then -upq else upq) = lN upq.toInt.natAbs ∧ upq.toInt.natAbs < 2 ^ 63 := by
  have h3 := abs_N (upq := upq) (uz := upq.toInt) (Int64.ofInt_toInt upq).symm h1 h2
  refine ⟨?_, h3⟩
  rw [← h3.1]
  unfold absL
  by_cases h4 : upq < 0
  · rw [if_pos h4, if_neg (fun z => by rw [fa_lt64] at h4 z; omega)]
  · by_cases h5 : 0 < upq
    · rw [if_neg h4, if_pos h5]
    · rw [if_neg h4, if_neg h5]
      have : upq = 0 := by
        apply Int64.toInt_inj.mp
        rw [fa_lt64] at h4 h5
        omega
      rw [this]
      rfl
theorem l_pos {vz : Int64} : 0 < vz.toInt ↔ 0 < vz := by rw [fa_lt64]; rfl
theorem fU_e {upq lowq : Int64} (h1 : -(2 ^ 62 : Int) ≤ upq.toInt) (h2 : upq.toInt ≤ 2 ^ 62) (h3 : 0 < lowq.toInt) : fU upq lowq = upq / lN (Nat.gcd upq.toInt.natAbs lowq.toInt.toNat) ∧ fL upq lowq = lowq / lN (Nat.gcd upq.toInt.natAbs lowq.toInt.toNat) := by
  have hb := lN_of (vz := lowq) (by omega)
  have hl := lowq.toInt_lt
  obtain ⟨ha, _, hn⟩ := abs_of h1 h2
  have hg := gcd_le (aq := upq.toInt.natAbs) (bq := lowq.toInt.toNat) (by omega)
  have hG : gcdS 100 (absL upq) lowq = lN (Nat.gcd upq.toInt.natAbs lowq.toInt.toNat) := by
    rw [ha]
    conv => lhs; rw [hb]
    exact gcdS_100 hn (by omega) (by omega)
  unfold fU fL
  rw [hG]
  have hlow : ¬ lowq ≤ 0 := l_nle.mpr (l_pos.mp h3)
  have hgp : 0 < lN (Nat.gcd upq.toInt.natAbs lowq.toInt.toNat) := by rw [← l_pos, lN_ti' (by omega)]; omega
  by_cases h0 : upq = 0
  · rw [if_pos h0, if_pos h0]
    have e : Nat.gcd upq.toInt.natAbs lowq.toInt.toNat = lowq.toInt.toNat := by
      rw [h0]
      exact Nat.gcd_zero_left _
    rw [e]
    constructor
    · rw [h0, Int64.zero_div]
    · conv => rhs; arg 1; rw [hb]
      rw [pk_lDiv (by omega) (by omega) (by omega), Nat.div_self (by omega)]
      rfl
  · rw [if_neg h0, if_neg h0, if_neg hlow, if_neg hlow, if_pos hgp, if_pos hgp]
    exact ⟨rfl, rfl⟩
theorem c_X10_lowF (l : Launch) (G : Gl) (σ : Sto) (upq lowq : Int64) (h1 : -(2 ^ 62 : Int) ≤ upq.toInt) (h2 : upq.toInt ≤ 2 ^ 62) (h3 : 0 < lowq.toInt) (pz : Int32) : CtL l G yX10_lowest cX10_lowest 11 (some .long) 0 0 [.long upq, .long lowq, .int pz] σ (fun r σ' => r = fX upq lowq pz ∧ σ' = σ) := by
  have hb := lN_of (vz := lowq) (by omega)
  have hl := lowq.toInt_lt
  obtain ⟨ha, hc, hn⟩ := abs_of h1 h2
  have hf := fU_e h1 h2 h3
  have ct := c_X10_lowest l G σ upq upq.toInt.natAbs hn hc lowq.toInt.toNat ⟨by omega, by omega⟩ pz
  rw [← hb] at ct
  refine ct.mono (fun r τq h => ⟨h.1.trans ?_, h.2⟩)
  unfold lwS fX
  rw [← hb, hf.1, hf.2]
/-! the FAULT told as a refusal -/
theorem flt_n {sn : Nat → Nat} {cntq : Nat} (hc : cntq ≤ 20) (h : fltI sn cntq < 0) : fltF sn cntq 21 0 = none := by
  unfold fltI at h
  split at h
  · rename_i pq1 hq
    have := flt_le hq
    exact absurd h (nI_pos (by omega))
  · assumption
theorem flt_s {sn : Nat → Nat} {cntq : Nat} (h : ¬ fltI sn cntq < 0) : ∃ pq1, fltF sn cntq 21 0 = some pq1 := by
  unfold fltI at h
  split at h
  · rename_i pq1 hq
    exact ⟨pq1, hq⟩
  · exact absurd (by decide) h
theorem rf_1 {b1q b2q : Bool} {flq : Option Nat} (h : b1q = false) : refI b1q b2q flq = -1 := by subst h; rfl
theorem rf_2 {b1q b2q : Bool} {flq : Option Nat} (h : b1q = true) (h2 : b2q = false) : refI b1q b2q flq = -2 := by subst h; subst h2; rfl
theorem rf_5 {b1q b2q : Bool} {flq : Option Nat} (h : b1q = true) (h2 : b2q = true) (h3 : ∃ pq1, flq = some pq1) : refI b1q b2q flq = -5 := by subst h; subst h2; obtain ⟨pq1, rfl⟩ := h3; rfl
theorem rf_0 {b1q b2q : Bool} {flq : Option Nat} (h : b1q = true) (h2 : b2q = true) (h3 : flq = none) : refI b1q b2q flq = 0 := by subst h; subst h2; subst h3; rfl
/-! bounds of the numbers that are gathered -/
theorem nu_bd {dfq : Nat → Int32} (h : BdF dfq) : ∀ {kq : Nat}, kq ≤ 24 → ∀ jq, jq < gcnt dfq kq → -999 ≤ (nuF dfq kq jq).toInt ∧ (nuF dfq kq jq).toInt ≤ 999
  | 0, _, jq, hj => absurd hj (Nat.not_lt_zero jq)
  | kq + 1, hk, jq, hj => by
    have h0 := nu_bd h (kq := kq) (by omega)
    unfold nuF at *
    by_cases h1 : dfq kq = -1000000
    · rw [gnum_g h1]
      rw [gcnt_g h1] at hj
      exact h0 jq hj
    · rw [gnum_n h1]
      rw [gcnt_n h1] at hj
      by_cases h2 : jq = gcnt dfq kq
      · subst h2; rw [pk_us]; exact (h kq (by omega)).resolve_left h1
      · rw [pk_un h2]; exact h0 jq (by omega)
theorem nu_sm {dfq : Nat → Int32} {endq : Nat} (h : BdF dfq) (he : endq ≤ 24) : smB (gcnt dfq endq) (nuF dfq endq) := fun jq hj => nu_bd h he jq hj
theorem up_ti {yrq : Nat → Nat} {nq lq : Nat} {xf : Nat → Int32} (h : smB nq xf) (hn : nq ≤ 24) : (upF yrq nq xf lq).toInt = upZ yrq nq xf lq := by
  have := up_bd (yrq := yrq) (lq := lq) h hn
  rw [up_Z hn, ofI_ti (by omega) (by omega)]
theorem lo_ti {nq : Nat} {xf : Nat → Int32} (h : smB nq xf) (hn : nq ≤ 24) : (loF nq xf).toInt = loZ nq xf := by
  have := lo_bd h hn
  rw [lo_Z hn, ofI_ti (by omega) (by omega)]
theorem fX_0 {upq : Int64} {pz : Int32} (h : inB (nI 0) (nI 1) pz = true) : fX upq 0 pz = pz.toInt64 := by
  obtain ⟨kq, rfl, _, h2⟩ := inB_lo (by decide) (by decide) h
  have h3 : kq = 0 ∨ kq = 1 := by omega
  unfold fX fU fL
  rcases h3 with rfl | rfl
  · rw [if_pos (by decide)]
    by_cases h0 : upq = 0
    · rw [if_pos h0]; decide
    · rw [if_neg h0, if_pos (by decide)]; decide
  · rw [if_neg (by decide)]
    by_cases h0 : upq = 0
    · rw [if_pos h0]; decide
    · rw [if_neg h0, if_pos (by decide)]; decide
theorem up_nz {nq : Nat} {xf : Nat → Int32} (h : smB nq xf) (hn : nq ≤ 24) (h0 : ¬ loF nq xf = 0) : 0 < (loF nq xf).toInt := by
  have h1 := lo_bd h hn
  rw [lo_ti h hn]
  rcases Int.lt_or_eq_of_le h1.1 with h2 | h2
  · exact h2
  · exact absurd (by apply Int64.toInt_inj.mp; rw [lo_ti h hn, ← h2]; rfl) h0
