/-! go and draws: class and model count alike -/
def geI (tz : Bool) (aq bq cq dq : Nat) : Prop := if tz = true then aq * dq ≤ cq * bq else cq * bq ≤ aq * dq
theorem geI_t {aq bq cq dq : Nat} : geI true aq bq cq dq ↔ aq * dq ≤ cq * bq := Iff.rfl
theorem geI_f {aq bq cq dq : Nat} : geI false aq bq cq dq ↔ cq * bq ≤ aq * dq := Iff.rfl
theorem ge_step {tz : Bool} {aq bq cq dq : Nat} (h : aq / bq = cq / dq) : geI tz aq bq cq dq ↔ geI (!tz) bq (aq % bq) dq (cq % dq) := by
  have hc := cr_dm h
  cases tz
  · rw [geI_f, show (!false) = true from rfl, geI_t, Nat.mul_comm bq, Nat.mul_comm dq]
    omega
  · rw [geI_t, show (!true) = false from rfl, geI_f, Nat.mul_comm bq, Nat.mul_comm dq]
    omega
theorem atl_0 {nq aq bq cq dq : Nat} {tz : Bool} (hb : bq < 2 ^ 63) (hd : dq < 2 ^ 63) (h : bq = 0 ∨ dq = 0) (ha : bq = 0 → 0 < aq) (hc : dq = 0 → 0 < cq) : (atlS nq (lN aq) (lN bq) (lN cq) (lN dq) tz = true) ↔ geI tz aq bq cq dq := by
  have e0 : lN 0 ≤ 0 := by decide
  rw [atlS_e (by rcases h with h | h; exact Or.inr (Or.inl (by rw [h]; exact e0)); exact Or.inr (Or.inr (by rw [h]; exact e0)))]
  unfold atlE
  by_cases hbd : bq = dq
  · rw [if_pos (by rw [hbd])]
    have hb0 : bq = 0 := by omega
    have hd0 : dq = 0 := by omega
    subst hb0; subst hd0
    cases tz <;> simp [geI]
  · rw [if_neg (fun z => hbd ((lNe hb hd).mp z))]
    rcases Nat.eq_zero_or_pos bq with h1 | h1
    · have h2 := ha h1
      subst h1
      have h3 : 0 < dq := by omega
      rw [decide_eq_true ((lNlt hb hd).mpr h3)]
      have h4 := Nat.mul_pos h2 h3
      cases tz
      · simp [geI]
      · rw [geI_t, Nat.mul_zero]
        constructor
        · intro z; exact absurd z (by decide)
        · intro z; omega
    · have h2 : dq = 0 := by omega
      have h3 := hc h2
      subst h2
      rw [decide_eq_false (fun z => by have := (lNlt hb hd).mp z; omega)]
      have h4 := Nat.mul_pos h3 h1
      cases tz
      · rw [geI_f, Nat.mul_zero]
        constructor
        · intro z; exact absurd z (by decide)
        · intro z; omega
      · simp [geI]
theorem atl_1 {nq aq bq cq dq : Nat} {tz : Bool} (hA : aq < 2 ^ 63) (hb0 : 0 < bq) (hb : bq < 2 ^ 63) (hC : cq < 2 ^ 63) (hd0 : 0 < dq) (hd : dq < 2 ^ 63) (ih : aq / bq = cq / dq → ((atlS nq (lN bq) (lN (aq % bq)) (lN dq) (lN (cq % dq)) (!tz) = true) ↔ geI (!tz) bq (aq % bq) dq (cq % dq))) : (atlS (nq + 1) (lN aq) (lN bq) (lN cq) (lN dq) tz = true) ↔ geI tz aq bq cq dq := by
  have n1 : ¬ lN bq ≤ 0 := fun z => by rw [show (0 : Int64) = lN 0 from rfl, lNle hb (by decide)] at z; omega
  have n2 : ¬ lN dq ≤ 0 := fun z => by rw [show (0 : Int64) = lN 0 from rfl, lNle hd (by decide)] at z; omega
  have q1 : lN aq / lN bq = lN (aq / bq) := pk_lDiv hA hb0 hb
  have q2 : lN cq / lN dq = lN (cq / dq) := pk_lDiv hC hd0 hd
  have d1 : aq / bq < 2 ^ 63 := Nat.lt_of_le_of_lt (Nat.div_le_self _ _) hA
  have d2 : cq / dq < 2 ^ 63 := Nat.lt_of_le_of_lt (Nat.div_le_self _ _) hC
  by_cases h1 : aq / bq = cq / dq
  · rw [atlS_s n1 n2 (by rw [q1, q2, h1]), show lrm (lN aq) (lN bq) = lN (aq % bq) from pk_lRem hA hb0 hb, show lrm (lN cq) (lN dq) = lN (cq % dq) from pk_lRem hC hd0 hd, ih h1, ge_step h1]
  · rw [atlS_d n1 n2 (by rw [q1, q2, lNe d1 d2]; exact h1), q1, q2]
    have t1 := lt_a hb0 hd0 h1
    have t2 := lt_a hd0 hb0 (fun z => h1 z.symm)
    cases tz
    · rw [geI_f, ← Nat.not_lt, t1]
      by_cases h2 : cq / dq < aq / bq
      · rw [decide_eq_true ((lNlt d2 d1).mpr h2)]
        constructor
        · intro _; omega
        · intro _; rfl
      · rw [decide_eq_false (fun z => h2 ((lNlt d2 d1).mp z))]
        constructor
        · intro z; exact absurd z (by decide)
        · intro z; omega
    · rw [geI_t, ← Nat.not_lt, t2]
      by_cases h2 : cq / dq < aq / bq
      · rw [decide_eq_true ((lNlt d2 d1).mpr h2)]
        constructor
        · intro z; exact absurd z (by decide)
        · intro z; omega
      · rw [decide_eq_false (fun z => h2 ((lNlt d2 d1).mp z))]
        constructor
        · intro _; omega
        · intro _; rfl
theorem atl_N : ∀ (nq aq bq cq dq : Nat) (tz : Bool), aq < 2 ^ 63 → bq < aq → cq < 2 ^ 63 → dq < 2 ^ 63 → (dq = 0 → 0 < cq) → (aq < fbq (nq + 2) ∨ bq < fbq (nq + 1)) → ((atlS nq (lN aq) (lN bq) (lN cq) (lN dq) tz = true) ↔ geI tz aq bq cq dq)
  | 0, aq, bq, cq, dq, tz, h1, h2, h3, h4, h5, h6 => by
    rw [show fbq (0 + 2) = 1 from rfl, show fbq (0 + 1) = 1 from rfl] at h6
    exact atl_0 (by omega) h4 (Or.inl (by omega)) (fun _ => by omega) h5
  | nq + 1, aq, bq, cq, dq, tz, h1, h2, h3, h4, h5, h6 => by
    rcases Nat.eq_zero_or_pos bq with hb | hb
    · exact atl_0 (by omega) h4 (Or.inl hb) (fun _ => by omega) h5
    · rcases Nat.eq_zero_or_pos dq with hd | hd
      · exact atl_0 (by omega) h4 (Or.inr hd) (fun _ => by omega) h5
      · have hm := Nat.mod_lt aq hb
        have hm2 := Nat.mod_lt cq hd
        refine atl_1 h1 hb (by omega) h3 hd h4 (fun _ => atl_N nq bq (aq % bq) dq (cq % dq) (!tz) (by omega) hm h4 (by omega) (fun _ => hd) ?_)
        rcases Nat.lt_or_ge bq (fbq (nq + 2)) with g4 | g4
        · exact Or.inl g4
        · right
          have g5 : fbq (nq + 1 + 2) = fbq (nq + 1) + fbq (nq + 2) := rfl
          have g6 : aq < fbq (nq + 1 + 2) := by
            rcases h6 with h6 | h6
            · exact h6
            · rw [show nq + 1 + 1 = nq + 2 from rfl] at h6; omega
          have g7 : aq % bq + bq ≤ aq := by
            have := Nat.div_add_mod aq bq
            have g8 : bq * 1 ≤ bq * (aq / bq) := Nat.mul_le_mul_left bq (Nat.div_pos (by omega) (by omega))
            omega
          omega
theorem atl_100 {aq bq cq dq : Nat} (hA : aq < 2 ^ 63) (hb0 : 0 < bq) (hb : bq < 2 ^ 63) (hC : cq < 2 ^ 63) (hd0 : 0 < dq) (hd : dq < 2 ^ 63) : (atlS 100 (lN aq) (lN bq) (lN cq) (lN dq) false = true) ↔ cq * bq ≤ aq * dq := by
  have hm := Nat.mod_lt aq hb0
  have hm2 := Nat.mod_lt cq hd0
  have := fb_big
  exact atl_1 (nq := 99) hA hb0 hb hC hd0 hd (fun _ => atl_N 99 bq (aq % bq) dq (cq % dq) (!false) hb hm hd (by omega) (fun _ => hd0) (Or.inl (show bq < fbq 101 by omega)))
theorem fr_N {upq lowq : Int64} (h1 : 0 ≤ upq.toInt) (h2 : upq.toInt ≤ 2 ^ 62) (h3 : 0 < lowq.toInt) : ∃ gq aq bq : Nat, 0 < gq ∧ fU upq lowq = lN aq ∧ fL upq lowq = lN bq ∧ upq.toInt = (gq : Int) * (aq : Int) ∧ lowq.toInt = (gq : Int) * (bq : Int) ∧ aq < 2 ^ 63 ∧ 0 < bq ∧ bq < 2 ^ 63 := by
  have hf := fU_e (upq := upq) (lowq := lowq) (by omega) h2 h3
  have hg := gcd_le (aq := upq.toInt.natAbs) (bq := lowq.toInt.toNat) (by omega)
  have hl := lowq.toInt_lt
  have hu := lN_of h1
  have hw := lN_of (vz := lowq) (by omega)
  rw [show upq.toInt.natAbs = upq.toInt.toNat by omega] at hf hg
  obtain ⟨az, ha⟩ := Nat.gcd_dvd_left upq.toInt.toNat lowq.toInt.toNat
  obtain ⟨bz, hb⟩ := Nat.gcd_dvd_right upq.toInt.toNat lowq.toInt.toNat
  generalize Nat.gcd upq.toInt.toNat lowq.toInt.toNat = gq at *
  have hbp : 0 < bz := by
    rcases Nat.eq_zero_or_pos bz with z | z
    · rw [z, Nat.mul_zero] at hb; omega
    · exact z
  have l1 : az ≤ upq.toInt.toNat := by rw [ha]; exact Nat.le_mul_of_pos_left _ hg.1
  have l2 : bz ≤ lowq.toInt.toNat := by rw [hb]; exact Nat.le_mul_of_pos_left _ hg.1
  refine ⟨gq, az, bz, hg.1, ?_, ?_, ?_, ?_, by omega, hbp, by omega⟩
  · rw [hf.1]
    conv => lhs; arg 1; rw [hu]
    rw [pk_lDiv (by omega) hg.1 (by omega), ha, Nat.mul_div_cancel_left _ hg.1]
  · rw [hf.2]
    conv => lhs; arg 1; rw [hw]
    rw [pk_lDiv (by omega) hg.1 (by omega), hb, Nat.mul_div_cancel_left _ hg.1]
  · rw [← Int.natCast_mul, ← ha]; omega
  · rw [← Int.natCast_mul, ← hb]; omega
theorem atl_fr {u1q l1q u2q l2q : Int64} (a1 : 0 ≤ u1q.toInt) (a2 : u1q.toInt ≤ 2 ^ 62) (a3 : 0 < l1q.toInt) (b1 : 0 ≤ u2q.toInt) (b2 : u2q.toInt ≤ 2 ^ 62) (b3 : 0 < l2q.toInt) : (atlS 100 (fU u1q l1q) (fL u1q l1q) (fU u2q l2q) (fL u2q l2q) false = true) ↔ ¬ u1q.toInt * l2q.toInt < u2q.toInt * l1q.toInt := by
  obtain ⟨gq, aq, bq, g0, e1, e2, e3, e4, e5, e6, e7⟩ := fr_N a1 a2 a3
  obtain ⟨kq, cq, dq, k0, f1, f2, f3, f4, f5, f6, f7⟩ := fr_N b1 b2 b3
  rw [e1, e2, f1, f2, atl_100 e5 e6 e7 f5 f6 f7, e3, e4, f3, f4]
  have p1 : (gq : Int) * (aq : Int) * ((kq : Int) * (dq : Int)) = ((gq * kq : Nat) : Int) * ((aq * dq : Nat) : Int) := by rw [Int.natCast_mul, Int.natCast_mul]; grind
  have p2 : (kq : Int) * (cq : Int) * ((gq : Int) * (bq : Int)) = ((gq * kq : Nat) : Int) * ((cq * bq : Nat) : Int) := by rw [Int.natCast_mul, Int.natCast_mul]; grind
  have p3 : 0 < ((gq * kq : Nat) : Int) := by have := Nat.mul_pos g0 k0; omega
  have p4 : ((gq * kq : Nat) : Int) * ((aq * dq : Nat) : Int) < ((gq * kq : Nat) : Int) * ((cq * bq : Nat) : Int) ↔ ((aq * dq : Nat) : Int) < ((cq * bq : Nat) : Int) := Int.mul_lt_mul_left p3
  rw [p1, p2, p4]
  omega
theorem go_e {af bf : Nat → Int32} (ha : BdF af) (hb : BdF bf) : ∀ kq, goN af bf kq = goM af bf kq
  | 0 => rfl
  | kq + 1 => by
    have h0 := go_e ha hb kq
    have t0 := tm_bd ha hb 0
    have tk := tm_bd ha hb kq
    unfold goN goM
    rw [h0, ← (fU_tm af bf kq).1, ← (fU_tm af bf kq).2, ← (fU_tm af bf 0).1, ← (fU_tm af bf 0).2]
    have hq := atl_fr tk.1.1 tk.1.2 tk.2.1 t0.1.1 t0.1.2 t0.2.1
    by_cases h1 : (tmU af bf kq).toInt * (tmD af bf 0).toInt < (tmU af bf 0).toInt * (tmD af bf kq).toInt
    · rw [if_pos h1, if_neg (fun z => hq.mp z h1)]
    · rw [if_neg h1, if_pos (hq.mpr h1)]
/-! what swaps keep -/
def adF (wf : Int32 → Int) (xf : Nat → Int32) : Nat → Int
  | 0 => 0
  | nq + 1 => adF wf xf nq + wf (xf nq)
theorem adF_cong {wf : Int32 → Int} {xf x2 : Nat → Int32} : ∀ {nq : Nat}, (∀ jq, jq < nq → xf jq = x2 jq) → adF wf xf nq = adF wf x2 nq
  | 0, _ => rfl
  | nq + 1, h => by
    unfold adF
    rw [adF_cong (fun jq hj => h jq (by omega)), h nq (by omega)]
theorem adF_upd {wf : Int32 → Int} {xf : Nat → Int32} {iq : Nat} {vz : Int32} : ∀ nq, adF wf (upd xf iq vz) nq = adF wf xf nq + (if iq < nq then wf vz - wf (xf iq) else 0)
  | 0 => by unfold adF; rw [if_neg (by omega)]; rfl
  | nq + 1 => by
    have h0 := adF_upd (wf := wf) (xf := xf) (iq := iq) (vz := vz) nq
    unfold adF
    rw [h0]
    by_cases h : nq = iq
    · subst h; rw [pk_us, if_neg (by omega), if_pos (by omega)]; omega
    · rw [pk_un h]
      by_cases h1 : iq < nq
      · rw [if_pos h1, if_pos (by omega)]; omega
      · rw [if_neg h1, if_neg (by omega)]; omega
theorem adF_swp {wf : Int32 → Int} {xf : Nat → Int32} {iq jq nq : Nat} (hi : iq < nq) (hj : jq < nq) : adF wf (swp xf iq jq) nq = adF wf xf nq := by
  unfold swp
  rw [adF_upd, adF_upd, if_pos hi, if_pos hj]
  have e : upd xf iq (xf jq) jq = xf jq := by
    by_cases h : jq = iq
    · subst h; exact pk_us
    · exact pk_un h
  rw [e]
  omega
theorem sZ_ad (xf : Nat → Int32) : ∀ nq, sZ xf nq = adF Int32.toInt xf nq
  | 0 => rfl
  | nq + 1 => by unfold sZ adF; rw [sZ_ad xf nq]
/-- an order of the numbers of x0 -/
def oIn (nq : Nat) (x0 xf : Nat → Int32) : Prop := (∀ iq, iq < nq → ∃ jq, jq < nq ∧ xf iq = x0 jq) ∧ ∀ wf : Int32 → Int, adF wf xf nq = adF wf x0 nq
theorem oIn_rfl {nq : Nat} {x0 : Nat → Int32} : oIn nq x0 x0 := ⟨fun iq hi => ⟨iq, hi, rfl⟩, fun _ => rfl⟩
theorem oIn_swp {nq iq jq : Nat} {x0 xf : Nat → Int32} (h : oIn nq x0 xf) (hi : iq < nq) (hj : jq < nq) : oIn nq x0 (swp xf iq jq) := by
  refine ⟨fun kq hk => ?_, fun wf => by rw [adF_swp hi hj]; exact h.2 wf⟩
  unfold swp
  by_cases h1 : kq = jq
  · subst h1; rw [pk_us]; exact h.1 iq hi
  · rw [pk_un h1]
    by_cases h2 : kq = iq
    · subst h2; rw [pk_us]; exact h.1 jq hj
    · rw [pk_un h2]; exact h.1 kq hk
theorem oIn_cong {nq : Nat} {x0 xf x2 : Nat → Int32} (h : oIn nq x0 xf) (he : ∀ jq, jq < nq → x2 jq = xf jq) : oIn nq x0 x2 := ⟨fun iq hi => by rw [he iq hi]; exact h.1 iq hi, fun wf => (adF_cong he).trans (h.2 wf)⟩
theorem oIn_sm {nq : Nat} {x0 xf : Nat → Int32} (h : oIn nq x0 xf) (hs : smB nq x0) : smB nq xf := fun iq hi => by
  obtain ⟨jq, hj, e⟩ := h.1 iq hi
  rw [e]
  exact hs jq hj
theorem oIn_s {nq : Nat} {x0 xf : Nat → Int32} (h : oIn nq x0 xf) : sZ x0 nq = sZ xf nq := by rw [sZ_ad, sZ_ad]; exact (h.2 _).symm
theorem oIn_dr {nq : Nat} {x0 : Nat → Int32} : ∀ (kq : Nat) {xf : Nat → Int32} {sdq : Nat}, kq < nq → oIn nq x0 xf → oIn nq x0 (drS kq xf sdq).1
  | 0, _, _, _, h => h
  | kq + 1, xf, sdq, hk, h => by
    unfold drS
    exact oIn_dr kq (by omega) (oIn_swp h hk (by have := Nat.mod_lt (sdq * 16807 % 2147483647) (show 0 < kq + 1 + 1 by omega); omega))
theorem oIn_flat {nq : Nat} {x0 xf : Nat → Int32} (h : oIn nq x0 xf) (hf : ∀ iq jq, iq < nq → jq < nq → x0 iq = x0 jq) : ∀ iq, iq < nq → xf iq = x0 iq := fun iq hi => by
  obtain ⟨jq, hj, e⟩ := h.1 iq hi
  rw [e]
  exact hf jq iq hj hi
/-- as much or more, by the class's weights or by the model's numbers -/
theorem as_much {yrq : Nat → Nat} {nq l1q l2q : Nat} {x0 xf : Nat → Int32} (hs : smB nq x0) (hn : nq ≤ 24) (h : oIn nq x0 xf) (h0 : 0 < nq) : (upF yrq nq x0 l1q ≤ upF yrq nq xf l2q) ↔ wgt yrq nq l1q x0 ≤ wgt yrq nq l2q xf := up_le hs (oIn_sm h hs) (oIn_s h) h0 hn
theorem dn_e {yrq : Nat → Nat} {nq lq : Nat} {x0 : Nat → Int32} (hs : smB nq x0) (hn : nq ≤ 24) : ∀ (kq : Nat) (xf : Nat → Int32) (sdq : Nat), oIn nq x0 xf → dnR yrq nq lq (wgt yrq nq lq x0) kq xf sdq = dmR yrq nq lq (upF yrq nq x0 lq) (decide (loF nq x0 = 0)) kq xf sdq
  | 0, _, _, _ => rfl
  | kq + 1, xf, sdq, h => by
    have h1 : oIn nq x0 (drS (nq - 1) xf sdq).1 := by
      rcases Nat.eq_zero_or_pos nq with z | z
      · rw [drS_0 (nq - 1) xf sdq (by omega)]; exact h
      · exact oIn_dr (nq - 1) (by omega) h
    unfold dnR dmR
    rw [dn_e hs hn kq _ _ h1, show lq + 1 - lq = 0 + 1 by omega]
    generalize (drS (nq - 1) xf sdq).1 = zf at *
    generalize (drS (nq - 1) xf sdq).2 = eq1 at *
    congr 1
    have hr : (rchB yrq nq zf (wgt yrq nq lq x0) lq (0 + 1) = true) ↔ wgt yrq nq lq x0 ≤ wgt yrq nq lq zf := by
      by_cases z : wgt yrq nq lq x0 ≤ wgt yrq nq lq zf
      · exact ⟨fun _ => z, fun _ => rch_y z⟩
      · rw [rch_n z]
        exact ⟨fun q => absurd q (by unfold rchB; decide), fun q => absurd q z⟩
    have key : (wgt yrq nq lq x0 ≤ wgt yrq nq lq zf) ↔ (decide (loF nq x0 = 0) = true ∨ upF yrq nq x0 lq ≤ upF yrq nq zf lq) := by
      by_cases z : loF nq x0 = 0
      · have hf := oIn_flat h1 (lo_0 hs hn z)
        rw [wg_cong hf]
        exact ⟨fun _ => Or.inl (decide_eq_true z), fun _ => by rw [fa_le64]; omega⟩
      · rcases Nat.eq_zero_or_pos nq with q | q
        · subst q
          exact absurd (by show 27720 * ((nI 0).toInt64 * 0 - 0 * 0) = (0 : Int64); decide) z
        · rw [as_much hs hn h1 q, decide_eq_false z]
          exact ⟨fun w => Or.inr w, fun w => w.elim (fun e => absurd e (by decide)) id⟩
    by_cases z : wgt yrq nq lq x0 ≤ wgt yrq nq lq zf
    · rw [if_pos (hr.mpr z), if_pos (key.mp z)]
    · rw [if_neg (fun q => z (hr.mp q)), if_neg (fun q => z (key.mpr q))]
