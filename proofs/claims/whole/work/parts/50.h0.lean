/-! the model's way through all orders: a machine of digits -/
def encq : List Nat → Nat
  | [] => 0
  | aq :: ls => aq + 8 * encq ls
theorem enc_dig : ∀ (ls : List Nat) (iq : Nat), (∀ aq, aq ∈ ls → aq < 8) → encq ls / 8 ^ iq % 8 = ls.getD iq 0
  | [], iq, _ => by show 0 / 8 ^ iq % 8 = 0; rw [Nat.zero_div]
  | aq :: ls, 0, h => by
    have := h aq List.mem_cons_self
    show (aq + 8 * encq ls) / 1 % 8 = aq
    omega
  | aq :: ls, iq + 1, h => by
    have h1 := h aq List.mem_cons_self
    have ih := enc_dig ls iq (fun bq hb => h bq (List.mem_cons_of_mem _ hb))
    show (aq + 8 * encq ls) / 8 ^ (iq + 1) % 8 = ls.getD iq 0
    rw [Nat.pow_succ', ← Nat.div_div_eq_div_mul, show (aq + 8 * encq ls) / 8 = encq ls by omega, ih]
theorem enc_set : ∀ (ls : List Nat) (iq vq : Nat), iq < ls.length → encq (ls.set iq vq) + ls.getD iq 0 * 8 ^ iq = encq ls + vq * 8 ^ iq
  | [], iq, vq, h => absurd h (Nat.not_lt_zero iq)
  | aq :: ls, 0, vq, _ => by
    show vq + 8 * encq ls + aq * 8 ^ 0 = aq + 8 * encq ls + vq * 8 ^ 0
    omega
  | aq :: ls, iq + 1, vq, h => by
    have ih := enc_set ls iq vq (by simpa using h)
    show aq + 8 * encq (ls.set iq vq) + ls.getD iq 0 * 8 ^ (iq + 1) = aq + 8 * encq ls + vq * 8 ^ (iq + 1)
    rw [Nat.pow_succ, ← Nat.mul_assoc, ← Nat.mul_assoc]
    omega
theorem gd_set (ls : List Nat) (iq jq vq : Nat) (h : iq < ls.length) : (ls.set iq vq).getD jq 0 = if iq = jq then vq else ls.getD jq 0 := by
  rw [List.getD_eq_getElem?_getD, List.getD_eq_getElem?_getD, List.getElem?_set]
  by_cases e : iq = jq
  · subst e; rw [if_pos rfl, if_pos rfl, if_pos h]; rfl
  · rw [if_neg e, if_neg e]
def xaq (kq tq1 : Nat) : Nat := if kq % 2 = 0 then 0 else tq1
def hStp (nq : Nat) (ls : List Nat) : List Nat := if ls.getD 0 0 < nq then (if ls.getD (1 + ls.getD 0 0) 0 < ls.getD 0 0 then (((ls.set (1 + ls.getD 0 0) (ls.getD (1 + ls.getD 0 0) 0 + 1)).set 0 0).set (1 + nq + xaq (ls.getD 0 0) (ls.getD (1 + ls.getD 0 0) 0)) (ls.getD (1 + nq + ls.getD 0 0) 0)).set (1 + nq + ls.getD 0 0) (ls.getD (1 + nq + xaq (ls.getD 0 0) (ls.getD (1 + ls.getD 0 0) 0)) 0) else (ls.set (1 + ls.getD 0 0) 0).set 0 (ls.getD 0 0 + 1)) else ls
def hN2 (nq sq kq tq1 aq : Nat) : Nat := sq + 8 ^ (1 + kq) + sq / 8 ^ (1 + nq + kq) % 8 * 8 ^ (1 + nq + aq) + sq / 8 ^ (1 + nq + aq) % 8 * 8 ^ (1 + nq + kq) - (kq + sq / 8 ^ (1 + nq + aq) % 8 * 8 ^ (1 + nq + aq) + sq / 8 ^ (1 + nq + kq) % 8 * 8 ^ (1 + nq + kq))
def hN1 (nq sq kq tq1 : Nat) : Nat := if tq1 < kq then hN2 nq sq kq tq1 (xaq kq tq1) else sq + 1 - tq1 * 8 ^ (1 + kq)
def hN (nq sq : Nat) : Nat := if sq % 8 < nq then hN1 nq sq (sq % 8) (sq / 8 ^ (1 + sq % 8) % 8) else sq
def hOk (nq : Nat) (ls : List Nat) : Prop := ls.length = 2 * nq + 1 ∧ ∀ aq, aq ∈ ls → aq < 8
theorem gd_lt {ls : List Nat} (h : ∀ aq, aq ∈ ls → aq < 8) (iq : Nat) : ls.getD iq 0 < 8 := by
  rw [List.getD_eq_getElem?_getD]
  rcases Nat.lt_or_ge iq ls.length with q | q
  · rw [List.getElem?_eq_getElem q]; exact h _ (List.getElem_mem _)
  · rw [List.getElem?_eq_none q]; decide
theorem mem_set8 {ls : List Nat} {iq vq : Nat} (h : ∀ aq, aq ∈ ls → aq < 8) (hv : vq < 8) : ∀ aq, aq ∈ ls.set iq vq → aq < 8 := fun aq ha => by
  rcases List.mem_or_eq_of_mem_set ha with q | q
  · exact h aq q
  · rw [q]; exact hv
theorem xa_lt {kq tq1 : Nat} (h : tq1 < kq) : xaq kq tq1 < kq := by unfold xaq; split <;> omega
theorem hOk_s {nq : Nat} {ls : List Nat} (hn : nq ≤ 7) (h : hOk nq ls) : hOk nq (hStp nq ls) := by
  have g := gd_lt h.2
  unfold hStp
  split
  · split
    · refine ⟨by simp only [List.length_set]; exact h.1, mem_set8 (mem_set8 (mem_set8 (mem_set8 h.2 (by have := g 0; omega)) (by decide)) (g _)) (g _)⟩
    · exact ⟨by simp only [List.length_set]; exact h.1, mem_set8 (mem_set8 h.2 (by decide)) (by omega)⟩
  · exact h
theorem enc_stp {nq : Nat} {ls : List Nat} (hn : nq ≤ 7) (h : hOk nq ls) : encq (hStp nq ls) = hN nq (encq ls) := by
  have hl := h.1
  have e0 : encq ls % 8 = ls.getD 0 0 := by have := enc_dig ls 0 h.2; rwa [Nat.pow_zero, Nat.div_one] at this
  have ed := fun iq => enc_dig ls iq h.2
  unfold hN
  rw [e0, ed (1 + ls.getD 0 0)]
  unfold hStp
  generalize hk : ls.getD 0 0 = kq
  by_cases h1 : kq < nq
  · rw [if_pos h1, if_pos h1]
    unfold hN1
    generalize ht : ls.getD (1 + kq) 0 = tq1
    by_cases h2 : tq1 < kq
    · rw [if_pos h2, if_pos h2]
      have ha := xa_lt h2
      generalize xaq kq tq1 = aq at *
      unfold hN2
      rw [ed (1 + nq + kq), ed (1 + nq + aq)]
      have s1 := enc_set ls (1 + kq) (tq1 + 1) (by omega)
      have s2 := enc_set (ls.set (1 + kq) (tq1 + 1)) 0 0 (by rw [List.length_set]; omega)
      have s3 := enc_set ((ls.set (1 + kq) (tq1 + 1)).set 0 0) (1 + nq + aq) (ls.getD (1 + nq + kq) 0) (by rw [List.length_set, List.length_set]; omega)
      have s4 := enc_set (((ls.set (1 + kq) (tq1 + 1)).set 0 0).set (1 + nq + aq) (ls.getD (1 + nq + kq) 0)) (1 + nq + kq) (ls.getD (1 + nq + aq) 0) (by rw [List.length_set, List.length_set, List.length_set]; omega)
      rw [gd_set _ _ _ _ (by rw [List.length_set, List.length_set]; omega), if_neg (by omega), gd_set _ _ _ _ (by rw [List.length_set]; omega), if_neg (by omega), gd_set _ _ _ _ (by omega), if_neg (by omega)] at s4
      rw [gd_set _ _ _ _ (by rw [List.length_set]; omega), if_neg (by omega), gd_set _ _ _ _ (by omega), if_neg (by omega)] at s3
      rw [gd_set _ _ _ _ (by omega), if_neg (by omega), hk, Nat.pow_zero, Nat.mul_one] at s2
      rw [ht, Nat.add_mul, Nat.one_mul] at s1
      omega
    · rw [if_neg h2, if_neg h2]
      have s1 := enc_set ls (1 + kq) 0 (by omega)
      have s2 := enc_set (ls.set (1 + kq) 0) 0 (kq + 1) (by rw [List.length_set]; omega)
      rw [gd_set _ _ _ _ (by omega), if_neg (by omega), hk, Nat.pow_zero, Nat.mul_one, Nat.mul_one] at s2
      rw [ht, Nat.zero_mul] at s1
      omega
  · rw [if_neg h1, if_neg h1]
def hS0 (nq : Nat) : List Nat := 0 :: (List.replicate nq 0 ++ List.range nq)
def itL (nq : Nat) : Nat → List Nat
  | 0 => hS0 nq
  | jq + 1 => hStp nq (itL nq jq)
theorem hOk_it {nq : Nat} (hn : nq ≤ 7) : ∀ jq, hOk nq (itL nq jq)
  | 0 => by
    refine ⟨?_, fun aq ha => ?_⟩
    · show (0 :: (List.replicate nq 0 ++ List.range nq)).length = _
      rw [List.length_cons, List.length_append, List.length_replicate, List.length_range]
      omega
    · have ha2 : aq ∈ 0 :: (List.replicate nq 0 ++ List.range nq) := ha
      rw [List.mem_cons, List.mem_append, List.mem_replicate, List.mem_range] at ha2
      omega
  | jq + 1 => hOk_s hn (hOk_it hn jq)
def exq (nq : Nat) (sq : Nat) : Bool := Nat.blt (sq % 8) nq && Nat.blt (sq / 8 ^ (1 + sq % 8) % 8) (sq % 8)
def visM (nq : Nat) : Nat → List Nat
  | 0 => [encq (itL nq 0) / 8 ^ (1 + nq)]
  | jq + 1 => if exq nq (encq (itL nq jq)) = true then encq (itL nq (jq + 1)) / 8 ^ (1 + nq) :: visM nq jq else visM nq jq
/-! run by the kernel: every number is made plain before the next step -/
def rnF (nq : Nat) : Nat → Nat → Nat
  | 0, sq => sq
  | fuq + 1, 0 => rnF nq fuq (hN nq 0)
  | fuq + 1, sq + 1 => rnF nq fuq (hN nq (sq + 1))
theorem rnF_s (nq fuq sq : Nat) : rnF nq (fuq + 1) sq = rnF nq fuq (hN nq sq) := by cases sq <;> rfl
def psh (pq1 : Nat) (ls : List Nat) : List Nat := pq1 :: ls
def vsF (nq : Nat) : Nat → Nat → List Nat → List Nat
  | 0, _, ls => ls
  | fuq + 1, 0, ls => vsF nq fuq (hN nq 0) (if exq nq 0 = true then hN nq 0 / 8 ^ (1 + nq) :: ls else ls)
  | fuq + 1, sq + 1, ls => match exq nq (sq + 1) with
    | false => vsF nq fuq (hN nq (sq + 1)) ls
    | true => match hN nq (sq + 1) / 8 ^ (1 + nq) with
      | 0 => vsF nq fuq (hN nq (sq + 1)) (0 :: ls)
      | pq1 + 1 => vsF nq fuq (hN nq (sq + 1)) ((pq1 + 1) :: ls)
theorem vsF_s (nq fuq sq : Nat) (ls : List Nat) : vsF nq (fuq + 1) sq ls = vsF nq fuq (hN nq sq) (if exq nq sq = true then hN nq sq / 8 ^ (1 + nq) :: ls else ls) := by
  cases sq with
  | zero => rfl
  | succ sq =>
    show (match exq nq (sq + 1) with
      | false => vsF nq fuq (hN nq (sq + 1)) ls
      | true => match hN nq (sq + 1) / 8 ^ (1 + nq) with
        | 0 => vsF nq fuq (hN nq (sq + 1)) (0 :: ls)
        | pq1 + 1 => vsF nq fuq (hN nq (sq + 1)) ((pq1 + 1) :: ls)) = _
    cases exq nq (sq + 1) with
    | false => rfl
    | true =>
      rw [if_pos rfl]
      cases hN nq (sq + 1) / 8 ^ (1 + nq) <;> rfl
def rap : List Nat → List Nat → List Nat
  | [], ls => ls
  | xq :: as, ls => rap as (xq :: ls)
def prt (dq : Nat) : List Nat → List Nat → List Nat → List Nat → List Nat → List Nat → List Nat → List Nat → List Nat
  | [], a0, a1, a2, a3, a4, a5, a6 => rap a0 (rap a1 (rap a2 (rap a3 (rap a4 (rap a5 (rap a6 []))))))
  | xq :: ls, a0, a1, a2, a3, a4, a5, a6 => match xq / 8 ^ dq % 8 with
    | 0 => prt dq ls (xq :: a0) a1 a2 a3 a4 a5 a6
    | 1 => prt dq ls a0 (xq :: a1) a2 a3 a4 a5 a6
    | 2 => prt dq ls a0 a1 (xq :: a2) a3 a4 a5 a6
    | 3 => prt dq ls a0 a1 a2 (xq :: a3) a4 a5 a6
    | 4 => prt dq ls a0 a1 a2 a3 (xq :: a4) a5 a6
    | 5 => prt dq ls a0 a1 a2 a3 a4 (xq :: a5) a6
    | _ => prt dq ls a0 a1 a2 a3 a4 a5 (xq :: a6)
def srtq : Nat → List Nat → List Nat
  | 0, ls => ls
  | dq + 1, ls => prt dq (srtq dq ls) [] [] [] [] [] [] []
def frc : List Nat → List Nat → List Nat
  | [], as => as
  | 0 :: ls, as => frc ls (0 :: as)
  | (xq + 1) :: ls, as => frc ls ((xq + 1) :: as)
def leqL : List Nat → List Nat → Bool
  | [], [] => true
  | aq :: as, bq :: bs => match Nat.beq aq bq with
    | true => leqL as bs
    | false => false
  | _, _ => false
theorem rap_c (pb : Nat → Bool) : ∀ as ls : List Nat, (rap as ls).countP pb = as.countP pb + ls.countP pb
  | [], ls => by show ls.countP pb = _; simp
  | xq :: as, ls => by
    show (rap as (xq :: ls)).countP pb = _
    rw [rap_c pb as (xq :: ls), List.countP_cons, List.countP_cons]
    omega
theorem prt_c (pb : Nat → Bool) (dq : Nat) : ∀ ls a0 a1 a2 a3 a4 a5 a6 : List Nat, (prt dq ls a0 a1 a2 a3 a4 a5 a6).countP pb = ls.countP pb + (a0.countP pb + a1.countP pb + a2.countP pb + a3.countP pb + a4.countP pb + a5.countP pb + a6.countP pb)
  | [], a0, a1, a2, a3, a4, a5, a6 => by
    show (rap a0 (rap a1 (rap a2 (rap a3 (rap a4 (rap a5 (rap a6 []))))))).countP pb = _
    simp only [rap_c, List.countP_nil]
    omega
  | xq :: ls, a0, a1, a2, a3, a4, a5, a6 => by
    unfold prt
    rw [List.countP_cons]
    split <;> (rw [prt_c pb dq ls, List.countP_cons]; omega)
theorem srt_c (pb : Nat → Bool) : ∀ (dq : Nat) (ls : List Nat), (srtq dq ls).countP pb = ls.countP pb
  | 0, _ => rfl
  | dq + 1, ls => by
    show (prt dq (srtq dq ls) [] [] [] [] [] [] []).countP pb = _
    rw [prt_c, srt_c pb dq ls]
    simp
theorem frc_c (pb : Nat → Bool) : ∀ ls as : List Nat, (frc ls as).countP pb = ls.countP pb + as.countP pb
  | [], as => by show as.countP pb = _; simp
  | 0 :: ls, as => by
    show (frc ls (0 :: as)).countP pb = _
    rw [frc_c pb ls, List.countP_cons, List.countP_cons]; omega
  | (xq + 1) :: ls, as => by
    show (frc ls ((xq + 1) :: as)).countP pb = _
    rw [frc_c pb ls, List.countP_cons, List.countP_cons]; omega
theorem leq_e : ∀ as bs : List Nat, leqL as bs = true → as = bs
  | [], [], _ => rfl
  | [], _ :: _, h => by cases h
  | _ :: _, [], h => by cases h
  | aq :: as, bq :: bs, h => by
    unfold leqL at h
    cases e : Nat.beq aq bq with
    | true => rw [e] at h; rw [Nat.eq_of_beq_eq_true e, leq_e as bs h]
    | false => rw [e] at h; cases h
def tmq : Nat → Nat
  | 1 => 1
  | 2 => 4
  | 3 => 15
  | 4 => 64
  | 5 => 325
  | 6 => 1956
  | 7 => 13699
  | _ => 0
def chkV (nq : Nat) : Bool := leqL (srtq nq (vsF nq (tmq nq) (encq (hS0 nq)) [encq (hS0 nq) / 8 ^ (1 + nq)])) (srtq nq (frc ((prm (List.range nq)).map encq) []))
def chkT (nq : Nat) : Bool := Nat.beq (rnF nq (tmq nq) (encq (hS0 nq)) % 8) nq && Nat.blt (rnF nq (tmq nq - 1) (encq (hS0 nq)) % 8) nq
theorem ck_1 : chkV 1 = true ∧ chkT 1 = true := by decide +kernel
theorem ck_2 : chkV 2 = true ∧ chkT 2 = true := by decide +kernel
theorem ck_3 : chkV 3 = true ∧ chkT 3 = true := by decide +kernel
theorem ck_4 : chkV 4 = true ∧ chkT 4 = true := by decide +kernel
theorem ck_5 : chkV 5 = true ∧ chkT 5 = true := by decide +kernel
