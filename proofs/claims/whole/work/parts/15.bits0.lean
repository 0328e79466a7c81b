/-! bits -/
def popN : Nat → Nat → Nat
  | 0, _ => 0
  | wq + 1, kq => kq % 2 + popN wq (kq / 2)
def popc (kq : Nat) : Nat := popN 20 kq
def ndiff (aq tq2 : Nat) : Nat := aq ^^^ (aq &&& tq2)
def bc1 (kq : Nat) : Nat := kq - (kq / 2 ^ 1 &&& 1431655765)
def bc2 (kq : Nat) : Nat := (bc1 kq &&& 858993459) + (bc1 kq / 2 ^ 2 &&& 858993459)
def bc3 (kq : Nat) : Nat := bc2 kq + bc2 kq / 2 ^ 4 &&& 252645135
def bc4 (kq : Nat) : Nat := bc3 kq + bc3 kq / 2 ^ 8
def bc5 (kq : Nat) : Nat := bc4 kq + bc4 kq / 2 ^ 16
theorem and_split (xq mq : Nat) : xq &&& mq = (xq % 256 &&& mq % 256) + 256 * (xq / 256 &&& mq / 256) := by
  have h1 := Nat.and_mod_two_pow (a := xq) (b := mq) (n := 8)
  have h2 := Nat.and_div_two_pow (a := xq) (b := mq) (n := 8)
  have e : (2 : Nat) ^ 8 = 256 := by decide
  rw [e] at h1 h2
  rw [← h1, ← h2]
  omega
def pb (bq : Nat) : Nat := popN 8 bq
def s1 (bq : Nat) : Nat := bq - (bq / 2 &&& 85)
def s2 (bq : Nat) : Nat := (s1 bq &&& 51) + (s1 bq / 4 &&& 51)
theorem tb1 : ∀ bq, bq < 256 → ∀ cq, cq < 2 → (bq / 2 + 128 * cq) &&& 85 = bq / 2 &&& 85 := by decide +kernel
theorem tb2 : ∀ bq, bq < 256 → (bq / 2 &&& 85) ≤ bq ∧ s1 bq < 256 := by decide +kernel
theorem tb3 : ∀ bq, bq < 256 → ∀ cq, cq < 4 → (bq / 4 + 64 * cq) &&& 51 = bq / 4 &&& 51 := by decide +kernel
theorem tb4 : ∀ bq, bq < 256 → s2 bq ≤ 68 ∧ s2 bq % 16 ≤ 4 := by decide +kernel
theorem tb5 : ∀ bq, bq < 256 → ∀ cq, cq < 5 → (s2 bq + s2 bq / 16 + 16 * cq) &&& 15 = pb bq := by decide +kernel
theorem tb6 : ∀ bq, bq < 256 → pb bq ≤ 8 := by decide +kernel
theorem and3 (b0 b1 b2 m0 m1 m2 m3 : Nat) (h0 : b0 < 256) (h1 : b1 < 256) (h2 : b2 < 256) (g0 : m0 < 256) (g1 : m1 < 256) (g2 : m2 < 256) : (b0 + 256 * (b1 + 256 * b2)) &&& (m0 + 256 * (m1 + 256 * (m2 + 256 * m3))) = (b0 &&& m0) + 256 * ((b1 &&& m1) + 256 * (b2 &&& m2)) := by
  rw [and_split, show (b0 + 256 * (b1 + 256 * b2)) % 256 = b0 by omega, show (b0 + 256 * (b1 + 256 * b2)) / 256 = b1 + 256 * b2 by omega, show (m0 + 256 * (m1 + 256 * (m2 + 256 * m3))) % 256 = m0 by omega, show (m0 + 256 * (m1 + 256 * (m2 + 256 * m3))) / 256 = m1 + 256 * (m2 + 256 * m3) by omega]
  congr 2
  rw [and_split, show (b1 + 256 * b2) % 256 = b1 by omega, show (b1 + 256 * b2) / 256 = b2 by omega, show (m1 + 256 * (m2 + 256 * m3)) % 256 = m1 by omega, show (m1 + 256 * (m2 + 256 * m3)) / 256 = m2 + 256 * m3 by omega]
  congr 2
  rw [and_split, show b2 % 256 = b2 by omega, show b2 / 256 = 0 by omega, show (m2 + 256 * m3) % 256 = m2 by omega, Nat.zero_and]
  rfl
theorem bc1_b (b0 b1 b2 : Nat) (h0 : b0 < 256) (h1 : b1 < 256) (h2 : b2 < 16) : bc1 (b0 + 256 * (b1 + 256 * b2)) = s1 b0 + 256 * (s1 b1 + 256 * s1 b2) := by
  unfold bc1
  have e : (b0 + 256 * (b1 + 256 * b2)) / 2 ^ 1 = (b0 / 2 + 128 * (b1 % 2)) + 256 * ((b1 / 2 + 128 * (b2 % 2)) + 256 * (b2 / 2)) := by omega
  have em : (1431655765 : Nat) = 85 + 256 * (85 + 256 * (85 + 256 * 85)) := by decide
  rw [e, em, and3 _ _ _ 85 85 85 85 (by omega) (by omega) (by omega) (by decide) (by decide) (by decide), tb1 b0 h0 _ (by omega), tb1 b1 h1 _ (by omega)]
  have := (tb2 b0 h0).1
  have := (tb2 b1 h1).1
  have := (tb2 b2 (by omega)).1
  unfold s1
  omega
theorem bc2_b (b0 b1 b2 : Nat) (h0 : b0 < 256) (h1 : b1 < 256) (h2 : b2 < 16) : bc2 (b0 + 256 * (b1 + 256 * b2)) = s2 b0 + 256 * (s2 b1 + 256 * s2 b2) := by
  unfold bc2
  rw [bc1_b b0 b1 b2 h0 h1 h2]
  have k0 := (tb2 b0 h0).2
  have k1 := (tb2 b1 h1).2
  have k2 := (tb2 b2 (by omega)).2
  unfold s2
  generalize s1 b0 = c0 at *
  generalize s1 b1 = c1 at *
  generalize s1 b2 = c2 at *
  have e : (c0 + 256 * (c1 + 256 * c2)) / 2 ^ 2 = (c0 / 4 + 64 * (c1 % 4)) + 256 * ((c1 / 4 + 64 * (c2 % 4)) + 256 * (c2 / 4)) := by omega
  have em : (858993459 : Nat) = 51 + 256 * (51 + 256 * (51 + 256 * 51)) := by decide
  rw [e, em, and3 _ _ _ 51 51 51 51 (by omega) (by omega) (by omega) (by decide) (by decide) (by decide), and3 _ _ _ 51 51 51 51 (by omega) (by omega) (by omega) (by decide) (by decide) (by decide), tb3 c0 k0 _ (by omega), tb3 c1 k1 _ (by omega)]
  omega
theorem bc3_b (b0 b1 b2 : Nat) (h0 : b0 < 256) (h1 : b1 < 256) (h2 : b2 < 16) : bc3 (b0 + 256 * (b1 + 256 * b2)) = pb b0 + 256 * (pb b1 + 256 * pb b2) := by
  unfold bc3
  rw [bc2_b b0 b1 b2 h0 h1 h2]
  have k0 := tb4 b0 h0
  have k1 := tb4 b1 h1
  have k2 := tb4 b2 (by omega)
  have e0 := tb5 b0 h0 (s2 b1 % 16) (by omega)
  have e1 := tb5 b1 h1 (s2 b2 % 16) (by omega)
  have e2 := tb5 b2 (by omega) 0 (by omega)
  have e : (s2 b0 + 256 * (s2 b1 + 256 * s2 b2)) + (s2 b0 + 256 * (s2 b1 + 256 * s2 b2)) / 2 ^ 4 = (s2 b0 + s2 b0 / 16 + 16 * (s2 b1 % 16)) + 256 * ((s2 b1 + s2 b1 / 16 + 16 * (s2 b2 % 16)) + 256 * (s2 b2 + s2 b2 / 16 + 16 * 0)) := by omega
  have em : (252645135 : Nat) = 15 + 256 * (15 + 256 * (15 + 256 * 15)) := by decide
  rw [e, em, and3 _ _ _ 15 15 15 15 (by omega) (by omega) (by omega) (by decide) (by decide) (by decide), e0, e1, e2]
theorem popN_split : ∀ (wq vq2 kq : Nat), popN (wq + vq2) kq = popN wq (kq % 2 ^ wq) + popN vq2 (kq / 2 ^ wq)
  | 0, vq2, kq => by rw [Nat.zero_add, Nat.pow_zero, Nat.div_one]; exact (Nat.zero_add _).symm
  | wq + 1, vq2, kq => by
    rw [show wq + 1 + vq2 = (wq + vq2) + 1 by omega]
    show kq % 2 + popN (wq + vq2) (kq / 2) = (kq % 2 ^ (wq + 1)) % 2 + popN wq (kq % 2 ^ (wq + 1) / 2) + popN vq2 (kq / 2 ^ (wq + 1))
    have e1 : kq % 2 ^ (wq + 1) % 2 = kq % 2 := Nat.mod_mod_of_dvd _ ⟨2 ^ wq, by rw [Nat.pow_succ']⟩
    have e2 : kq % 2 ^ (wq + 1) / 2 = kq / 2 % 2 ^ wq := by rw [Nat.pow_succ']; exact Nat.mod_mul_right_div_self ..
    have e3 : kq / 2 / 2 ^ wq = kq / 2 ^ (wq + 1) := by rw [Nat.div_div_eq_div_mul, ← Nat.pow_succ']
    rw [e1, e2, popN_split wq vq2 (kq / 2), e3, Nat.add_assoc]
theorem tb7 : ∀ bq, bq < 16 → pb bq = popN 4 bq := by decide +kernel
theorem bitc {kq : Nat} (h : kq < 2 ^ 20) : bc5 kq &&& 63 = popc kq := by
  have hk : kq = kq % 256 + 256 * (kq / 256 % 256 + 256 * (kq / 65536)) := by omega
  have h2 : kq / 65536 < 16 := by omega
  have e3 := bc3_b (kq % 256) (kq / 256 % 256) (kq / 65536) (by omega) (by omega) h2
  rw [← hk] at e3
  have q0 := tb6 (kq % 256) (by omega)
  have q1 := tb6 (kq / 256 % 256) (by omega)
  have q2 := tb6 (kq / 65536) (by omega)
  have e4 : bc5 kq = (pb (kq % 256) + pb (kq / 256 % 256) + pb (kq / 65536)) + 256 * (pb (kq / 256 % 256) + pb (kq / 65536) + 256 * pb (kq / 65536)) := by
    unfold bc5 bc4
    rw [e3]
    omega
  have e5 : popc kq = pb (kq % 256) + pb (kq / 256 % 256) + pb (kq / 65536) := by
    unfold popc
    rw [show (20 : Nat) = 8 + (8 + 4) by decide, popN_split 8, popN_split 8 4, tb7 _ h2]
    show popN 8 (kq % 256) + (popN 8 (kq / 256 % 256) + popN 4 (kq / 256 / 256)) = popN 8 _ + popN 8 _ + _
    rw [Nat.div_div_eq_div_mul, show (256 * 256 : Nat) = 65536 from rfl]
    exact (Nat.add_assoc _ _ _).symm
  rw [show (63 : Nat) = 2 ^ 6 - 1 by decide, Nat.and_two_pow_sub_one_eq_mod, e4, e5]
  omega
theorem popN_le : ∀ (wq kq : Nat), popN wq kq ≤ wq
  | 0, _ => Nat.le_refl 0
  | wq + 1, kq => by
    have := popN_le wq (kq / 2)
    show kq % 2 + popN wq (kq / 2) ≤ wq + 1
    omega
theorem popc_le (kq : Nat) : popc kq ≤ 20 := popN_le 20 kq
theorem nI_ushr {aq sq : Nat} (ha : aq < 2 ^ 32) (hs : sq < 32) : ushr32 (nI aq) (nI sq) = nI (aq / 2 ^ sq) := by
  have h : ∀ bq : Fin 32, (((nI bq.val).toUInt32 &&& Int32.toUInt32 31).toBitVec % 32).toNat = bq.val := by decide
  exact pk_ushrN ha _ sq (h ⟨sq, hs⟩)
theorem ndiff_lt {aq tq2 nq : Nat} (h : aq < 2 ^ nq) : ndiff aq tq2 < 2 ^ nq := Nat.xor_lt_two_pow h (Nat.lt_of_le_of_lt Nat.and_le_left h)
theorem nI_ndiff {aq tq2 : Nat} : nI aq &&& (nI tq2 ^^^ (-1)) = nI (ndiff aq tq2) := by
  apply Int32.toBitVec_inj.mp
  unfold ndiff
  have e1 : (nI (aq ^^^ (aq &&& tq2))).toBitVec = BitVec.ofNat 32 aq ^^^ (BitVec.ofNat 32 aq &&& BitVec.ofNat 32 tq2) := by
    apply BitVec.eq_of_toNat_eq
    rw [nI_bv, BitVec.toNat_xor, BitVec.toNat_and, BitVec.toNat_ofNat, BitVec.toNat_ofNat, BitVec.toNat_ofNat, ← Nat.and_mod_two_pow, ← Nat.xor_mod_two_pow]
  rw [e1, Int32.toBitVec_and, Int32.toBitVec_xor, nI_bv, nI_bv]
  generalize BitVec.ofNat 32 aq = xq
  generalize BitVec.ofNat 32 tq2 = yq
  have e2 : (-1 : Int32).toBitVec = BitVec.allOnes 32 := by decide
  rw [e2]
  apply BitVec.eq_of_getLsbD_eq
  intro iq hi
  simp only [BitVec.getLsbD_and, BitVec.getLsbD_xor, BitVec.getLsbD_allOnes, hi, decide_true]
  cases xq.getLsbD iq <;> cases yq.getLsbD iq <;> rfl
