section RM
variable {X : Cx} {G : Gl} {cc : ByteArray} {nL : Nat} {own : String} {F Lo : Nat} {σ : Sto} {pc : Nat} {lv : List (Nat × Value)} {st : List Value}
theorem r_absl (o : Ok X G cc nL own F Lo) {idx : Nat} (hlk : Cond.methodLink own idx Lib.MathLoose.abs_long.x ∈ TT) (hs : Cond.static Lib.MathLoose.abs_long.x ∈ TT) (hi : Cond.initialized "java/lang/Math" ∈ TT) (hcd : Cond.code Lib.MathLoose.abs_long.x Lib.MathLoose.abs_long.code 2 (some .long) ∈ TT) (hF : 1 ≤ F) (hL : (st.map fun v => v.category).sum + 13 ≤ Lo) {x : Int64} (d : decode cc pc = .ok (.invokestatic idx, 3)) (kk : WS X G nL σ (pc + 3) lv (.long (if 0 < x then x else -x) :: st)) : WS X G nL σ pc lv (.long x :: st) := fun H locs ls hP hS h =>
  va_mabs_long o.1 o.2.1 (by rw [o.2.2.1]; exact h.1.symm) o.2.2.2.1 (o.2.2.2.2.1 _ hlk) (o.2.2.2.2.1 _ hs) (o.2.2.2.2.1 _ hi) (o.2.2.2.2.1 _ hcd) (by rw [o.2.2.2.2.2.2.2.1]; exact hF) (by rw [o.2.2.2.2.2.2.2.2.1]; exact hL) (Nat.zero_le _) (Nat.zero_le _) d (kk H locs ls hP hS h)
end RM
def irm (x y : Int32) : Int32 := x - x / y * y
def lrm (x y : Int64) : Int64 := x - x / y * y
def ushr32 (x y : Int32) : Int32 := (x.toUInt32 >>> (y.toUInt32 &&& Int32.toUInt32 31)).toInt32
theorem nI_eq0 {k : Nat} (h : k < 2 ^ 31) : (nI k = 0) ↔ k = 0 := by rw [← nI_0]; exact nI_eq h (by decide)
theorem nI_lt0 {k : Nat} (h : k < 2 ^ 31) : (nI k < 0) ↔ k < 0 := by rw [← nI_0]; exact nI_ltI h (by decide)
theorem nI_ge0 {k : Nat} (h : k < 2 ^ 31) : (0 ≤ nI k) ↔ 0 ≤ k := by rw [← nI_0]; exact nI_leI (by decide) h
theorem nI_gt0 {k : Nat} (h : k < 2 ^ 31) : (0 < nI k) ↔ 0 < k := by rw [← nI_0]; exact nI_ltI (by decide) h
theorem nI_le0 {k : Nat} (h : k < 2 ^ 31) : (nI k ≤ 0) ↔ k ≤ 0 := by rw [← nI_0]; exact nI_leI h (by decide)
theorem nI_bv (k : Nat) : (nI k).toBitVec = BitVec.ofNat 32 k := rfl
theorem nI_and (a b : Nat) : nI a &&& nI b = nI (a &&& b) := by
  apply Int32.toBitVec_inj.mp
  rw [Int32.toBitVec_and, nI_bv, nI_bv, nI_bv]
  apply BitVec.eq_of_toNat_eq
  rw [BitVec.toNat_and, BitVec.toNat_ofNat, BitVec.toNat_ofNat, BitVec.toNat_ofNat, Nat.and_mod_two_pow]
theorem nI_or (a b : Nat) : nI a ||| nI b = nI (a ||| b) := by
  apply Int32.toBitVec_inj.mp
  rw [Int32.toBitVec_or, nI_bv, nI_bv, nI_bv]
  apply BitVec.eq_of_toNat_eq
  rw [BitVec.toNat_or, BitVec.toNat_ofNat, BitVec.toNat_ofNat, BitVec.toNat_ofNat, Nat.or_mod_two_pow]
theorem nI_sh {b : Nat} (hb : b < 32) : ((nI b &&& 31 : Int32).toBitVec.smod 32).toNat = b := by
  have h : ∀ b : Fin 32, ((nI b.val &&& 31 : Int32).toBitVec.smod 32).toNat = b.val := by decide
  exact h ⟨b, hb⟩
theorem nI_shl {a b : Nat} (hb : b < 32) : nI a <<< (nI b &&& 31) = nI (a * 2 ^ b) := by
  apply Int32.toBitVec_inj.mp
  apply BitVec.eq_of_toNat_eq
  rw [pk_shl _ _ b (nI_sh hb), nI_bv, nI_bv, BitVec.toNat_ofNat, BitVec.toNat_ofNat]
  rw [Nat.mod_mul_mod]
theorem nI_shr {a b : Nat} (ha : a < 2 ^ 31) (hb : b < 32) : nI a >>> (nI b &&& 31) = nI (a / 2 ^ b) := pk_shrN ha _ b (nI_sh hb)
