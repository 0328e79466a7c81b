theorem r_lv {X : Cx} {G : Gl} {nL : Nat} {σ : Sto} {pc : Nat} {lv lv' : List (Nat × Value)} {st : List Value} (h : lv = lv') (k : WS X G nL σ pc lv' st) : WS X G nL σ pc lv st := by rw [h]; exact k
theorem lk_def : ∀ {ps : List (Int × Int)} {d k : Int}, (ps.all fun a => decide (a.1 ≠ k)) = true → Op.lookupswitch.offset ps d k = d
  | [], _, _, _ => rfl
  | (a, o) :: r, d, k, h => by
    simp only [List.all_cons, Bool.and_eq_true, decide_eq_true_eq] at h
    rw [Op.lookupswitch.offset_cons, if_neg h.1]
    exact lk_def h.2
theorem neN {x : Int32} {k : Nat} (h : ¬ x = nI k) (hk : k < 2 ^ 31) : x.toInt ≠ k := fun e => h (by
  apply Int32.toInt_inj.mp
  rw [nI_toInt hk, e])
theorem nI_decm (j : Nat) : nI j + Int32.ofInt (-1) = nI j - 1 := by
  rw [Int32.sub_eq_add_neg]
  rfl
theorem nI_lt1 {k : Nat} (h : k < 2 ^ 31) : (nI k - 1 < 0) ↔ k = 0 := by
  cases k with
  | zero => exact ⟨fun _ => rfl, fun _ => by decide⟩
  | succ j =>
    rw [nI_pred]
    exact ⟨fun q => absurd q (nI_pos (by omega)), fun q => by omega⟩
/-! ints within -/
def inB (lo hi v : Int32) : Bool := decide (lo ≤ v) && decide (v ≤ hi)
def inL (lo hi v : Int64) : Bool := decide (lo ≤ v) && decide (v ≤ hi)
theorem fa_lt (a b : Int32) : a < b ↔ a.toInt < b.toInt := Int32.lt_iff_toInt_lt
theorem fa_le (a b : Int32) : a ≤ b ↔ a.toInt ≤ b.toInt := Int32.le_iff_toInt_le
theorem fa_lt64 (a b : Int64) : a < b ↔ a.toInt < b.toInt := Int64.lt_iff_toInt_lt
theorem fa_le64 (a b : Int64) : a ≤ b ↔ a.toInt ≤ b.toInt := Int64.le_iff_toInt_le
theorem inB_t {lo hi v : Int32} (h1 : ¬ v < lo) (h2 : ¬ hi < v) : inB lo hi v = true := by
  rw [fa_lt] at h1 h2
  unfold inB
  rw [decide_eq_true ((fa_le _ _).mpr (by omega)), decide_eq_true ((fa_le _ _).mpr (by omega))]
  rfl
theorem inB_f1 {lo hi v : Int32} (h1 : v < lo) : inB lo hi v = false := by
  rw [fa_lt] at h1
  unfold inB
  rw [decide_eq_false (fun h => by rw [fa_le] at h; omega)]
  rfl
theorem inB_f2 {lo hi v : Int32} (h1 : hi < v) : inB lo hi v = false := by
  rw [fa_lt] at h1
  unfold inB
  rw [decide_eq_false (p := v ≤ hi) (fun h => by rw [fa_le] at h; omega), Bool.and_false]
theorem inL_t {lo hi v : Int64} (h1 : ¬ v < lo) (h2 : ¬ hi < v) : inL lo hi v = true := by
  rw [fa_lt64] at h1 h2
  unfold inL
  rw [decide_eq_true ((fa_le64 _ _).mpr (by omega)), decide_eq_true ((fa_le64 _ _).mpr (by omega))]
  rfl
theorem inL_f1 {lo hi v : Int64} (h1 : v < lo) : inL lo hi v = false := by
  rw [fa_lt64] at h1
  unfold inL
  rw [decide_eq_false (fun h => by rw [fa_le64] at h; omega)]
  rfl
theorem inL_f2 {lo hi v : Int64} (h1 : hi < v) : inL lo hi v = false := by
  rw [fa_lt64] at h1
  unfold inL
  rw [decide_eq_false (p := v ≤ hi) (fun h => by rw [fa_le64] at h; omega), Bool.and_false]
theorem inL_w (lo hi v : Int32) : inL lo.toInt64 hi.toInt64 v.toInt64 = inB lo hi v := by
  unfold inL inB
  congr 1 <;> rw [decide_eq_decide, fa_le64, fa_le, Int32.toInt_toInt64, Int32.toInt_toInt64]
theorem inB_iff (lo hi v : Int32) : inB lo hi v = true ↔ lo.toInt ≤ v.toInt ∧ v.toInt ≤ hi.toInt := by
  unfold inB
  rw [Bool.and_eq_true, decide_eq_true_eq, decide_eq_true_eq, fa_le, fa_le]
theorem inB_nI {n : Nat} (hn : n < 2 ^ 31) {v : Int32} (h : inB (nI 0) (nI n) v = true) : v = nI v.toNatClampNeg ∧ v.toNatClampNeg ≤ n := by
  rw [inB_iff, nI_toInt hn, nI_toInt (by decide)] at h
  have h0 : ¬ v < 0 := by rw [fa_lt]; show ¬ v.toInt < 0; omega
  obtain ⟨j, hj, rfl⟩ := nI_of h0
  rw [nI_toInt hj] at h
  rw [nI_clamp hj]
  exact ⟨rfl, by omega⟩
theorem inB_N {a b k : Nat} (ha : a < 2 ^ 31) (hb : b < 2 ^ 31) (hk : k < 2 ^ 31) : inB (nI a) (nI b) (nI k) = (decide (a ≤ k) && decide (k ≤ b)) := by
  unfold inB
  congr 1 <;> rw [decide_eq_decide]
  · exact nI_leI ha hk
  · exact nI_leI hk hb
theorem b01_t' {b : Bool} (h : b = true) : nI 1 = b01 b := by rw [h]; rfl
theorem b01_f' {b : Bool} (h : b = false) : nI 0 = b01 b := by rw [h]; rfl
