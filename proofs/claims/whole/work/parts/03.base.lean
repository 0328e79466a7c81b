/-! THE STATIC WORLD: behind the constructors no cell comes and no reference changes: 85 cells, each with its ints and longs -/
abbrev classes : List vw_C := [(RX0, TX0, 4), (RX1, TX1, 6), (RX2, TX2, 2), (RX3, TX3, 3), (RX4, TX4, 3), (RX5, TX5, 2), (RX6, TX6, 2), (RX7, TX7, 3), (RX8, TX8, 3), (RX9, TX9, 11), (RX10, TX10, 25)]
abbrev Cn : Type := (Nat → Int32) × (Nat → Int64)
abbrev Sto : Type := Nat → Cn
abbrev Gl : Type := va_G × (Nat → Nat) × ClassId × ClassId × ClassId × ClassId
abbrev gad (G : Gl) : Nat → Nat := G.2.1
abbrev gI (G : Gl) : ClassId := G.2.2.1
abbrev gJ (G : Gl) : ClassId := G.2.2.2.1
abbrev gR (G : Gl) : ClassId := G.2.2.2.2.1
abbrev gQ (G : Gl) : ClassId := G.2.2.2.2.2
abbrev tysG (G : Gl) : List (ClassId × FieldType) := [(gI G, .int), (gJ G, .long), (gR G, .object "RoundRows$Round"), (gQ G, .array .int)]
def objE (a : Nat → Nat) (c : Nat) (x : Cn) : Nat × List Value := match c with
  | 0 => (9, [.ref (a 12), .ref (a 1), .ref (a 2), .ref (a 3), .ref (a 4), .ref (a 5), .ref (a 6), .ref (a 7), .ref (a 8), .ref (a 9), .ref (a 10)])
  | 1 => (5, [.ref (a 19), .int (x.1 1)])
  | 2 => (0, [.ref (a 20), .ref (a 21), .ref (a 22), .int (x.1 3)])
  | 3 => (0, [.ref (a 23), .ref (a 24), .ref (a 25), .int (x.1 3)])
  | 4 => (8, [.ref (a 31), .int (x.1 1), .int (x.1 2)])
  | 5 => (4, [.ref (a 26), .int (x.1 1), .long (x.2 2)])
  | 6 => (3, [.int (x.1 0), .int (x.1 1), .int (x.1 2)])
  | 7 => (2, [.long (x.2 0), .long (x.2 1)])
  | 8 => (2, [.long (x.2 0), .long (x.2 1)])
  | 9 => (1, [.ref (a 27), .ref (a 28), .ref (a 29), .int (x.1 3), .int (x.1 4), .int (x.1 5)])
  | 10 => (6, [.ref (a 30), .int (x.1 1)])
  | _ => (10, [.ref (a 71), .ref (a 72), .int (x.1 2), .ref (a 73), .ref (a 74), .ref (a 75), .ref (a 76), .int (x.1 7), .ref (a 77), .ref (a 78), .ref (a 79), .ref (a 80), .long (x.2 12), .long (x.2 13), .int (x.1 14), .int (x.1 15), .int (x.1 16), .ref (a 81), .ref (a 82), .ref (a 83), .int (x.1 20), .int (x.1 21), .ref (a 84), .int (x.1 23), .int (x.1 24)])
def lenI (c : Nat) : Nat := match c with
  | 19 => 20
  | 27 => 20
  | 28 => 20
  | 29 => 20
  | 72 => 20
  | 81 => 20
  | 82 => 20
  | 83 => 20
  | 30 => 8
  | 79 => 8
  | 84 => 8
  | 71 => 144
  | 78 => 12
  | _ => 24
def cellE (G : Gl) (c : Nat) (x : Cn) : va_E :=
  if c < 12 then .inr (objE (gad G) c x)
  else if c = 12 then .inl (gQ G, 6, .inr (.inr (.inr (.inr (fun i => if i < 6 then some (gad G (13 + i)) else none)))))
  else if c = 31 then .inl (gR G, 13, .inr (.inr (.inr (.inr (fun i => if i < 13 then some (gad G (32 + i)) else none)))))
  else if 32 ≤ c ∧ c < 45 then .inr (7, [.ref (gad G (c + 13)), .ref (gad G (c + 26)), .int (x.1 2)])
  else if 58 ≤ c ∧ c < 71 then .inl (gJ G, 24, .inr (.inl x.2))
  else if c = 77 then .inl (gJ G, 12, .inr (.inl x.2))
  else .inl (gI G, lenI c, .inl x.1)
def wld (G : Gl) (σ : Sto) : va_W := (List.range 85).map (fun c => (gad G c, cellE G c (σ c)))
def Ad (G : Gl) : Nat → Prop := fun q => ∃ c, c < 85 ∧ q = gad G c
def inj85 (G : Gl) : Prop := ∀ i j, i < 85 → j < 85 → gad G i = gad G j → i = j
def Wd (G : Gl) (σ : Sto) (U : State) : Prop := va_P G.1 classes (wld G σ) U.heap ∧ va_K G.1 classes (tysG G) U ∧ inj85 G
def stc (σ : Sto) (c : Nat) (x : Cn) : Sto := fun j => if j = c then x else σ j
def sti (σ : Sto) (c k : Nat) (v : Int32) : Sto := stc σ c (upd (σ c).1 k v, (σ c).2)
def stl (σ : Sto) (c k : Nat) (v : Int64) : Sto := stc σ c ((σ c).1, vp_updL (σ c).2 k v)
def sta (σ : Sto) (c : Nat) (f : Nat → Int32) : Sto := stc σ c (f, (σ c).2)
def stb (σ : Sto) (c : Nat) (f : Nat → Int64) : Sto := stc σ c ((σ c).1, f)
theorem wld_at {G : Gl} {σ : Sto} {c : Nat} (hc : c < 85) : (wld G σ)[c]? = some (gad G c, cellE G c (σ c)) := by
  unfold wld
  rw [List.getElem?_map, List.getElem?_range hc]
  rfl
theorem wld_len {G : Gl} {σ : Sto} : (wld G σ).length = 85 := by unfold wld; rw [List.length_map, List.length_range]
theorem wld_set {G : Gl} {σ : Sto} {c : Nat} (x : Cn) : (wld G σ).set c (gad G c, cellE G c x) = wld G (stc σ c x) := by
  apply List.ext_getElem?
  intro j
  by_cases hj : j < 85
  · rw [wld_at hj]
    by_cases e : j = c
    · subst e
      rw [List.getElem?_set_self (by rw [wld_len]; exact hj)]
      simp [stc]
    · rw [List.getElem?_set_ne (Ne.symm e), wld_at hj]
      simp [stc, e]
  · rw [List.getElem?_eq_none (by rw [List.length_set, wld_len]; omega), List.getElem?_eq_none (by rw [wld_len]; omega)]
theorem wld_D {G : Gl} (h : inj85 G) (σ : Sto) : va_D (Ad G) (wld G σ) := by
  have key : ∀ (k : Nat) (q : Nat × va_E), (wld G σ)[k]? = some q → k < 85 ∧ q.1 = gad G k := by
    intro k q hq
    have hk : k < 85 := by
      have := (List.getElem?_eq_some_iff.mp hq).1
      rw [wld_len] at this
      exact this
    rw [wld_at hk] at hq
    cases hq
    exact ⟨hk, rfl⟩
  refine ⟨fun i j x y hi hj hxy => ?_, fun k q hq => ?_⟩
  · obtain ⟨a1, a2⟩ := key i x hi
    obtain ⟨b1, b2⟩ := key j y hj
    exact h i j a1 b1 (by rw [← a2, ← b2, hxy])
  · obtain ⟨a1, a2⟩ := key k q hq
    exact ⟨k, a1, a2⟩
/-! the words that stay: all that the tables say of links, codes and fields, also of nest mates -/
def isNest : Cond → Bool
  | .fieldLinkNest _ _ _ _ _ _ => true
  | .methodLinkNest _ _ _ _ => true
  | _ => false
def TT : List Cond := lw_tbl.filter (fun w => goodWord w || isNest w)
theorem mw {w : Cond} (i : Nat) (h : lw_tbl[i]? = some w) (h2 : (goodWord w || isNest w) = true) : w ∈ TT := List.mem_filter.mpr ⟨List.mem_of_getElem? h, h2⟩
theorem TT_in {w : Cond} (h : w ∈ TT) : w ∈ lw_tbl := (List.mem_filter.mp h).1
theorem TT_pay {args : Array Value} {s : State} (hts : ∀ w ∈ TT, w.before args s = true) : ∀ w ∈ TT, ∀ (a' : Array Value) (U : State), s.WarmedH U.vm → w.before a' U = true := by
  intro w hw a' U hW
  have h2 := (List.mem_filter.mp hw).2
  have h1 := hts w hw
  cases hg : goodWord w with
  | true => exact word_at hW (good_of_word hg) h1
  | false =>
    rw [hg] at h2
    cases w <;> first | (exact va_Nw.use rfl (va_Nw.warmF hW (va_Nw.of rfl h1))) | (exact va_Nw.use rfl (va_Nw.warmM hW (va_Nw.of rfl h1))) | (exfalso; simp [isNest] at h2; done)
