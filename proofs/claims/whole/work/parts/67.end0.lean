/-! from the constructors' world to the static one -/
theorem n_astore {X : Cx} {G : Gl} {A : Nat → Prop} {cc : ByteArray} {nL nc ns : Nat} {own : String} {F Lo mc ms : Nat} {ws : va_W} {pc : Nat} {lv : List (Nat × Value)} {st : List Value} (o : OkN X G A cc nL own F Lo mc ms) {k : Fin 4} {x : Nat} {lv' : List (Nat × Value)} (d : decode cc pc = .ok (.astore_n k, 1)) (hn : (k : Nat) < nL) (hl : ((k : Nat), Value.ref x) :: lv.filter (fun q => !(q.1 == (k : Nat)) && !(q.1 + 1 == (k : Nat) && q.2.category == 2)) = lv') (kk : WN X G A nL nc ns ws (pc + 1) lv' st) : WN X G A nL nc ns ws pc lv (.ref x :: st) := fun H locs ls hP hD hS h => lv_astore_n o.1 o.2.1 d rfl h hn hl (fun ls' h' => kk H locs ls' hP hD hS h')
theorem refs_ext {cA : ClassId} {nq : Nat} {fq gq : Nat → Option Nat} (h : ∀ jq, jq < nq → fq jq = gq jq) : vp_cell cA (nq, .inr (.inr (.inr (.inr fq)))) = vp_cell cA (nq, .inr (.inr (.inr (.inr gq)))) := by
  rw [vp_cell_q, vp_cell_q]
  unfold arrV
  congr 1
  apply Array.ext
  · rw [Array.size_ofFn, Array.size_ofFn]
  · intro iq h1 h2
    rw [Array.getElem_ofFn, Array.getElem_ofFn]
    rw [Array.size_ofFn] at h1
    exact congrArg va_rf (h iq h1)
theorem n_refs {X : Cx} {G : Gl} {A : Nat → Prop} {nL nc ns : Nat} {ws : va_W} {pc : Nat} {lv : List (Nat × Value)} {st : List Value} (q0 : Nat) {aq nq : Nat} {cA : ClassId} {fq gq : Nat → Option Nat} (ha : ws[q0]? = some (aq, .inl (cA, nq, .inr (.inr (.inr (.inr fq)))))) (hfg : ∀ jq, jq < nq → fq jq = gq jq) (kk : WN X G A nL nc ns (ws.set q0 (aq, .inl (cA, nq, .inr (.inr (.inr (.inr gq)))))) pc lv st) : WN X G A nL nc ns ws pc lv st := fun H locs ls hP hD hS h => by
  have hlen : q0 < ws.length := (List.getElem?_eq_some_iff.mp ha).1
  have key : ∀ (k : Nat) (x : Nat × va_E), (ws.set q0 (aq, .inl (cA, nq, .inr (.inr (.inr (.inr gq))))))[k]? = some x → ∃ y, ws[k]? = some y ∧ y.1 = x.1 ∧ (k ≠ q0 → y = x) ∧ (k = q0 → x = (aq, .inl (cA, nq, .inr (.inr (.inr (.inr gq)))))) := fun k x hx => by
    by_cases e : k = q0
    · subst e
      rw [List.getElem?_set_self hlen] at hx
      cases hx
      exact ⟨_, ha, rfl, fun z => absurd rfl z, fun _ => rfl⟩
    · rw [List.getElem?_set_ne (Ne.symm e)] at hx
      exact ⟨x, hx, rfl, fun _ => rfl, fun z => absurd z e⟩
  refine kk H locs ls (fun k x hx => ?_) ⟨fun i j x y hi hj he => ?_, fun k x hx => ?_⟩ hS h
  · obtain ⟨y, h1, h2, h3, h4⟩ := key k x hx
    by_cases e : k = q0
    · rw [h4 e]
      have h5 := hP q0 _ ha
      show H[aq]? = some (vp_cell _ (nq, .inr (.inr (.inr (.inr gq)))))
      rw [← refs_ext hfg]
      exact h5
    · rw [← h3 e]
      exact hP k y h1
  · obtain ⟨x', h1, h2, -, -⟩ := key i x hi
    obtain ⟨y', h3, h4, -, -⟩ := key j y hj
    exact hD.1 i j x' y' h1 h3 (by rw [h2, h4, he])
  · obtain ⟨x', h1, h2, -, -⟩ := key k x hx
    rw [← h2]
    exact hD.2 k x' h1
/-- the store behind the constructors -/
def st0 : Sto := fun c => if c = 4 then (fun _ => nI 2, fun _ => 0) else if c = 5 then (fun _ => nI 0, fun _ => 1) else if c = 6 then (fun k => if k = 0 then nI 2 else nI 0, fun _ => 0) else if c = 7 ∨ c = 8 then (fun _ => 0, fun k => if k = 0 then 0 else 1) else if c = 10 then (fun _ => nI 50, fun _ => 0) else if c = 11 then (fun k => if k = 23 then nI 50 else 0, fun _ => 0) else if (13 ≤ c ∧ c < 19) ∨ c = 71 then (fun _ => -1000000, fun _ => 0) else (fun _ => 0, fun _ => 0)
theorem st0_rows {rq : Nat} (h : rq < 6) : (st0 (13 + rq)).1 = fun _ => -1000000 := by
  have h6 : rq = 0 ∨ rq = 1 ∨ rq = 2 ∨ rq = 3 ∨ rq = 4 ∨ rq = 5 := by omega
  rcases h6 with rfl | rfl | rfl | rfl | rfl | rfl <;> rfl
theorem LI_0 : LIx st0 := by
  refine ⟨fun _ => 0, 0, fun _ => 0, 50, 0, 0, 0, ⟨by decide, by omega, fun jq hj => absurd hj (Nat.not_lt_zero jq), fun _ => show 0 < 127 by omega⟩, ⟨by decide, by omega, fun jq hj => absurd hj (Nat.not_lt_zero jq), fun _ => show 0 < 127 by omega⟩, ⟨by decide, by omega, fun _ _ => rfl, fun _ => show 0 < 1048576 by omega⟩, ⟨by decide, by omega, fun _ _ => rfl, fun _ => show 0 < 1048576 by omega⟩, ⟨by decide, by omega, by decide, by decide, by decide, by omega⟩, ⟨by decide, by omega, by decide, by decide, by decide, by omega⟩, fun rq hr => ?_, fun rq hr yq hy => Or.inl rfl, rfl, rfl, rfl⟩
  rw [st0_rows hr]
  rfl
