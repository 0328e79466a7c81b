theorem mx_50 : (Jvm.Cond.classLink "RoundRowsLaw" (7 : Nat) "RoundRows") ∈ TT := mw 50 (by decide +kernel) (by decide +kernel)
theorem mx_51 : (Jvm.Cond.instantiable "RoundRows" (11 : Nat)) ∈ TT := mw 51 (by decide +kernel) (by decide +kernel)
theorem mx_58 : (Jvm.Cond.classLink "RoundRows" (9 : Nat) "[[I") ∈ TT := mw 58 (by decide +kernel) (by decide +kernel)
theorem mx_60 : (Jvm.Cond.classLink "RoundRows" (14 : Nat) "RoundRows$Pad") ∈ TT := mw 60 (by decide +kernel) (by decide +kernel)
theorem mx_61 : (Jvm.Cond.instantiable "RoundRows$Pad" (2 : Nat)) ∈ TT := mw 61 (by decide +kernel) (by decide +kernel)
theorem mx_74 : (Jvm.Cond.arrayClass Jvm.ClassFile.FieldType.int) ∈ TT := mw 74 (by decide +kernel) (by decide +kernel)
theorem mx_75 : (Jvm.Cond.classLink "RoundRows" (21 : Nat) "RoundRows$Dealt") ∈ TT := mw 75 (by decide +kernel) (by decide +kernel)
theorem mx_76 : (Jvm.Cond.instantiable "RoundRows$Dealt" (4 : Nat)) ∈ TT := mw 76 (by decide +kernel) (by decide +kernel)
theorem mx_105 : (Jvm.Cond.classLink "RoundRows" (31 : Nat) "RoundRows$Rounds") ∈ TT := mw 105 (by decide +kernel) (by decide +kernel)
theorem mx_106 : (Jvm.Cond.instantiable "RoundRows$Rounds" (3 : Nat)) ∈ TT := mw 106 (by decide +kernel) (by decide +kernel)
theorem mx_111 : (Jvm.Cond.classLink "RoundRows$Rounds" (9 : Nat) "RoundRows$Round") ∈ TT := mw 111 (by decide +kernel) (by decide +kernel)
theorem mx_113 : (Jvm.Cond.instantiable "RoundRows$Round" (3 : Nat)) ∈ TT := mw 113 (by decide +kernel) (by decide +kernel)
theorem mx_128 : (Jvm.Cond.arrayClass Jvm.ClassFile.FieldType.long) ∈ TT := mw 128 (by decide +kernel) (by decide +kernel)
theorem mx_139 : (Jvm.Cond.classLink "RoundRows" (38 : Nat) "RoundRows$Orders") ∈ TT := mw 139 (by decide +kernel) (by decide +kernel)
theorem mx_140 : (Jvm.Cond.instantiable "RoundRows$Orders" (3 : Nat)) ∈ TT := mw 140 (by decide +kernel) (by decide +kernel)
theorem mx_156 : (Jvm.Cond.classLink "RoundRows" (45 : Nat) "RoundRows$Later") ∈ TT := mw 156 (by decide +kernel) (by decide +kernel)
theorem mx_157 : (Jvm.Cond.instantiable "RoundRows$Later" (3 : Nat)) ∈ TT := mw 157 (by decide +kernel) (by decide +kernel)
theorem mx_175 : (Jvm.Cond.classLink "RoundRows" (52 : Nat) "RoundRows$Fraction") ∈ TT := mw 175 (by decide +kernel) (by decide +kernel)
theorem mx_176 : (Jvm.Cond.instantiable "RoundRows$Fraction" (2 : Nat)) ∈ TT := mw 176 (by decide +kernel) (by decide +kernel)
theorem mx_188 : (Jvm.Cond.classLink "RoundRows" (62 : Nat) "RoundRows$Drawer") ∈ TT := mw 188 (by decide +kernel) (by decide +kernel)
theorem mx_189 : (Jvm.Cond.instantiable "RoundRows$Drawer" (6 : Nat)) ∈ TT := mw 189 (by decide +kernel) (by decide +kernel)
theorem mx_220 : (Jvm.Cond.classLink "RoundRows" (69 : Nat) "RoundRows$Readers") ∈ TT := mw 220 (by decide +kernel) (by decide +kernel)
theorem mx_221 : (Jvm.Cond.instantiable "RoundRows$Readers" (2 : Nat)) ∈ TT := mw 221 (by decide +kernel) (by decide +kernel)
theorem mx_691 : (Jvm.Cond.classLink "RoundRowsLaw" (10 : Nat) "RoundRowsModel") ∈ TT := mw 691 (by decide +kernel) (by decide +kernel)
theorem mx_692 : (Jvm.Cond.instantiable "RoundRowsModel" (25 : Nat)) ∈ TT := mw 692 (by decide +kernel) (by decide +kernel)
theorem df_X0 : ∀ j, j < 4 → defaultValue (tyX0 j) = vp_V [.null, .null, .null, .int 0] j := by
  intro j hj
  match j, hj with
  | 0, _ => rfl
  | 1, _ => rfl
  | 2, _ => rfl
  | 3, _ => rfl
  | j + 4, hj => exact absurd hj (by omega)
theorem df_X1 : ∀ j, j < 6 → defaultValue (tyX1 j) = vp_V [.null, .null, .null, .int 0, .int 0, .int 0] j := by
  intro j hj
  match j, hj with
  | 0, _ => rfl
  | 1, _ => rfl
  | 2, _ => rfl
  | 3, _ => rfl
  | 4, _ => rfl
  | 5, _ => rfl
  | j + 6, hj => exact absurd hj (by omega)
theorem df_X2 : ∀ j, j < 2 → defaultValue (tyX2 j) = vp_V [.long 0, .long 0] j := by
  intro j hj
  match j, hj with
  | 0, _ => rfl
  | 1, _ => rfl
  | j + 2, hj => exact absurd hj (by omega)
theorem df_X3 : ∀ j, j < 3 → defaultValue (tyX3 j) = vp_V [.int 0, .int 0, .int 0] j := by
  intro j hj
  match j, hj with
  | 0, _ => rfl
  | 1, _ => rfl
  | 2, _ => rfl
  | j + 3, hj => exact absurd hj (by omega)
theorem df_X4 : ∀ j, j < 3 → defaultValue (tyX4 j) = vp_V [.null, .int 0, .long 0] j := by
  intro j hj
  match j, hj with
  | 0, _ => rfl
  | 1, _ => rfl
  | 2, _ => rfl
  | j + 3, hj => exact absurd hj (by omega)
theorem df_X5 : ∀ j, j < 2 → defaultValue (tyX5 j) = vp_V [.null, .int 0] j := by
  intro j hj
  match j, hj with
  | 0, _ => rfl
  | 1, _ => rfl
  | j + 2, hj => exact absurd hj (by omega)
theorem df_X6 : ∀ j, j < 2 → defaultValue (tyX6 j) = vp_V [.null, .int 0] j := by
  intro j hj
  match j, hj with
  | 0, _ => rfl
  | 1, _ => rfl
  | j + 2, hj => exact absurd hj (by omega)
theorem df_X7 : ∀ j, j < 3 → defaultValue (tyX7 j) = vp_V [.null, .null, .int 0] j := by
  intro j hj
  match j, hj with
  | 0, _ => rfl
  | 1, _ => rfl
  | 2, _ => rfl
  | j + 3, hj => exact absurd hj (by omega)
theorem df_X8 : ∀ j, j < 3 → defaultValue (tyX8 j) = vp_V [.null, .int 0, .int 0] j := by
  intro j hj
  match j, hj with
  | 0, _ => rfl
  | 1, _ => rfl
  | 2, _ => rfl
  | j + 3, hj => exact absurd hj (by omega)
theorem df_X9 : ∀ j, j < 11 → defaultValue (tyX9 j) = vp_V [.null, .null, .null, .null, .null, .null, .null, .null, .null, .null, .null] j := by
  intro j hj
  match j, hj with
  | 0, _ => rfl
  | 1, _ => rfl
  | 2, _ => rfl
  | 3, _ => rfl
  | 4, _ => rfl
  | 5, _ => rfl
  | 6, _ => rfl
  | 7, _ => rfl
  | 8, _ => rfl
  | 9, _ => rfl
  | 10, _ => rfl
  | j + 11, hj => exact absurd hj (by omega)
theorem df_X10 : ∀ j, j < 25 → defaultValue (tyX10 j) = vp_V [.null, .null, .int 0, .null, .null, .null, .null, .int 0, .null, .null, .null, .null, .long 0, .long 0, .int 0, .int 0, .int 0, .null, .null, .null, .int 0, .int 0, .null, .int 0, .int 0] j := by
  intro j hj
  match j, hj with
  | 0, _ => rfl
  | 1, _ => rfl
  | 2, _ => rfl
  | 3, _ => rfl
  | 4, _ => rfl
  | 5, _ => rfl
  | 6, _ => rfl
  | 7, _ => rfl
  | 8, _ => rfl
  | 9, _ => rfl
  | 10, _ => rfl
  | 11, _ => rfl
  | 12, _ => rfl
  | 13, _ => rfl
  | 14, _ => rfl
  | 15, _ => rfl
  | 16, _ => rfl
  | 17, _ => rfl
  | 18, _ => rfl
  | 19, _ => rfl
  | 20, _ => rfl
  | 21, _ => rfl
  | 22, _ => rfl
  | 23, _ => rfl
  | 24, _ => rfl
  | j + 25, hj => exact absurd hj (by omega)
def mgW (G : Gl) (q : Nat) : va_W := [(q, .inl (gQ G, 6, .inr (.inr (.inr (.inr (fun i => if i < 6 then some (q + 1 + i) else none)))))), (q + 1 + 0, .inl (gI G, 24, .inl (fun _ => 0))), (q + 1 + 1, .inl (gI G, 24, .inl (fun _ => 0))), (q + 1 + 2, .inl (gI G, 24, .inl (fun _ => 0))), (q + 1 + 3, .inl (gI G, 24, .inl (fun _ => 0))), (q + 1 + 4, .inl (gI G, 24, .inl (fun _ => 0))), (q + 1 + 5, .inl (gI G, 24, .inl (fun _ => 0)))]
theorem mgO_q {cA : ClassId} {hq : Nat} : mgO cA hq 6 = vp_cell cA (6, .inr (.inr (.inr (.inr (fun i => if i < 6 then some (hq + 1 + i) else none))))) := by
  rw [vp_cell_q]
  unfold mgO
  refine congrArg (arrV cA 6) (funext (fun jq => ?_))
  by_cases hj : jq < 6
  · rw [if_pos hj, if_pos hj]; rfl
  · rw [if_neg hj, if_neg hj]; rfl
theorem n_mnew {X : Cx} {G : Gl} {A : Nat → Prop} {cc : ByteArray} {nL nc ns : Nat} {own : String} {F Lo mc ms : Nat} {ws : va_W} {pc : Nat} {lv : List (Nat × Value)} {st : List Value} (o : OkN X G A cc nL own F Lo mc ms) {index : Nat} (hcl : Cond.classLink own index "[[I" ∈ TT) (h1 : nc + 7 ≤ mc) (h2 : ns + 150 ≤ ms) (d : decode cc pc = .ok (.multianewarray index 2, 4)) (kk : ∀ q : Nat, WN X G A nL (nc + 7) (ns + 150) (ws ++ mgW G q) (pc + 4) lv (.ref q :: st)) : WN X G A nL nc ns ws pc lv (.int (nI 24) :: .int (nI 6) :: st) := fun H locs ls hP hD hS h => by
  obtain ⟨kA, hkA, hkindA⟩ := o.2.2.2.2.2.1.2.1
  obtain ⟨-, kC, hkC, c2, hkindC⟩ := (o.2.2.2.2.2.1.1.2 0 _ rfl).1 0 (fun _ => .null)
  have hfA : (xs X).vm.findClass "[[I" = some (gQ G) := (o.2.2.2.2.2.1.1.2 3 _ rfl).2
  refine W.mnew o.1 o.2.1 o.2.2.2.1 (o.2.2.2.2.1 _ hcl) hfA hkA hkindA hkC hkindC d (by rw [o.2.2.2.2.2.2.2]; exact h1) (by rw [o.2.2.2.2.2.2.2]; exact h2) ?_
  have f1 := mgH_sz H (gQ G) (gI G) H.size 6
  have f2 := mgH_out H (gQ G) (gI G) H.size 6
  have hin : ∀ jq, jq < 6 → (H ++ (mgL (gQ G) (gI G) H.size 6).toArray)[H.size + 1 + jq]? = some (mgI (gI G)) := fun jq => mgH_in H (gQ G) (gI G) H.size 6
  have key : ∀ (k : Nat) (x : Nat × va_E), (mgW G H.size)[k]? = some x → x.1 = H.size + k ∧ va_at G.1 classes x (H ++ (mgL (gQ G) (gI G) H.size 6).toArray) := fun k x hx => by
    match k, hx with
    | 0, hx =>
      cases hx
      refine ⟨rfl, ?_⟩
      rw [mgO_q] at f2
      exact f2
    | 1, hx => cases hx; exact ⟨rfl, hin 0 (by omega)⟩
    | 2, hx => cases hx; exact ⟨rfl, hin 1 (by omega)⟩
    | 3, hx => cases hx; exact ⟨rfl, hin 2 (by omega)⟩
    | 4, hx => cases hx; exact ⟨rfl, hin 3 (by omega)⟩
    | 5, hx => cases hx; exact ⟨rfl, hin 4 (by omega)⟩
    | 6, hx => cases hx; exact ⟨rfl, hin 5 (by omega)⟩
    | k + 7, hx => simp [mgW] at hx
  have hlt : ∀ (k : Nat) (x : Nat × va_E), ws[k]? = some x → x.1 < H.size := fun k x hx => (hP k x hx).lt
  refine kk H.size _ _ ls ?_ ?_ ?_ h
  · exact (hP.kept (fun k x hx => adH_old H _ (hlt k x hx))).app (fun k x hx => (key k x hx).2)
  · refine va_D.app hD ⟨fun i j x y hi hj he => ?_, fun k x hx => ?_⟩ (fun i j x y hx hy he => ?_)
    · have e1 := (key i x hi).1
      have e2 := (key j y hj).1
      omega
    · rw [(key k x hx).1]
      exact o.2.2.2.2.2.2.1 _ (by have := hS.1; omega)
    · have e1 := hlt i x hx
      have e2 := (key j y hy).1
      omega
  · refine ⟨by rw [f1]; have := hS.1; omega, fun q h1 h2 => ?_, hS.2.2⟩
    · rw [adH_old H _ (Nat.lt_of_lt_of_le h1 hS.1)]
      exact hS.2.1 q h1 h2
set_option maxHeartbeats 4000000 in
set_option maxRecDepth 100000 in
theorem c_X0_init (l : Launch) (G : Gl) (h0 : Nat) : CtN l G yX0_init cX0_init 1 1 12 3 72 h0 (.inr (0, [.null, .null, .null, .int 0])) (fun af => [(h0, .inr (0, [.ref (af 0), .ref (af 1), .ref (af 2), .int (nI 0)])), (af 0, .inl (gI G, 24, .inl (fun _ => 0))), (af 1, .inl (gI G, 24, .inl (fun _ => 0))), (af 2, .inl (gI G, 24, .inl (fun _ => 0)))]) := by
  refine CtN.of (by decide +kernel) (by decide) (fun X A o q => ?_) rfl
  refine n_aload o dX0_init_0 0 rfl ?_
  refine n_obj o mw_80 mw_56 mw_57 dX0_init_1 (by decide) (by decide) ?_
  refine n_aload o dX0_init_4 0 rfl ?_
  refine n_bipush o (v := nI 24) dX0_init_5 (by decide) ?_
  refine n_newI o 24 rfl (by decide) mx_74 (by decide) (by decide) dX0_init_7 (fun q7_24 => ?_)
  show WN X G A 1 1 24 [(h0, .inr (0, [.null, .null, .null, .int 0])), (q7_24, .inl (gI G, 24, .inl (fun _ => 0)))] 9 [(0, .ref h0)] [.ref q7_24, .ref h0]
  refine n_putF o q.2.2.1 (ty := tyX0 0) inX0 tyX0 tyX0_ok nmX0 0 rfl rfl 0 (by decide) rfl rfl mw_81 rfl rfl rfl rfl (Nat.le_of_ble_eq_true rfl) dX0_init_9 ?_
  show WN X G A 1 1 24 [(h0, .inr (0, [.ref q7_24, .null, .null, .int 0])), (q7_24, .inl (gI G, 24, .inl (fun _ => 0)))] 12 [(0, .ref h0)] []
  refine n_aload o dX0_init_12 0 rfl ?_
  refine n_bipush o (v := nI 24) dX0_init_13 (by decide) ?_
  refine n_newI o 24 rfl (by decide) mx_74 (by decide) (by decide) dX0_init_15 (fun q15_24 => ?_)
  show WN X G A 1 2 48 [(h0, .inr (0, [.ref q7_24, .null, .null, .int 0])), (q7_24, .inl (gI G, 24, .inl (fun _ => 0))), (q15_24, .inl (gI G, 24, .inl (fun _ => 0)))] 17 [(0, .ref h0)] [.ref q15_24, .ref h0]
  refine n_putF o q.2.2.1 (ty := tyX0 1) inX0 tyX0 tyX0_ok nmX0 0 rfl rfl 1 (by decide) rfl rfl mw_84 rfl rfl rfl rfl (Nat.le_of_ble_eq_true rfl) dX0_init_17 ?_
  show WN X G A 1 2 48 [(h0, .inr (0, [.ref q7_24, .ref q15_24, .null, .int 0])), (q7_24, .inl (gI G, 24, .inl (fun _ => 0))), (q15_24, .inl (gI G, 24, .inl (fun _ => 0)))] 20 [(0, .ref h0)] []
  refine n_aload o dX0_init_20 0 rfl ?_
  refine n_bipush o (v := nI 24) dX0_init_21 (by decide) ?_
  refine n_newI o 24 rfl (by decide) mx_74 (by decide) (by decide) dX0_init_23 (fun q23_24 => ?_)
  show WN X G A 1 3 72 [(h0, .inr (0, [.ref q7_24, .ref q15_24, .null, .int 0])), (q7_24, .inl (gI G, 24, .inl (fun _ => 0))), (q15_24, .inl (gI G, 24, .inl (fun _ => 0))), (q23_24, .inl (gI G, 24, .inl (fun _ => 0)))] 25 [(0, .ref h0)] [.ref q23_24, .ref h0]
  refine n_putF o q.2.2.1 (ty := tyX0 2) inX0 tyX0 tyX0_ok nmX0 0 rfl rfl 2 (by decide) rfl rfl mw_88 rfl rfl rfl rfl (Nat.le_of_ble_eq_true rfl) dX0_init_25 ?_
  show WN X G A 1 3 72 [(h0, .inr (0, [.ref q7_24, .ref q15_24, .ref q23_24, .int 0])), (q7_24, .inl (gI G, 24, .inl (fun _ => 0))), (q15_24, .inl (gI G, 24, .inl (fun _ => 0))), (q23_24, .inl (gI G, 24, .inl (fun _ => 0)))] 28 [(0, .ref h0)] []
  refine n_aload o dX0_init_28 0 rfl ?_
  refine n_iconst o (v := nI 0) dX0_init_29 (by decide) ?_
  refine n_put o (ty := tyX0 3) inX0 tyX0 tyX0_ok nmX0 0 rfl rfl 3 (by decide) rfl mw_91 rfl rfl rfl rfl (Nat.le_of_ble_eq_true rfl) dX0_init_30 ?_
  show WN X G A 1 3 72 [(h0, .inr (0, [.ref q7_24, .ref q15_24, .ref q23_24, .int (nI 0)])), (q7_24, .inl (gI G, 24, .inl (fun _ => 0))), (q15_24, .inl (gI G, 24, .inl (fun _ => 0))), (q23_24, .inl (gI G, 24, .inl (fun _ => 0)))] 33 [(0, .ref h0)] []
  exact n_ret o q (fun k => [q7_24, q15_24, q23_24].getD k 0) rfl (by decide) (by decide) dX0_init_33
set_option maxHeartbeats 4000000 in
set_option maxRecDepth 100000 in
theorem c_X1_init (l : Launch) (G : Gl) (h0 : Nat) : CtN l G yX1_init cX1_init 1 1 12 3 60 h0 (.inr (1, [.null, .null, .null, .int 0, .int 0, .int 0])) (fun af => [(h0, .inr (1, [.ref (af 0), .ref (af 1), .ref (af 2), .int (nI 0), .int (nI 0), .int (nI 0)])), (af 0, .inl (gI G, 20, .inl (fun _ => 0))), (af 1, .inl (gI G, 20, .inl (fun _ => 0))), (af 2, .inl (gI G, 20, .inl (fun _ => 0)))]) := by
  refine CtN.of (by decide +kernel) (by decide) (fun X A o q => ?_) rfl
  refine n_aload o dX1_init_0 0 rfl ?_
  refine n_obj o mw_193 mw_56 mw_57 dX1_init_1 (by decide) (by decide) ?_
  refine n_aload o dX1_init_4 0 rfl ?_
  refine n_bipush o (v := nI 20) dX1_init_5 (by decide) ?_
  refine n_newI o 20 rfl (by decide) mx_74 (by decide) (by decide) dX1_init_7 (fun q7_20 => ?_)
  show WN X G A 1 1 20 [(h0, .inr (1, [.null, .null, .null, .int 0, .int 0, .int 0])), (q7_20, .inl (gI G, 20, .inl (fun _ => 0)))] 9 [(0, .ref h0)] [.ref q7_20, .ref h0]
  refine n_putF o q.2.2.1 (ty := tyX1 0) inX1 tyX1 tyX1_ok nmX1 0 rfl rfl 0 (by decide) rfl rfl mw_194 rfl rfl rfl rfl (Nat.le_of_ble_eq_true rfl) dX1_init_9 ?_
  show WN X G A 1 1 20 [(h0, .inr (1, [.ref q7_20, .null, .null, .int 0, .int 0, .int 0])), (q7_20, .inl (gI G, 20, .inl (fun _ => 0)))] 12 [(0, .ref h0)] []
  refine n_aload o dX1_init_12 0 rfl ?_
  refine n_bipush o (v := nI 20) dX1_init_13 (by decide) ?_
  refine n_newI o 20 rfl (by decide) mx_74 (by decide) (by decide) dX1_init_15 (fun q15_20 => ?_)
  show WN X G A 1 2 40 [(h0, .inr (1, [.ref q7_20, .null, .null, .int 0, .int 0, .int 0])), (q7_20, .inl (gI G, 20, .inl (fun _ => 0))), (q15_20, .inl (gI G, 20, .inl (fun _ => 0)))] 17 [(0, .ref h0)] [.ref q15_20, .ref h0]
  refine n_putF o q.2.2.1 (ty := tyX1 1) inX1 tyX1 tyX1_ok nmX1 0 rfl rfl 1 (by decide) rfl rfl mw_196 rfl rfl rfl rfl (Nat.le_of_ble_eq_true rfl) dX1_init_17 ?_
  show WN X G A 1 2 40 [(h0, .inr (1, [.ref q7_20, .ref q15_20, .null, .int 0, .int 0, .int 0])), (q7_20, .inl (gI G, 20, .inl (fun _ => 0))), (q15_20, .inl (gI G, 20, .inl (fun _ => 0)))] 20 [(0, .ref h0)] []
  refine n_aload o dX1_init_20 0 rfl ?_
  refine n_bipush o (v := nI 20) dX1_init_21 (by decide) ?_
  refine n_newI o 20 rfl (by decide) mx_74 (by decide) (by decide) dX1_init_23 (fun q23_20 => ?_)
  show WN X G A 1 3 60 [(h0, .inr (1, [.ref q7_20, .ref q15_20, .null, .int 0, .int 0, .int 0])), (q7_20, .inl (gI G, 20, .inl (fun _ => 0))), (q15_20, .inl (gI G, 20, .inl (fun _ => 0))), (q23_20, .inl (gI G, 20, .inl (fun _ => 0)))] 25 [(0, .ref h0)] [.ref q23_20, .ref h0]
  refine n_putF o q.2.2.1 (ty := tyX1 2) inX1 tyX1 tyX1_ok nmX1 0 rfl rfl 2 (by decide) rfl rfl mw_198 rfl rfl rfl rfl (Nat.le_of_ble_eq_true rfl) dX1_init_25 ?_
  show WN X G A 1 3 60 [(h0, .inr (1, [.ref q7_20, .ref q15_20, .ref q23_20, .int 0, .int 0, .int 0])), (q7_20, .inl (gI G, 20, .inl (fun _ => 0))), (q15_20, .inl (gI G, 20, .inl (fun _ => 0))), (q23_20, .inl (gI G, 20, .inl (fun _ => 0)))] 28 [(0, .ref h0)] []
  refine n_aload o dX1_init_28 0 rfl ?_
  refine n_iconst o (v := nI 0) dX1_init_29 (by decide) ?_
  refine n_put o (ty := tyX1 3) inX1 tyX1 tyX1_ok nmX1 0 rfl rfl 3 (by decide) rfl mw_200 rfl rfl rfl rfl (Nat.le_of_ble_eq_true rfl) dX1_init_30 ?_
  show WN X G A 1 3 60 [(h0, .inr (1, [.ref q7_20, .ref q15_20, .ref q23_20, .int (nI 0), .int 0, .int 0])), (q7_20, .inl (gI G, 20, .inl (fun _ => 0))), (q15_20, .inl (gI G, 20, .inl (fun _ => 0))), (q23_20, .inl (gI G, 20, .inl (fun _ => 0)))] 33 [(0, .ref h0)] []
  refine n_aload o dX1_init_33 0 rfl ?_
  refine n_iconst o (v := nI 0) dX1_init_34 (by decide) ?_
  refine n_put o (ty := tyX1 4) inX1 tyX1 tyX1_ok nmX1 0 rfl rfl 4 (by decide) rfl mw_202 rfl rfl rfl rfl (Nat.le_of_ble_eq_true rfl) dX1_init_35 ?_
  show WN X G A 1 3 60 [(h0, .inr (1, [.ref q7_20, .ref q15_20, .ref q23_20, .int (nI 0), .int (nI 0), .int 0])), (q7_20, .inl (gI G, 20, .inl (fun _ => 0))), (q15_20, .inl (gI G, 20, .inl (fun _ => 0))), (q23_20, .inl (gI G, 20, .inl (fun _ => 0)))] 38 [(0, .ref h0)] []
  refine n_aload o dX1_init_38 0 rfl ?_
  refine n_iconst o (v := nI 0) dX1_init_39 (by decide) ?_
  refine n_put o (ty := tyX1 5) inX1 tyX1 tyX1_ok nmX1 0 rfl rfl 5 (by decide) rfl mw_205 rfl rfl rfl rfl (Nat.le_of_ble_eq_true rfl) dX1_init_40 ?_
  show WN X G A 1 3 60 [(h0, .inr (1, [.ref q7_20, .ref q15_20, .ref q23_20, .int (nI 0), .int (nI 0), .int (nI 0)])), (q7_20, .inl (gI G, 20, .inl (fun _ => 0))), (q15_20, .inl (gI G, 20, .inl (fun _ => 0))), (q23_20, .inl (gI G, 20, .inl (fun _ => 0)))] 43 [(0, .ref h0)] []
  exact n_ret o q (fun k => [q7_20, q15_20, q23_20].getD k 0) rfl (by decide) (by decide) dX1_init_43
set_option maxHeartbeats 4000000 in
set_option maxRecDepth 100000 in
theorem c_X2_init (l : Launch) (G : Gl) (h0 : Nat) : CtN l G yX2_init cX2_init 1 1 12 0 0 h0 (.inr (2, [.long 0, .long 0])) (fun af => [(h0, .inr (2, [.long 0, .long 1]))]) := by
  refine CtN.of (by decide +kernel) (by decide) (fun X A o q => ?_) rfl
  refine n_aload o dX2_init_0 0 rfl ?_
  refine n_obj o mw_180 mw_56 mw_57 dX2_init_1 (by decide) (by decide) ?_
  refine n_aload o dX2_init_4 0 rfl ?_
  refine n_lconst o (v := 0) dX2_init_5 (by decide) ?_
  refine n_put o (ty := tyX2 0) inX2 tyX2 tyX2_ok nmX2 0 rfl rfl 0 (by decide) rfl mw_181 rfl rfl rfl rfl (Nat.le_of_ble_eq_true rfl) dX2_init_6 ?_
  show WN X G A 1 0 0 [(h0, .inr (2, [.long 0, .long 0]))] 9 [(0, .ref h0)] []
  refine n_aload o dX2_init_9 0 rfl ?_
  refine n_lconst o (v := 1) dX2_init_10 (by decide) ?_
  refine n_put o (ty := tyX2 1) inX2 tyX2 tyX2_ok nmX2 0 rfl rfl 1 (by decide) rfl mw_182 rfl rfl rfl rfl (Nat.le_of_ble_eq_true rfl) dX2_init_11 ?_
  show WN X G A 1 0 0 [(h0, .inr (2, [.long 0, .long 1]))] 14 [(0, .ref h0)] []
  exact n_ret o q (fun k => k) rfl (by decide) (by decide) dX2_init_14
set_option maxHeartbeats 4000000 in
set_option maxRecDepth 100000 in
theorem c_X3_init (l : Launch) (G : Gl) (h0 : Nat) : CtN l G yX3_init cX3_init 1 1 12 0 0 h0 (.inr (3, [.int 0, .int 0, .int 0])) (fun af => [(h0, .inr (3, [.int (nI 2), .int (nI 0), .int (nI 0)]))]) := by
  refine CtN.of (by decide +kernel) (by decide) (fun X A o q => ?_) rfl
  refine n_aload o dX3_init_0 0 rfl ?_
  refine n_obj o mw_161 mw_56 mw_57 dX3_init_1 (by decide) (by decide) ?_
  refine n_aload o dX3_init_4 0 rfl ?_
  refine n_iconst o (v := nI 2) dX3_init_5 (by decide) ?_
  refine n_put o (ty := tyX3 0) inX3 tyX3 tyX3_ok nmX3 0 rfl rfl 0 (by decide) rfl mw_162 rfl rfl rfl rfl (Nat.le_of_ble_eq_true rfl) dX3_init_6 ?_
  show WN X G A 1 0 0 [(h0, .inr (3, [.int (nI 2), .int 0, .int 0]))] 9 [(0, .ref h0)] []
  refine n_aload o dX3_init_9 0 rfl ?_
  refine n_iconst o (v := nI 0) dX3_init_10 (by decide) ?_
  refine n_put o (ty := tyX3 1) inX3 tyX3 tyX3_ok nmX3 0 rfl rfl 1 (by decide) rfl mw_164 rfl rfl rfl rfl (Nat.le_of_ble_eq_true rfl) dX3_init_11 ?_
  show WN X G A 1 0 0 [(h0, .inr (3, [.int (nI 2), .int (nI 0), .int 0]))] 14 [(0, .ref h0)] []
  refine n_aload o dX3_init_14 0 rfl ?_
  refine n_iconst o (v := nI 0) dX3_init_15 (by decide) ?_
  refine n_put o (ty := tyX3 2) inX3 tyX3 tyX3_ok nmX3 0 rfl rfl 2 (by decide) rfl mw_166 rfl rfl rfl rfl (Nat.le_of_ble_eq_true rfl) dX3_init_16 ?_
  show WN X G A 1 0 0 [(h0, .inr (3, [.int (nI 2), .int (nI 0), .int (nI 0)]))] 19 [(0, .ref h0)] []
  exact n_ret o q (fun k => k) rfl (by decide) (by decide) dX3_init_19
set_option maxHeartbeats 4000000 in
set_option maxRecDepth 100000 in
theorem c_X4_init (l : Launch) (G : Gl) (h0 : Nat) : CtN l G yX4_init cX4_init 1 1 12 1 24 h0 (.inr (4, [.null, .int 0, .long 0])) (fun af => [(h0, .inr (4, [.ref (af 0), .int (nI 0), .long 1])), (af 0, .inl (gI G, 24, .inl (fun _ => 0)))]) := by
  refine CtN.of (by decide +kernel) (by decide) (fun X A o q => ?_) rfl
  refine n_aload o dX4_init_0 0 rfl ?_
  refine n_obj o mw_144 mw_56 mw_57 dX4_init_1 (by decide) (by decide) ?_
  refine n_aload o dX4_init_4 0 rfl ?_
  refine n_bipush o (v := nI 24) dX4_init_5 (by decide) ?_
  refine n_newI o 24 rfl (by decide) mx_74 (by decide) (by decide) dX4_init_7 (fun q7_24 => ?_)
  show WN X G A 1 1 24 [(h0, .inr (4, [.null, .int 0, .long 0])), (q7_24, .inl (gI G, 24, .inl (fun _ => 0)))] 9 [(0, .ref h0)] [.ref q7_24, .ref h0]
  refine n_putF o q.2.2.1 (ty := tyX4 0) inX4 tyX4 tyX4_ok nmX4 0 rfl rfl 0 (by decide) rfl rfl mw_145 rfl rfl rfl rfl (Nat.le_of_ble_eq_true rfl) dX4_init_9 ?_
  show WN X G A 1 1 24 [(h0, .inr (4, [.ref q7_24, .int 0, .long 0])), (q7_24, .inl (gI G, 24, .inl (fun _ => 0)))] 12 [(0, .ref h0)] []
  refine n_aload o dX4_init_12 0 rfl ?_
  refine n_iconst o (v := nI 0) dX4_init_13 (by decide) ?_
  refine n_put o (ty := tyX4 1) inX4 tyX4 tyX4_ok nmX4 0 rfl rfl 1 (by decide) rfl mw_147 rfl rfl rfl rfl (Nat.le_of_ble_eq_true rfl) dX4_init_14 ?_
  show WN X G A 1 1 24 [(h0, .inr (4, [.ref q7_24, .int (nI 0), .long 0])), (q7_24, .inl (gI G, 24, .inl (fun _ => 0)))] 17 [(0, .ref h0)] []
  refine n_aload o dX4_init_17 0 rfl ?_
  refine n_lconst o (v := 1) dX4_init_18 (by decide) ?_
  refine n_put o (ty := tyX4 2) inX4 tyX4 tyX4_ok nmX4 0 rfl rfl 2 (by decide) rfl mw_148 rfl rfl rfl rfl (Nat.le_of_ble_eq_true rfl) dX4_init_19 ?_
  show WN X G A 1 1 24 [(h0, .inr (4, [.ref q7_24, .int (nI 0), .long 1])), (q7_24, .inl (gI G, 24, .inl (fun _ => 0)))] 22 [(0, .ref h0)] []
  exact n_ret o q (fun k => [q7_24].getD k 0) rfl (by decide) (by decide) dX4_init_22
set_option maxHeartbeats 4000000 in
set_option maxRecDepth 100000 in
theorem c_X5_init (l : Launch) (G : Gl) (h0 : Nat) : CtN l G yX5_init cX5_init 1 1 12 1 20 h0 (.inr (5, [.null, .int 0])) (fun af => [(h0, .inr (5, [.ref (af 0), .int (nI 0)])), (af 0, .inl (gI G, 20, .inl (fun _ => 0)))]) := by
  refine CtN.of (by decide +kernel) (by decide) (fun X A o q => ?_) rfl
  refine n_aload o dX5_init_0 0 rfl ?_
  refine n_obj o mw_65 mw_56 mw_57 dX5_init_1 (by decide) (by decide) ?_
  refine n_aload o dX5_init_4 0 rfl ?_
  refine n_bipush o (v := nI 20) dX5_init_5 (by decide) ?_
  refine n_newI o 20 rfl (by decide) mx_74 (by decide) (by decide) dX5_init_7 (fun q7_20 => ?_)
  show WN X G A 1 1 20 [(h0, .inr (5, [.null, .int 0])), (q7_20, .inl (gI G, 20, .inl (fun _ => 0)))] 9 [(0, .ref h0)] [.ref q7_20, .ref h0]
  refine n_putF o q.2.2.1 (ty := tyX5 0) inX5 tyX5 tyX5_ok nmX5 0 rfl rfl 0 (by decide) rfl rfl mw_66 rfl rfl rfl rfl (Nat.le_of_ble_eq_true rfl) dX5_init_9 ?_
  show WN X G A 1 1 20 [(h0, .inr (5, [.ref q7_20, .int 0])), (q7_20, .inl (gI G, 20, .inl (fun _ => 0)))] 12 [(0, .ref h0)] []
  refine n_aload o dX5_init_12 0 rfl ?_
  refine n_iconst o (v := nI 0) dX5_init_13 (by decide) ?_
  refine n_put o (ty := tyX5 1) inX5 tyX5 tyX5_ok nmX5 0 rfl rfl 1 (by decide) rfl mw_67 rfl rfl rfl rfl (Nat.le_of_ble_eq_true rfl) dX5_init_14 ?_
  show WN X G A 1 1 20 [(h0, .inr (5, [.ref q7_20, .int (nI 0)])), (q7_20, .inl (gI G, 20, .inl (fun _ => 0)))] 17 [(0, .ref h0)] []
  exact n_ret o q (fun k => [q7_20].getD k 0) rfl (by decide) (by decide) dX5_init_17
set_option maxHeartbeats 4000000 in
set_option maxRecDepth 100000 in
theorem c_X6_init (l : Launch) (G : Gl) (h0 : Nat) : CtN l G yX6_init cX6_init 1 1 12 1 8 h0 (.inr (6, [.null, .int 0])) (fun af => [(h0, .inr (6, [.ref (af 0), .int (nI 50)])), (af 0, .inl (gI G, 8, .inl (fun _ => 0)))]) := by
  refine CtN.of (by decide +kernel) (by decide) (fun X A o q => ?_) rfl
  refine n_aload o dX6_init_0 0 rfl ?_
  refine n_obj o mw_225 mw_56 mw_57 dX6_init_1 (by decide) (by decide) ?_
  refine n_aload o dX6_init_4 0 rfl ?_
  refine n_bipush o (v := nI 8) dX6_init_5 (by decide) ?_
  refine n_newI o 8 rfl (by decide) mx_74 (by decide) (by decide) dX6_init_7 (fun q7_8 => ?_)
  show WN X G A 1 1 8 [(h0, .inr (6, [.null, .int 0])), (q7_8, .inl (gI G, 8, .inl (fun _ => 0)))] 9 [(0, .ref h0)] [.ref q7_8, .ref h0]
  refine n_putF o q.2.2.1 (ty := tyX6 0) inX6 tyX6 tyX6_ok nmX6 0 rfl rfl 0 (by decide) rfl rfl mw_226 rfl rfl rfl rfl (Nat.le_of_ble_eq_true rfl) dX6_init_9 ?_
  show WN X G A 1 1 8 [(h0, .inr (6, [.ref q7_8, .int 0])), (q7_8, .inl (gI G, 8, .inl (fun _ => 0)))] 12 [(0, .ref h0)] []
  refine n_aload o dX6_init_12 0 rfl ?_
  refine n_bipush o (v := nI 50) dX6_init_13 (by decide) ?_
  refine n_put o (ty := tyX6 1) inX6 tyX6 tyX6_ok nmX6 0 rfl rfl 1 (by decide) rfl mw_228 rfl rfl rfl rfl (Nat.le_of_ble_eq_true rfl) dX6_init_15 ?_
  show WN X G A 1 1 8 [(h0, .inr (6, [.ref q7_8, .int (nI 50)])), (q7_8, .inl (gI G, 8, .inl (fun _ => 0)))] 18 [(0, .ref h0)] []
  exact n_ret o q (fun k => [q7_8].getD k 0) rfl (by decide) (by decide) dX6_init_18
set_option maxHeartbeats 4000000 in
set_option maxRecDepth 100000 in
theorem c_X7_init (l : Launch) (G : Gl) (h0 : Nat) : CtN l G yX7_init cX7_init 1 1 12 2 48 h0 (.inr (7, [.null, .null, .int 0])) (fun af => [(h0, .inr (7, [.ref (af 0), .ref (af 1), .int (nI 0)])), (af 0, .inl (gI G, 24, .inl (fun _ => 0))), (af 1, .inl (gJ G, 24, .inr (.inl (fun _ => 0))))]) := by
  refine CtN.of (by decide +kernel) (by decide) (fun X A o q => ?_) rfl
  refine n_aload o dX7_init_0 0 rfl ?_
  refine n_obj o mw_117 mw_56 mw_57 dX7_init_1 (by decide) (by decide) ?_
  refine n_aload o dX7_init_4 0 rfl ?_
  refine n_bipush o (v := nI 24) dX7_init_5 (by decide) ?_
  refine n_newI o 24 rfl (by decide) mx_74 (by decide) (by decide) dX7_init_7 (fun q7_24 => ?_)
  show WN X G A 1 1 24 [(h0, .inr (7, [.null, .null, .int 0])), (q7_24, .inl (gI G, 24, .inl (fun _ => 0)))] 9 [(0, .ref h0)] [.ref q7_24, .ref h0]
  refine n_putF o q.2.2.1 (ty := tyX7 0) inX7 tyX7 tyX7_ok nmX7 0 rfl rfl 0 (by decide) rfl rfl mw_118 rfl rfl rfl rfl (Nat.le_of_ble_eq_true rfl) dX7_init_9 ?_
  show WN X G A 1 1 24 [(h0, .inr (7, [.ref q7_24, .null, .int 0])), (q7_24, .inl (gI G, 24, .inl (fun _ => 0)))] 12 [(0, .ref h0)] []
  refine n_aload o dX7_init_12 0 rfl ?_
  refine n_bipush o (v := nI 24) dX7_init_13 (by decide) ?_
  refine n_newJ o 24 rfl (by decide) mx_128 (by decide) (by decide) dX7_init_15 (fun q15_24 => ?_)
  show WN X G A 1 2 48 [(h0, .inr (7, [.ref q7_24, .null, .int 0])), (q7_24, .inl (gI G, 24, .inl (fun _ => 0))), (q15_24, .inl (gJ G, 24, .inr (.inl (fun _ => 0))))] 17 [(0, .ref h0)] [.ref q15_24, .ref h0]
  refine n_putF o q.2.2.1 (ty := tyX7 1) inX7 tyX7 tyX7_ok nmX7 0 rfl rfl 1 (by decide) rfl rfl mw_119 rfl rfl rfl rfl (Nat.le_of_ble_eq_true rfl) dX7_init_17 ?_
  show WN X G A 1 2 48 [(h0, .inr (7, [.ref q7_24, .ref q15_24, .int 0])), (q7_24, .inl (gI G, 24, .inl (fun _ => 0))), (q15_24, .inl (gJ G, 24, .inr (.inl (fun _ => 0))))] 20 [(0, .ref h0)] []
  refine n_aload o dX7_init_20 0 rfl ?_
  refine n_iconst o (v := nI 0) dX7_init_21 (by decide) ?_
  refine n_put o (ty := tyX7 2) inX7 tyX7 tyX7_ok nmX7 0 rfl rfl 2 (by decide) rfl mw_120 rfl rfl rfl rfl (Nat.le_of_ble_eq_true rfl) dX7_init_22 ?_
  show WN X G A 1 2 48 [(h0, .inr (7, [.ref q7_24, .ref q15_24, .int (nI 0)])), (q7_24, .inl (gI G, 24, .inl (fun _ => 0))), (q15_24, .inl (gJ G, 24, .inr (.inl (fun _ => 0))))] 25 [(0, .ref h0)] []
  exact n_ret o q (fun k => [q7_24, q15_24].getD k 0) rfl (by decide) (by decide) dX7_init_25
