section RF
variable {X : Cx} {G : Gl} {cc : ByteArray} {nL : Nat} {own : String} {F Lo : Nat} {σ : Sto} {pc : Nat} {lv : List (Nat × Value)} {st : List Value}
theorem gf_0_0 (o : Ok X G cc nL own F Lo) {index : Nat} (hw : Cond.fieldLink own index "RoundRows" "rows" "[[I" ∈ TT) (d : decode cc pc = .ok (.getfield index, 3)) (kk : WS X G nL σ (pc + 3) lv (.ref (gad G 12) :: st)) : WS X G nL σ pc lv (.ref (gad G 0) :: st) := r_get o (C := RX9) (T := TX9) (N := 11) inX9 (by decide) rfl rfl 0 (by decide) rfl hw rfl d kk
theorem gf_0_1 (o : Ok X G cc nL own F Lo) {index : Nat} (hw : Cond.fieldLink own index "RoundRows" "pad" "LRoundRows$Pad;" ∈ TT) (d : decode cc pc = .ok (.getfield index, 3)) (kk : WS X G nL σ (pc + 3) lv (.ref (gad G 1) :: st)) : WS X G nL σ pc lv (.ref (gad G 0) :: st) := r_get o (C := RX9) (T := TX9) (N := 11) inX9 (by decide) rfl rfl 1 (by decide) rfl hw rfl d kk
theorem gf_0_2 (o : Ok X G cc nL own F Lo) {index : Nat} (hw : Cond.fieldLink own index "RoundRows" "dealtRow" "LRoundRows$Dealt;" ∈ TT) (d : decode cc pc = .ok (.getfield index, 3)) (kk : WS X G nL σ (pc + 3) lv (.ref (gad G 2) :: st)) : WS X G nL σ pc lv (.ref (gad G 0) :: st) := r_get o (C := RX9) (T := TX9) (N := 11) inX9 (by decide) rfl rfl 2 (by decide) rfl hw rfl d kk
theorem gf_0_3 (o : Ok X G cc nL own F Lo) {index : Nat} (hw : Cond.fieldLink own index "RoundRows" "otherRow" "LRoundRows$Dealt;" ∈ TT) (d : decode cc pc = .ok (.getfield index, 3)) (kk : WS X G nL σ (pc + 3) lv (.ref (gad G 3) :: st)) : WS X G nL σ pc lv (.ref (gad G 0) :: st) := r_get o (C := RX9) (T := TX9) (N := 11) inX9 (by decide) rfl rfl 3 (by decide) rfl hw rfl d kk
theorem gf_0_4 (o : Ok X G cc nL own F Lo) {index : Nat} (hw : Cond.fieldLink own index "RoundRows" "rounds" "LRoundRows$Rounds;" ∈ TT) (d : decode cc pc = .ok (.getfield index, 3)) (kk : WS X G nL σ (pc + 3) lv (.ref (gad G 4) :: st)) : WS X G nL σ pc lv (.ref (gad G 0) :: st) := r_get o (C := RX9) (T := TX9) (N := 11) inX9 (by decide) rfl rfl 4 (by decide) rfl hw rfl d kk
theorem gf_0_5 (o : Ok X G cc nL own F Lo) {index : Nat} (hw : Cond.fieldLink own index "RoundRows" "orders" "LRoundRows$Orders;" ∈ TT) (d : decode cc pc = .ok (.getfield index, 3)) (kk : WS X G nL σ (pc + 3) lv (.ref (gad G 5) :: st)) : WS X G nL σ pc lv (.ref (gad G 0) :: st) := r_get o (C := RX9) (T := TX9) (N := 11) inX9 (by decide) rfl rfl 5 (by decide) rfl hw rfl d kk
theorem gf_0_6 (o : Ok X G cc nL own F Lo) {index : Nat} (hw : Cond.fieldLink own index "RoundRows" "later" "LRoundRows$Later;" ∈ TT) (d : decode cc pc = .ok (.getfield index, 3)) (kk : WS X G nL σ (pc + 3) lv (.ref (gad G 6) :: st)) : WS X G nL σ pc lv (.ref (gad G 0) :: st) := r_get o (C := RX9) (T := TX9) (N := 11) inX9 (by decide) rfl rfl 6 (by decide) rfl hw rfl d kk
theorem gf_0_7 (o : Ok X G cc nL own F Lo) {index : Nat} (hw : Cond.fieldLink own index "RoundRows" "fraction" "LRoundRows$Fraction;" ∈ TT) (d : decode cc pc = .ok (.getfield index, 3)) (kk : WS X G nL σ (pc + 3) lv (.ref (gad G 7) :: st)) : WS X G nL σ pc lv (.ref (gad G 0) :: st) := r_get o (C := RX9) (T := TX9) (N := 11) inX9 (by decide) rfl rfl 7 (by decide) rfl hw rfl d kk
theorem gf_0_8 (o : Ok X G cc nL own F Lo) {index : Nat} (hw : Cond.fieldLink own index "RoundRows" "otherFraction" "LRoundRows$Fraction;" ∈ TT) (d : decode cc pc = .ok (.getfield index, 3)) (kk : WS X G nL σ (pc + 3) lv (.ref (gad G 8) :: st)) : WS X G nL σ pc lv (.ref (gad G 0) :: st) := r_get o (C := RX9) (T := TX9) (N := 11) inX9 (by decide) rfl rfl 8 (by decide) rfl hw rfl d kk
theorem gf_0_9 (o : Ok X G cc nL own F Lo) {index : Nat} (hw : Cond.fieldLink own index "RoundRows" "drawer" "LRoundRows$Drawer;" ∈ TT) (d : decode cc pc = .ok (.getfield index, 3)) (kk : WS X G nL σ (pc + 3) lv (.ref (gad G 9) :: st)) : WS X G nL σ pc lv (.ref (gad G 0) :: st) := r_get o (C := RX9) (T := TX9) (N := 11) inX9 (by decide) rfl rfl 9 (by decide) rfl hw rfl d kk
theorem gf_0_10 (o : Ok X G cc nL own F Lo) {index : Nat} (hw : Cond.fieldLink own index "RoundRows" "readers" "LRoundRows$Readers;" ∈ TT) (d : decode cc pc = .ok (.getfield index, 3)) (kk : WS X G nL σ (pc + 3) lv (.ref (gad G 10) :: st)) : WS X G nL σ pc lv (.ref (gad G 0) :: st) := r_get o (C := RX9) (T := TX9) (N := 11) inX9 (by decide) rfl rfl 10 (by decide) rfl hw rfl d kk
theorem gf_1_0 (o : Ok X G cc nL own F Lo) {index : Nat} (hw : Cond.fieldLink own index "RoundRows$Pad" "signs" "[I" ∈ TT) (d : decode cc pc = .ok (.getfield index, 3)) (kk : WS X G nL σ (pc + 3) lv (.ref (gad G 19) :: st)) : WS X G nL σ pc lv (.ref (gad G 1) :: st) := r_get o (C := RX5) (T := TX5) (N := 2) inX5 (by decide) rfl rfl 0 (by decide) rfl hw rfl d kk
theorem gf_1_1 (o : Ok X G cc nL own F Lo) {index : Nat} {v : Int32} (hv : (σ 1).1 1 = v) (hw : Cond.fieldLink own index "RoundRows$Pad" "count" "I" ∈ TT) (d : decode cc pc = .ok (.getfield index, 3)) (kk : WS X G nL σ (pc + 3) lv (.int v :: st)) : WS X G nL σ pc lv (.ref (gad G 1) :: st) := by
  subst hv
  exact r_get o (C := RX5) (T := TX5) (N := 2) inX5 (by decide) rfl rfl 1 (by decide) rfl hw rfl d kk
theorem pf_1_1 (o : Ok X G cc nL own F Lo) {index : Nat} {v : Int32} (hw : Cond.fieldLink own index "RoundRows$Pad" "count" "I" ∈ TT) (d : decode cc pc = .ok (.putfield index, 3)) (kk : WS X G nL (sti σ 1 1 v) (pc + 3) lv st) : WS X G nL σ pc lv (.int v :: .ref (gad G 1) :: st) := r_puti o (C := RX5) (T := TX5) (N := 2) inX5 tyX5 tyX5_ok nmX5 (by decide) rfl rfl 1 (by decide) rfl hw rfl rfl (Nat.le_of_ble_eq_true rfl) rfl d kk
theorem gfN_1_1 (o : Ok X G cc nL own F Lo) {index : Nat} {v : Int32} (hv : (σ 1).1 1 = v) (hw : Cond.fieldLinkNest own index "RoundRows$Pad" "count" "I" "RoundRows" ∈ TT) (d : decode cc pc = .ok (.getfield index, 3)) (kk : WS X G nL σ (pc + 3) lv (.int v :: st)) : WS X G nL σ pc lv (.ref (gad G 1) :: st) := by
  subst hv
  exact r_getN o (C := RX5) (T := TX5) (N := 2) inX5 (by decide) rfl rfl 1 (by decide) rfl hw rfl d kk
theorem pfN_1_1 (o : Ok X G cc nL own F Lo) {index : Nat} {v : Int32} (hw : Cond.fieldLinkNest own index "RoundRows$Pad" "count" "I" "RoundRows" ∈ TT) (d : decode cc pc = .ok (.putfield index, 3)) (kk : WS X G nL (sti σ 1 1 v) (pc + 3) lv st) : WS X G nL σ pc lv (.int v :: .ref (gad G 1) :: st) := r_putNi o (C := RX5) (T := TX5) (N := 2) inX5 tyX5 tyX5_ok nmX5 (by decide) rfl rfl 1 (by decide) rfl hw rfl rfl (Nat.le_of_ble_eq_true rfl) rfl d kk
theorem gf_2_0 (o : Ok X G cc nL own F Lo) {index : Nat} (hw : Cond.fieldLink own index "RoundRows$Dealt" "byYear" "[I" ∈ TT) (d : decode cc pc = .ok (.getfield index, 3)) (kk : WS X G nL σ (pc + 3) lv (.ref (gad G 20) :: st)) : WS X G nL σ pc lv (.ref (gad G 2) :: st) := r_get o (C := RX0) (T := TX0) (N := 4) inX0 (by decide) rfl rfl 0 (by decide) rfl hw rfl d kk
theorem gfN_2_0 (o : Ok X G cc nL own F Lo) {index : Nat} (hw : Cond.fieldLinkNest own index "RoundRows$Dealt" "byYear" "[I" "RoundRows" ∈ TT) (d : decode cc pc = .ok (.getfield index, 3)) (kk : WS X G nL σ (pc + 3) lv (.ref (gad G 20) :: st)) : WS X G nL σ pc lv (.ref (gad G 2) :: st) := r_getN o (C := RX0) (T := TX0) (N := 4) inX0 (by decide) rfl rfl 0 (by decide) rfl hw rfl d kk
theorem gf_2_1 (o : Ok X G cc nL own F Lo) {index : Nat} (hw : Cond.fieldLink own index "RoundRows$Dealt" "numbers" "[I" ∈ TT) (d : decode cc pc = .ok (.getfield index, 3)) (kk : WS X G nL σ (pc + 3) lv (.ref (gad G 21) :: st)) : WS X G nL σ pc lv (.ref (gad G 2) :: st) := r_get o (C := RX0) (T := TX0) (N := 4) inX0 (by decide) rfl rfl 1 (by decide) rfl hw rfl d kk
theorem gfN_2_1 (o : Ok X G cc nL own F Lo) {index : Nat} (hw : Cond.fieldLinkNest own index "RoundRows$Dealt" "numbers" "[I" "RoundRows" ∈ TT) (d : decode cc pc = .ok (.getfield index, 3)) (kk : WS X G nL σ (pc + 3) lv (.ref (gad G 21) :: st)) : WS X G nL σ pc lv (.ref (gad G 2) :: st) := r_getN o (C := RX0) (T := TX0) (N := 4) inX0 (by decide) rfl rfl 1 (by decide) rfl hw rfl d kk
theorem gf_2_2 (o : Ok X G cc nL own F Lo) {index : Nat} (hw : Cond.fieldLink own index "RoundRows$Dealt" "years" "[I" ∈ TT) (d : decode cc pc = .ok (.getfield index, 3)) (kk : WS X G nL σ (pc + 3) lv (.ref (gad G 22) :: st)) : WS X G nL σ pc lv (.ref (gad G 2) :: st) := r_get o (C := RX0) (T := TX0) (N := 4) inX0 (by decide) rfl rfl 2 (by decide) rfl hw rfl d kk
theorem gfN_2_2 (o : Ok X G cc nL own F Lo) {index : Nat} (hw : Cond.fieldLinkNest own index "RoundRows$Dealt" "years" "[I" "RoundRows" ∈ TT) (d : decode cc pc = .ok (.getfield index, 3)) (kk : WS X G nL σ (pc + 3) lv (.ref (gad G 22) :: st)) : WS X G nL σ pc lv (.ref (gad G 2) :: st) := r_getN o (C := RX0) (T := TX0) (N := 4) inX0 (by decide) rfl rfl 2 (by decide) rfl hw rfl d kk
theorem gf_2_3 (o : Ok X G cc nL own F Lo) {index : Nat} {v : Int32} (hv : (σ 2).1 3 = v) (hw : Cond.fieldLink own index "RoundRows$Dealt" "n" "I" ∈ TT) (d : decode cc pc = .ok (.getfield index, 3)) (kk : WS X G nL σ (pc + 3) lv (.int v :: st)) : WS X G nL σ pc lv (.ref (gad G 2) :: st) := by
  subst hv
  exact r_get o (C := RX0) (T := TX0) (N := 4) inX0 (by decide) rfl rfl 3 (by decide) rfl hw rfl d kk
theorem pf_2_3 (o : Ok X G cc nL own F Lo) {index : Nat} {v : Int32} (hw : Cond.fieldLink own index "RoundRows$Dealt" "n" "I" ∈ TT) (d : decode cc pc = .ok (.putfield index, 3)) (kk : WS X G nL (sti σ 2 3 v) (pc + 3) lv st) : WS X G nL σ pc lv (.int v :: .ref (gad G 2) :: st) := r_puti o (C := RX0) (T := TX0) (N := 4) inX0 tyX0 tyX0_ok nmX0 (by decide) rfl rfl 3 (by decide) rfl hw rfl rfl (Nat.le_of_ble_eq_true rfl) rfl d kk
theorem gfN_2_3 (o : Ok X G cc nL own F Lo) {index : Nat} {v : Int32} (hv : (σ 2).1 3 = v) (hw : Cond.fieldLinkNest own index "RoundRows$Dealt" "n" "I" "RoundRows" ∈ TT) (d : decode cc pc = .ok (.getfield index, 3)) (kk : WS X G nL σ (pc + 3) lv (.int v :: st)) : WS X G nL σ pc lv (.ref (gad G 2) :: st) := by
  subst hv
  exact r_getN o (C := RX0) (T := TX0) (N := 4) inX0 (by decide) rfl rfl 3 (by decide) rfl hw rfl d kk
theorem pfN_2_3 (o : Ok X G cc nL own F Lo) {index : Nat} {v : Int32} (hw : Cond.fieldLinkNest own index "RoundRows$Dealt" "n" "I" "RoundRows" ∈ TT) (d : decode cc pc = .ok (.putfield index, 3)) (kk : WS X G nL (sti σ 2 3 v) (pc + 3) lv st) : WS X G nL σ pc lv (.int v :: .ref (gad G 2) :: st) := r_putNi o (C := RX0) (T := TX0) (N := 4) inX0 tyX0 tyX0_ok nmX0 (by decide) rfl rfl 3 (by decide) rfl hw rfl rfl (Nat.le_of_ble_eq_true rfl) rfl d kk
theorem gf_3_0 (o : Ok X G cc nL own F Lo) {index : Nat} (hw : Cond.fieldLink own index "RoundRows$Dealt" "byYear" "[I" ∈ TT) (d : decode cc pc = .ok (.getfield index, 3)) (kk : WS X G nL σ (pc + 3) lv (.ref (gad G 23) :: st)) : WS X G nL σ pc lv (.ref (gad G 3) :: st) := r_get o (C := RX0) (T := TX0) (N := 4) inX0 (by decide) rfl rfl 0 (by decide) rfl hw rfl d kk
theorem gfN_3_0 (o : Ok X G cc nL own F Lo) {index : Nat} (hw : Cond.fieldLinkNest own index "RoundRows$Dealt" "byYear" "[I" "RoundRows" ∈ TT) (d : decode cc pc = .ok (.getfield index, 3)) (kk : WS X G nL σ (pc + 3) lv (.ref (gad G 23) :: st)) : WS X G nL σ pc lv (.ref (gad G 3) :: st) := r_getN o (C := RX0) (T := TX0) (N := 4) inX0 (by decide) rfl rfl 0 (by decide) rfl hw rfl d kk
theorem gf_3_1 (o : Ok X G cc nL own F Lo) {index : Nat} (hw : Cond.fieldLink own index "RoundRows$Dealt" "numbers" "[I" ∈ TT) (d : decode cc pc = .ok (.getfield index, 3)) (kk : WS X G nL σ (pc + 3) lv (.ref (gad G 24) :: st)) : WS X G nL σ pc lv (.ref (gad G 3) :: st) := r_get o (C := RX0) (T := TX0) (N := 4) inX0 (by decide) rfl rfl 1 (by decide) rfl hw rfl d kk
theorem gfN_3_1 (o : Ok X G cc nL own F Lo) {index : Nat} (hw : Cond.fieldLinkNest own index "RoundRows$Dealt" "numbers" "[I" "RoundRows" ∈ TT) (d : decode cc pc = .ok (.getfield index, 3)) (kk : WS X G nL σ (pc + 3) lv (.ref (gad G 24) :: st)) : WS X G nL σ pc lv (.ref (gad G 3) :: st) := r_getN o (C := RX0) (T := TX0) (N := 4) inX0 (by decide) rfl rfl 1 (by decide) rfl hw rfl d kk
theorem gf_3_2 (o : Ok X G cc nL own F Lo) {index : Nat} (hw : Cond.fieldLink own index "RoundRows$Dealt" "years" "[I" ∈ TT) (d : decode cc pc = .ok (.getfield index, 3)) (kk : WS X G nL σ (pc + 3) lv (.ref (gad G 25) :: st)) : WS X G nL σ pc lv (.ref (gad G 3) :: st) := r_get o (C := RX0) (T := TX0) (N := 4) inX0 (by decide) rfl rfl 2 (by decide) rfl hw rfl d kk
theorem gfN_3_2 (o : Ok X G cc nL own F Lo) {index : Nat} (hw : Cond.fieldLinkNest own index "RoundRows$Dealt" "years" "[I" "RoundRows" ∈ TT) (d : decode cc pc = .ok (.getfield index, 3)) (kk : WS X G nL σ (pc + 3) lv (.ref (gad G 25) :: st)) : WS X G nL σ pc lv (.ref (gad G 3) :: st) := r_getN o (C := RX0) (T := TX0) (N := 4) inX0 (by decide) rfl rfl 2 (by decide) rfl hw rfl d kk
theorem gf_3_3 (o : Ok X G cc nL own F Lo) {index : Nat} {v : Int32} (hv : (σ 3).1 3 = v) (hw : Cond.fieldLink own index "RoundRows$Dealt" "n" "I" ∈ TT) (d : decode cc pc = .ok (.getfield index, 3)) (kk : WS X G nL σ (pc + 3) lv (.int v :: st)) : WS X G nL σ pc lv (.ref (gad G 3) :: st) := by
  subst hv
  exact r_get o (C := RX0) (T := TX0) (N := 4) inX0 (by decide) rfl rfl 3 (by decide) rfl hw rfl d kk
theorem pf_3_3 (o : Ok X G cc nL own F Lo) {index : Nat} {v : Int32} (hw : Cond.fieldLink own index "RoundRows$Dealt" "n" "I" ∈ TT) (d : decode cc pc = .ok (.putfield index, 3)) (kk : WS X G nL (sti σ 3 3 v) (pc + 3) lv st) : WS X G nL σ pc lv (.int v :: .ref (gad G 3) :: st) := r_puti o (C := RX0) (T := TX0) (N := 4) inX0 tyX0 tyX0_ok nmX0 (by decide) rfl rfl 3 (by decide) rfl hw rfl rfl (Nat.le_of_ble_eq_true rfl) rfl d kk
theorem gfN_3_3 (o : Ok X G cc nL own F Lo) {index : Nat} {v : Int32} (hv : (σ 3).1 3 = v) (hw : Cond.fieldLinkNest own index "RoundRows$Dealt" "n" "I" "RoundRows" ∈ TT) (d : decode cc pc = .ok (.getfield index, 3)) (kk : WS X G nL σ (pc + 3) lv (.int v :: st)) : WS X G nL σ pc lv (.ref (gad G 3) :: st) := by
  subst hv
  exact r_getN o (C := RX0) (T := TX0) (N := 4) inX0 (by decide) rfl rfl 3 (by decide) rfl hw rfl d kk
theorem pfN_3_3 (o : Ok X G cc nL own F Lo) {index : Nat} {v : Int32} (hw : Cond.fieldLinkNest own index "RoundRows$Dealt" "n" "I" "RoundRows" ∈ TT) (d : decode cc pc = .ok (.putfield index, 3)) (kk : WS X G nL (sti σ 3 3 v) (pc + 3) lv st) : WS X G nL σ pc lv (.int v :: .ref (gad G 3) :: st) := r_putNi o (C := RX0) (T := TX0) (N := 4) inX0 tyX0 tyX0_ok nmX0 (by decide) rfl rfl 3 (by decide) rfl hw rfl rfl (Nat.le_of_ble_eq_true rfl) rfl d kk
theorem gf_4_0 (o : Ok X G cc nL own F Lo) {index : Nat} (hw : Cond.fieldLink own index "RoundRows$Rounds" "ofLength" "[LRoundRows$Round;" ∈ TT) (d : decode cc pc = .ok (.getfield index, 3)) (kk : WS X G nL σ (pc + 3) lv (.ref (gad G 31) :: st)) : WS X G nL σ pc lv (.ref (gad G 4) :: st) := r_get o (C := RX8) (T := TX8) (N := 3) inX8 (by decide) rfl rfl 0 (by decide) rfl hw rfl d kk
theorem gf_4_1 (o : Ok X G cc nL own F Lo) {index : Nat} {v : Int32} (hv : (σ 4).1 1 = v) (hw : Cond.fieldLink own index "RoundRows$Rounds" "from" "I" ∈ TT) (d : decode cc pc = .ok (.getfield index, 3)) (kk : WS X G nL σ (pc + 3) lv (.int v :: st)) : WS X G nL σ pc lv (.ref (gad G 4) :: st) := by
  subst hv
  exact r_get o (C := RX8) (T := TX8) (N := 3) inX8 (by decide) rfl rfl 1 (by decide) rfl hw rfl d kk
theorem pf_4_1 (o : Ok X G cc nL own F Lo) {index : Nat} {v : Int32} (hw : Cond.fieldLink own index "RoundRows$Rounds" "from" "I" ∈ TT) (d : decode cc pc = .ok (.putfield index, 3)) (kk : WS X G nL (sti σ 4 1 v) (pc + 3) lv st) : WS X G nL σ pc lv (.int v :: .ref (gad G 4) :: st) := r_puti o (C := RX8) (T := TX8) (N := 3) inX8 tyX8 tyX8_ok nmX8 (by decide) rfl rfl 1 (by decide) rfl hw rfl rfl (Nat.le_of_ble_eq_true rfl) rfl d kk
theorem gf_4_2 (o : Ok X G cc nL own F Lo) {index : Nat} {v : Int32} (hv : (σ 4).1 2 = v) (hw : Cond.fieldLink own index "RoundRows$Rounds" "to" "I" ∈ TT) (d : decode cc pc = .ok (.getfield index, 3)) (kk : WS X G nL σ (pc + 3) lv (.int v :: st)) : WS X G nL σ pc lv (.ref (gad G 4) :: st) := by
  subst hv
  exact r_get o (C := RX8) (T := TX8) (N := 3) inX8 (by decide) rfl rfl 2 (by decide) rfl hw rfl d kk
theorem pf_4_2 (o : Ok X G cc nL own F Lo) {index : Nat} {v : Int32} (hw : Cond.fieldLink own index "RoundRows$Rounds" "to" "I" ∈ TT) (d : decode cc pc = .ok (.putfield index, 3)) (kk : WS X G nL (sti σ 4 2 v) (pc + 3) lv st) : WS X G nL σ pc lv (.int v :: .ref (gad G 4) :: st) := r_puti o (C := RX8) (T := TX8) (N := 3) inX8 tyX8 tyX8_ok nmX8 (by decide) rfl rfl 2 (by decide) rfl hw rfl rfl (Nat.le_of_ble_eq_true rfl) rfl d kk
theorem gf_5_0 (o : Ok X G cc nL own F Lo) {index : Nat} (hw : Cond.fieldLink own index "RoundRows$Orders" "numbers" "[I" ∈ TT) (d : decode cc pc = .ok (.getfield index, 3)) (kk : WS X G nL σ (pc + 3) lv (.ref (gad G 26) :: st)) : WS X G nL σ pc lv (.ref (gad G 5) :: st) := r_get o (C := RX4) (T := TX4) (N := 3) inX4 (by decide) rfl rfl 0 (by decide) rfl hw rfl d kk
theorem gfN_5_0 (o : Ok X G cc nL own F Lo) {index : Nat} (hw : Cond.fieldLinkNest own index "RoundRows$Orders" "numbers" "[I" "RoundRows" ∈ TT) (d : decode cc pc = .ok (.getfield index, 3)) (kk : WS X G nL σ (pc + 3) lv (.ref (gad G 26) :: st)) : WS X G nL σ pc lv (.ref (gad G 5) :: st) := r_getN o (C := RX4) (T := TX4) (N := 3) inX4 (by decide) rfl rfl 0 (by decide) rfl hw rfl d kk
theorem gf_5_1 (o : Ok X G cc nL own F Lo) {index : Nat} {v : Int32} (hv : (σ 5).1 1 = v) (hw : Cond.fieldLink own index "RoundRows$Orders" "n" "I" ∈ TT) (d : decode cc pc = .ok (.getfield index, 3)) (kk : WS X G nL σ (pc + 3) lv (.int v :: st)) : WS X G nL σ pc lv (.ref (gad G 5) :: st) := by
  subst hv
  exact r_get o (C := RX4) (T := TX4) (N := 3) inX4 (by decide) rfl rfl 1 (by decide) rfl hw rfl d kk
theorem pf_5_1 (o : Ok X G cc nL own F Lo) {index : Nat} {v : Int32} (hw : Cond.fieldLink own index "RoundRows$Orders" "n" "I" ∈ TT) (d : decode cc pc = .ok (.putfield index, 3)) (kk : WS X G nL (sti σ 5 1 v) (pc + 3) lv st) : WS X G nL σ pc lv (.int v :: .ref (gad G 5) :: st) := r_puti o (C := RX4) (T := TX4) (N := 3) inX4 tyX4 tyX4_ok nmX4 (by decide) rfl rfl 1 (by decide) rfl hw rfl rfl (Nat.le_of_ble_eq_true rfl) rfl d kk
theorem gf_5_2 (o : Ok X G cc nL own F Lo) {index : Nat} {v : Int64} (hv : (σ 5).2 2 = v) (hw : Cond.fieldLink own index "RoundRows$Orders" "seed" "J" ∈ TT) (d : decode cc pc = .ok (.getfield index, 3)) (kk : WS X G nL σ (pc + 3) lv (.long v :: st)) : WS X G nL σ pc lv (.ref (gad G 5) :: st) := by
  subst hv
  exact r_get o (C := RX4) (T := TX4) (N := 3) inX4 (by decide) rfl rfl 2 (by decide) rfl hw rfl d kk
theorem pf_5_2 (o : Ok X G cc nL own F Lo) {index : Nat} {v : Int64} (hw : Cond.fieldLink own index "RoundRows$Orders" "seed" "J" ∈ TT) (d : decode cc pc = .ok (.putfield index, 3)) (kk : WS X G nL (stl σ 5 2 v) (pc + 3) lv st) : WS X G nL σ pc lv (.long v :: .ref (gad G 5) :: st) := r_putl o (C := RX4) (T := TX4) (N := 3) inX4 tyX4 tyX4_ok nmX4 (by decide) rfl rfl 2 (by decide) rfl hw rfl rfl (Nat.le_of_ble_eq_true rfl) rfl d kk
theorem gf_6_0 (o : Ok X G cc nL own F Lo) {index : Nat} {v : Int32} (hv : (σ 6).1 0 = v) (hw : Cond.fieldLink own index "RoundRows$Later" "length" "I" ∈ TT) (d : decode cc pc = .ok (.getfield index, 3)) (kk : WS X G nL σ (pc + 3) lv (.int v :: st)) : WS X G nL σ pc lv (.ref (gad G 6) :: st) := by
  subst hv
  exact r_get o (C := RX3) (T := TX3) (N := 3) inX3 (by decide) rfl rfl 0 (by decide) rfl hw rfl d kk
theorem pf_6_0 (o : Ok X G cc nL own F Lo) {index : Nat} {v : Int32} (hw : Cond.fieldLink own index "RoundRows$Later" "length" "I" ∈ TT) (d : decode cc pc = .ok (.putfield index, 3)) (kk : WS X G nL (sti σ 6 0 v) (pc + 3) lv st) : WS X G nL σ pc lv (.int v :: .ref (gad G 6) :: st) := r_puti o (C := RX3) (T := TX3) (N := 3) inX3 tyX3 tyX3_ok nmX3 (by decide) rfl rfl 0 (by decide) rfl hw rfl rfl (Nat.le_of_ble_eq_true rfl) rfl d kk
theorem gfN_6_0 (o : Ok X G cc nL own F Lo) {index : Nat} {v : Int32} (hv : (σ 6).1 0 = v) (hw : Cond.fieldLinkNest own index "RoundRows$Later" "length" "I" "RoundRows" ∈ TT) (d : decode cc pc = .ok (.getfield index, 3)) (kk : WS X G nL σ (pc + 3) lv (.int v :: st)) : WS X G nL σ pc lv (.ref (gad G 6) :: st) := by
  subst hv
  exact r_getN o (C := RX3) (T := TX3) (N := 3) inX3 (by decide) rfl rfl 0 (by decide) rfl hw rfl d kk
theorem pfN_6_0 (o : Ok X G cc nL own F Lo) {index : Nat} {v : Int32} (hw : Cond.fieldLinkNest own index "RoundRows$Later" "length" "I" "RoundRows" ∈ TT) (d : decode cc pc = .ok (.putfield index, 3)) (kk : WS X G nL (sti σ 6 0 v) (pc + 3) lv st) : WS X G nL σ pc lv (.int v :: .ref (gad G 6) :: st) := r_putNi o (C := RX3) (T := TX3) (N := 3) inX3 tyX3 tyX3_ok nmX3 (by decide) rfl rfl 0 (by decide) rfl hw rfl rfl (Nat.le_of_ble_eq_true rfl) rfl d kk
theorem gf_6_1 (o : Ok X G cc nL own F Lo) {index : Nat} {v : Int32} (hv : (σ 6).1 1 = v) (hw : Cond.fieldLink own index "RoundRows$Later" "held" "I" ∈ TT) (d : decode cc pc = .ok (.getfield index, 3)) (kk : WS X G nL σ (pc + 3) lv (.int v :: st)) : WS X G nL σ pc lv (.ref (gad G 6) :: st) := by
  subst hv
  exact r_get o (C := RX3) (T := TX3) (N := 3) inX3 (by decide) rfl rfl 1 (by decide) rfl hw rfl d kk
theorem pf_6_1 (o : Ok X G cc nL own F Lo) {index : Nat} {v : Int32} (hw : Cond.fieldLink own index "RoundRows$Later" "held" "I" ∈ TT) (d : decode cc pc = .ok (.putfield index, 3)) (kk : WS X G nL (sti σ 6 1 v) (pc + 3) lv st) : WS X G nL σ pc lv (.int v :: .ref (gad G 6) :: st) := r_puti o (C := RX3) (T := TX3) (N := 3) inX3 tyX3 tyX3_ok nmX3 (by decide) rfl rfl 1 (by decide) rfl hw rfl rfl (Nat.le_of_ble_eq_true rfl) rfl d kk
theorem gfN_6_1 (o : Ok X G cc nL own F Lo) {index : Nat} {v : Int32} (hv : (σ 6).1 1 = v) (hw : Cond.fieldLinkNest own index "RoundRows$Later" "held" "I" "RoundRows" ∈ TT) (d : decode cc pc = .ok (.getfield index, 3)) (kk : WS X G nL σ (pc + 3) lv (.int v :: st)) : WS X G nL σ pc lv (.ref (gad G 6) :: st) := by
  subst hv
  exact r_getN o (C := RX3) (T := TX3) (N := 3) inX3 (by decide) rfl rfl 1 (by decide) rfl hw rfl d kk
theorem pfN_6_1 (o : Ok X G cc nL own F Lo) {index : Nat} {v : Int32} (hw : Cond.fieldLinkNest own index "RoundRows$Later" "held" "I" "RoundRows" ∈ TT) (d : decode cc pc = .ok (.putfield index, 3)) (kk : WS X G nL (sti σ 6 1 v) (pc + 3) lv st) : WS X G nL σ pc lv (.int v :: .ref (gad G 6) :: st) := r_putNi o (C := RX3) (T := TX3) (N := 3) inX3 tyX3 tyX3_ok nmX3 (by decide) rfl rfl 1 (by decide) rfl hw rfl rfl (Nat.le_of_ble_eq_true rfl) rfl d kk
theorem gf_6_2 (o : Ok X G cc nL own F Lo) {index : Nat} {v : Int32} (hv : (σ 6).1 2 = v) (hw : Cond.fieldLink own index "RoundRows$Later" "counted" "I" ∈ TT) (d : decode cc pc = .ok (.getfield index, 3)) (kk : WS X G nL σ (pc + 3) lv (.int v :: st)) : WS X G nL σ pc lv (.ref (gad G 6) :: st) := by
  subst hv
  exact r_get o (C := RX3) (T := TX3) (N := 3) inX3 (by decide) rfl rfl 2 (by decide) rfl hw rfl d kk
theorem pf_6_2 (o : Ok X G cc nL own F Lo) {index : Nat} {v : Int32} (hw : Cond.fieldLink own index "RoundRows$Later" "counted" "I" ∈ TT) (d : decode cc pc = .ok (.putfield index, 3)) (kk : WS X G nL (sti σ 6 2 v) (pc + 3) lv st) : WS X G nL σ pc lv (.int v :: .ref (gad G 6) :: st) := r_puti o (C := RX3) (T := TX3) (N := 3) inX3 tyX3 tyX3_ok nmX3 (by decide) rfl rfl 2 (by decide) rfl hw rfl rfl (Nat.le_of_ble_eq_true rfl) rfl d kk
theorem gfN_6_2 (o : Ok X G cc nL own F Lo) {index : Nat} {v : Int32} (hv : (σ 6).1 2 = v) (hw : Cond.fieldLinkNest own index "RoundRows$Later" "counted" "I" "RoundRows" ∈ TT) (d : decode cc pc = .ok (.getfield index, 3)) (kk : WS X G nL σ (pc + 3) lv (.int v :: st)) : WS X G nL σ pc lv (.ref (gad G 6) :: st) := by
  subst hv
  exact r_getN o (C := RX3) (T := TX3) (N := 3) inX3 (by decide) rfl rfl 2 (by decide) rfl hw rfl d kk
theorem pfN_6_2 (o : Ok X G cc nL own F Lo) {index : Nat} {v : Int32} (hw : Cond.fieldLinkNest own index "RoundRows$Later" "counted" "I" "RoundRows" ∈ TT) (d : decode cc pc = .ok (.putfield index, 3)) (kk : WS X G nL (sti σ 6 2 v) (pc + 3) lv st) : WS X G nL σ pc lv (.int v :: .ref (gad G 6) :: st) := r_putNi o (C := RX3) (T := TX3) (N := 3) inX3 tyX3 tyX3_ok nmX3 (by decide) rfl rfl 2 (by decide) rfl hw rfl rfl (Nat.le_of_ble_eq_true rfl) rfl d kk
theorem gf_7_0 (o : Ok X G cc nL own F Lo) {index : Nat} {v : Int64} (hv : (σ 7).2 0 = v) (hw : Cond.fieldLink own index "RoundRows$Fraction" "upper" "J" ∈ TT) (d : decode cc pc = .ok (.getfield index, 3)) (kk : WS X G nL σ (pc + 3) lv (.long v :: st)) : WS X G nL σ pc lv (.ref (gad G 7) :: st) := by
  subst hv
  exact r_get o (C := RX2) (T := TX2) (N := 2) inX2 (by decide) rfl rfl 0 (by decide) rfl hw rfl d kk
theorem pf_7_0 (o : Ok X G cc nL own F Lo) {index : Nat} {v : Int64} (hw : Cond.fieldLink own index "RoundRows$Fraction" "upper" "J" ∈ TT) (d : decode cc pc = .ok (.putfield index, 3)) (kk : WS X G nL (stl σ 7 0 v) (pc + 3) lv st) : WS X G nL σ pc lv (.long v :: .ref (gad G 7) :: st) := r_putl o (C := RX2) (T := TX2) (N := 2) inX2 tyX2 tyX2_ok nmX2 (by decide) rfl rfl 0 (by decide) rfl hw rfl rfl (Nat.le_of_ble_eq_true rfl) rfl d kk
theorem gf_7_1 (o : Ok X G cc nL own F Lo) {index : Nat} {v : Int64} (hv : (σ 7).2 1 = v) (hw : Cond.fieldLink own index "RoundRows$Fraction" "lower" "J" ∈ TT) (d : decode cc pc = .ok (.getfield index, 3)) (kk : WS X G nL σ (pc + 3) lv (.long v :: st)) : WS X G nL σ pc lv (.ref (gad G 7) :: st) := by
  subst hv
  exact r_get o (C := RX2) (T := TX2) (N := 2) inX2 (by decide) rfl rfl 1 (by decide) rfl hw rfl d kk
theorem pf_7_1 (o : Ok X G cc nL own F Lo) {index : Nat} {v : Int64} (hw : Cond.fieldLink own index "RoundRows$Fraction" "lower" "J" ∈ TT) (d : decode cc pc = .ok (.putfield index, 3)) (kk : WS X G nL (stl σ 7 1 v) (pc + 3) lv st) : WS X G nL σ pc lv (.long v :: .ref (gad G 7) :: st) := r_putl o (C := RX2) (T := TX2) (N := 2) inX2 tyX2 tyX2_ok nmX2 (by decide) rfl rfl 1 (by decide) rfl hw rfl rfl (Nat.le_of_ble_eq_true rfl) rfl d kk
theorem gf_8_0 (o : Ok X G cc nL own F Lo) {index : Nat} {v : Int64} (hv : (σ 8).2 0 = v) (hw : Cond.fieldLink own index "RoundRows$Fraction" "upper" "J" ∈ TT) (d : decode cc pc = .ok (.getfield index, 3)) (kk : WS X G nL σ (pc + 3) lv (.long v :: st)) : WS X G nL σ pc lv (.ref (gad G 8) :: st) := by
  subst hv
  exact r_get o (C := RX2) (T := TX2) (N := 2) inX2 (by decide) rfl rfl 0 (by decide) rfl hw rfl d kk
theorem pf_8_0 (o : Ok X G cc nL own F Lo) {index : Nat} {v : Int64} (hw : Cond.fieldLink own index "RoundRows$Fraction" "upper" "J" ∈ TT) (d : decode cc pc = .ok (.putfield index, 3)) (kk : WS X G nL (stl σ 8 0 v) (pc + 3) lv st) : WS X G nL σ pc lv (.long v :: .ref (gad G 8) :: st) := r_putl o (C := RX2) (T := TX2) (N := 2) inX2 tyX2 tyX2_ok nmX2 (by decide) rfl rfl 0 (by decide) rfl hw rfl rfl (Nat.le_of_ble_eq_true rfl) rfl d kk
theorem gf_8_1 (o : Ok X G cc nL own F Lo) {index : Nat} {v : Int64} (hv : (σ 8).2 1 = v) (hw : Cond.fieldLink own index "RoundRows$Fraction" "lower" "J" ∈ TT) (d : decode cc pc = .ok (.getfield index, 3)) (kk : WS X G nL σ (pc + 3) lv (.long v :: st)) : WS X G nL σ pc lv (.ref (gad G 8) :: st) := by
  subst hv
  exact r_get o (C := RX2) (T := TX2) (N := 2) inX2 (by decide) rfl rfl 1 (by decide) rfl hw rfl d kk
theorem pf_8_1 (o : Ok X G cc nL own F Lo) {index : Nat} {v : Int64} (hw : Cond.fieldLink own index "RoundRows$Fraction" "lower" "J" ∈ TT) (d : decode cc pc = .ok (.putfield index, 3)) (kk : WS X G nL (stl σ 8 1 v) (pc + 3) lv st) : WS X G nL σ pc lv (.long v :: .ref (gad G 8) :: st) := r_putl o (C := RX2) (T := TX2) (N := 2) inX2 tyX2 tyX2_ok nmX2 (by decide) rfl rfl 1 (by decide) rfl hw rfl rfl (Nat.le_of_ble_eq_true rfl) rfl d kk
theorem gf_9_0 (o : Ok X G cc nL own F Lo) {index : Nat} (hw : Cond.fieldLink own index "RoundRows$Drawer" "rowOf" "[I" ∈ TT) (d : decode cc pc = .ok (.getfield index, 3)) (kk : WS X G nL σ (pc + 3) lv (.ref (gad G 27) :: st)) : WS X G nL σ pc lv (.ref (gad G 9) :: st) := r_get o (C := RX1) (T := TX1) (N := 6) inX1 (by decide) rfl rfl 0 (by decide) rfl hw rfl d kk
theorem gfN_9_0 (o : Ok X G cc nL own F Lo) {index : Nat} (hw : Cond.fieldLinkNest own index "RoundRows$Drawer" "rowOf" "[I" "RoundRows" ∈ TT) (d : decode cc pc = .ok (.getfield index, 3)) (kk : WS X G nL σ (pc + 3) lv (.ref (gad G 27) :: st)) : WS X G nL σ pc lv (.ref (gad G 9) :: st) := r_getN o (C := RX1) (T := TX1) (N := 6) inX1 (by decide) rfl rfl 0 (by decide) rfl hw rfl d kk
theorem gf_9_1 (o : Ok X G cc nL own F Lo) {index : Nat} (hw : Cond.fieldLink own index "RoundRows$Drawer" "lengthOf" "[I" ∈ TT) (d : decode cc pc = .ok (.getfield index, 3)) (kk : WS X G nL σ (pc + 3) lv (.ref (gad G 28) :: st)) : WS X G nL σ pc lv (.ref (gad G 9) :: st) := r_get o (C := RX1) (T := TX1) (N := 6) inX1 (by decide) rfl rfl 1 (by decide) rfl hw rfl d kk
theorem gfN_9_1 (o : Ok X G cc nL own F Lo) {index : Nat} (hw : Cond.fieldLinkNest own index "RoundRows$Drawer" "lengthOf" "[I" "RoundRows" ∈ TT) (d : decode cc pc = .ok (.getfield index, 3)) (kk : WS X G nL σ (pc + 3) lv (.ref (gad G 28) :: st)) : WS X G nL σ pc lv (.ref (gad G 9) :: st) := r_getN o (C := RX1) (T := TX1) (N := 6) inX1 (by decide) rfl rfl 1 (by decide) rfl hw rfl d kk
theorem gf_9_2 (o : Ok X G cc nL own F Lo) {index : Nat} (hw : Cond.fieldLink own index "RoundRows$Drawer" "percentOf" "[I" ∈ TT) (d : decode cc pc = .ok (.getfield index, 3)) (kk : WS X G nL σ (pc + 3) lv (.ref (gad G 29) :: st)) : WS X G nL σ pc lv (.ref (gad G 9) :: st) := r_get o (C := RX1) (T := TX1) (N := 6) inX1 (by decide) rfl rfl 2 (by decide) rfl hw rfl d kk
theorem gfN_9_2 (o : Ok X G cc nL own F Lo) {index : Nat} (hw : Cond.fieldLinkNest own index "RoundRows$Drawer" "percentOf" "[I" "RoundRows" ∈ TT) (d : decode cc pc = .ok (.getfield index, 3)) (kk : WS X G nL σ (pc + 3) lv (.ref (gad G 29) :: st)) : WS X G nL σ pc lv (.ref (gad G 9) :: st) := r_getN o (C := RX1) (T := TX1) (N := 6) inX1 (by decide) rfl rfl 2 (by decide) rfl hw rfl d kk
theorem gf_9_3 (o : Ok X G cc nL own F Lo) {index : Nat} {v : Int32} (hv : (σ 9).1 3 = v) (hw : Cond.fieldLink own index "RoundRows$Drawer" "count" "I" ∈ TT) (d : decode cc pc = .ok (.getfield index, 3)) (kk : WS X G nL σ (pc + 3) lv (.int v :: st)) : WS X G nL σ pc lv (.ref (gad G 9) :: st) := by
  subst hv
  exact r_get o (C := RX1) (T := TX1) (N := 6) inX1 (by decide) rfl rfl 3 (by decide) rfl hw rfl d kk
theorem pf_9_3 (o : Ok X G cc nL own F Lo) {index : Nat} {v : Int32} (hw : Cond.fieldLink own index "RoundRows$Drawer" "count" "I" ∈ TT) (d : decode cc pc = .ok (.putfield index, 3)) (kk : WS X G nL (sti σ 9 3 v) (pc + 3) lv st) : WS X G nL σ pc lv (.int v :: .ref (gad G 9) :: st) := r_puti o (C := RX1) (T := TX1) (N := 6) inX1 tyX1 tyX1_ok nmX1 (by decide) rfl rfl 3 (by decide) rfl hw rfl rfl (Nat.le_of_ble_eq_true rfl) rfl d kk
theorem gfN_9_3 (o : Ok X G cc nL own F Lo) {index : Nat} {v : Int32} (hv : (σ 9).1 3 = v) (hw : Cond.fieldLinkNest own index "RoundRows$Drawer" "count" "I" "RoundRows" ∈ TT) (d : decode cc pc = .ok (.getfield index, 3)) (kk : WS X G nL σ (pc + 3) lv (.int v :: st)) : WS X G nL σ pc lv (.ref (gad G 9) :: st) := by
  subst hv
  exact r_getN o (C := RX1) (T := TX1) (N := 6) inX1 (by decide) rfl rfl 3 (by decide) rfl hw rfl d kk
theorem pfN_9_3 (o : Ok X G cc nL own F Lo) {index : Nat} {v : Int32} (hw : Cond.fieldLinkNest own index "RoundRows$Drawer" "count" "I" "RoundRows" ∈ TT) (d : decode cc pc = .ok (.putfield index, 3)) (kk : WS X G nL (sti σ 9 3 v) (pc + 3) lv st) : WS X G nL σ pc lv (.int v :: .ref (gad G 9) :: st) := r_putNi o (C := RX1) (T := TX1) (N := 6) inX1 tyX1 tyX1_ok nmX1 (by decide) rfl rfl 3 (by decide) rfl hw rfl rfl (Nat.le_of_ble_eq_true rfl) rfl d kk
theorem gf_9_4 (o : Ok X G cc nL own F Lo) {index : Nat} {v : Int32} (hv : (σ 9).1 4 = v) (hw : Cond.fieldLink own index "RoundRows$Drawer" "printed" "I" ∈ TT) (d : decode cc pc = .ok (.getfield index, 3)) (kk : WS X G nL σ (pc + 3) lv (.int v :: st)) : WS X G nL σ pc lv (.ref (gad G 9) :: st) := by
  subst hv
  exact r_get o (C := RX1) (T := TX1) (N := 6) inX1 (by decide) rfl rfl 4 (by decide) rfl hw rfl d kk
theorem pf_9_4 (o : Ok X G cc nL own F Lo) {index : Nat} {v : Int32} (hw : Cond.fieldLink own index "RoundRows$Drawer" "printed" "I" ∈ TT) (d : decode cc pc = .ok (.putfield index, 3)) (kk : WS X G nL (sti σ 9 4 v) (pc + 3) lv st) : WS X G nL σ pc lv (.int v :: .ref (gad G 9) :: st) := r_puti o (C := RX1) (T := TX1) (N := 6) inX1 tyX1 tyX1_ok nmX1 (by decide) rfl rfl 4 (by decide) rfl hw rfl rfl (Nat.le_of_ble_eq_true rfl) rfl d kk
theorem gfN_9_4 (o : Ok X G cc nL own F Lo) {index : Nat} {v : Int32} (hv : (σ 9).1 4 = v) (hw : Cond.fieldLinkNest own index "RoundRows$Drawer" "printed" "I" "RoundRows" ∈ TT) (d : decode cc pc = .ok (.getfield index, 3)) (kk : WS X G nL σ (pc + 3) lv (.int v :: st)) : WS X G nL σ pc lv (.ref (gad G 9) :: st) := by
  subst hv
  exact r_getN o (C := RX1) (T := TX1) (N := 6) inX1 (by decide) rfl rfl 4 (by decide) rfl hw rfl d kk
theorem pfN_9_4 (o : Ok X G cc nL own F Lo) {index : Nat} {v : Int32} (hw : Cond.fieldLinkNest own index "RoundRows$Drawer" "printed" "I" "RoundRows" ∈ TT) (d : decode cc pc = .ok (.putfield index, 3)) (kk : WS X G nL (sti σ 9 4 v) (pc + 3) lv st) : WS X G nL σ pc lv (.int v :: .ref (gad G 9) :: st) := r_putNi o (C := RX1) (T := TX1) (N := 6) inX1 tyX1 tyX1_ok nmX1 (by decide) rfl rfl 4 (by decide) rfl hw rfl rfl (Nat.le_of_ble_eq_true rfl) rfl d kk
theorem gf_9_5 (o : Ok X G cc nL own F Lo) {index : Nat} {v : Int32} (hv : (σ 9).1 5 = v) (hw : Cond.fieldLink own index "RoundRows$Drawer" "trueOnes" "I" ∈ TT) (d : decode cc pc = .ok (.getfield index, 3)) (kk : WS X G nL σ (pc + 3) lv (.int v :: st)) : WS X G nL σ pc lv (.ref (gad G 9) :: st) := by
  subst hv
  exact r_get o (C := RX1) (T := TX1) (N := 6) inX1 (by decide) rfl rfl 5 (by decide) rfl hw rfl d kk
theorem pf_9_5 (o : Ok X G cc nL own F Lo) {index : Nat} {v : Int32} (hw : Cond.fieldLink own index "RoundRows$Drawer" "trueOnes" "I" ∈ TT) (d : decode cc pc = .ok (.putfield index, 3)) (kk : WS X G nL (sti σ 9 5 v) (pc + 3) lv st) : WS X G nL σ pc lv (.int v :: .ref (gad G 9) :: st) := r_puti o (C := RX1) (T := TX1) (N := 6) inX1 tyX1 tyX1_ok nmX1 (by decide) rfl rfl 5 (by decide) rfl hw rfl rfl (Nat.le_of_ble_eq_true rfl) rfl d kk
theorem gfN_9_5 (o : Ok X G cc nL own F Lo) {index : Nat} {v : Int32} (hv : (σ 9).1 5 = v) (hw : Cond.fieldLinkNest own index "RoundRows$Drawer" "trueOnes" "I" "RoundRows" ∈ TT) (d : decode cc pc = .ok (.getfield index, 3)) (kk : WS X G nL σ (pc + 3) lv (.int v :: st)) : WS X G nL σ pc lv (.ref (gad G 9) :: st) := by
  subst hv
  exact r_getN o (C := RX1) (T := TX1) (N := 6) inX1 (by decide) rfl rfl 5 (by decide) rfl hw rfl d kk
theorem pfN_9_5 (o : Ok X G cc nL own F Lo) {index : Nat} {v : Int32} (hw : Cond.fieldLinkNest own index "RoundRows$Drawer" "trueOnes" "I" "RoundRows" ∈ TT) (d : decode cc pc = .ok (.putfield index, 3)) (kk : WS X G nL (sti σ 9 5 v) (pc + 3) lv st) : WS X G nL σ pc lv (.int v :: .ref (gad G 9) :: st) := r_putNi o (C := RX1) (T := TX1) (N := 6) inX1 tyX1 tyX1_ok nmX1 (by decide) rfl rfl 5 (by decide) rfl hw rfl rfl (Nat.le_of_ble_eq_true rfl) rfl d kk
theorem gf_10_0 (o : Ok X G cc nL own F Lo) {index : Nat} (hw : Cond.fieldLink own index "RoundRows$Readers" "readBy" "[I" ∈ TT) (d : decode cc pc = .ok (.getfield index, 3)) (kk : WS X G nL σ (pc + 3) lv (.ref (gad G 30) :: st)) : WS X G nL σ pc lv (.ref (gad G 10) :: st) := r_get o (C := RX6) (T := TX6) (N := 2) inX6 (by decide) rfl rfl 0 (by decide) rfl hw rfl d kk
theorem gfN_10_0 (o : Ok X G cc nL own F Lo) {index : Nat} (hw : Cond.fieldLinkNest own index "RoundRows$Readers" "readBy" "[I" "RoundRows" ∈ TT) (d : decode cc pc = .ok (.getfield index, 3)) (kk : WS X G nL σ (pc + 3) lv (.ref (gad G 30) :: st)) : WS X G nL σ pc lv (.ref (gad G 10) :: st) := r_getN o (C := RX6) (T := TX6) (N := 2) inX6 (by decide) rfl rfl 0 (by decide) rfl hw rfl d kk
theorem gf_10_1 (o : Ok X G cc nL own F Lo) {index : Nat} {v : Int32} (hv : (σ 10).1 1 = v) (hw : Cond.fieldLink own index "RoundRows$Readers" "bar" "I" ∈ TT) (d : decode cc pc = .ok (.getfield index, 3)) (kk : WS X G nL σ (pc + 3) lv (.int v :: st)) : WS X G nL σ pc lv (.ref (gad G 10) :: st) := by
  subst hv
  exact r_get o (C := RX6) (T := TX6) (N := 2) inX6 (by decide) rfl rfl 1 (by decide) rfl hw rfl d kk
theorem pf_10_1 (o : Ok X G cc nL own F Lo) {index : Nat} {v : Int32} (hw : Cond.fieldLink own index "RoundRows$Readers" "bar" "I" ∈ TT) (d : decode cc pc = .ok (.putfield index, 3)) (kk : WS X G nL (sti σ 10 1 v) (pc + 3) lv st) : WS X G nL σ pc lv (.int v :: .ref (gad G 10) :: st) := r_puti o (C := RX6) (T := TX6) (N := 2) inX6 tyX6 tyX6_ok nmX6 (by decide) rfl rfl 1 (by decide) rfl hw rfl rfl (Nat.le_of_ble_eq_true rfl) rfl d kk
theorem gfN_10_1 (o : Ok X G cc nL own F Lo) {index : Nat} {v : Int32} (hv : (σ 10).1 1 = v) (hw : Cond.fieldLinkNest own index "RoundRows$Readers" "bar" "I" "RoundRows" ∈ TT) (d : decode cc pc = .ok (.getfield index, 3)) (kk : WS X G nL σ (pc + 3) lv (.int v :: st)) : WS X G nL σ pc lv (.ref (gad G 10) :: st) := by
  subst hv
  exact r_getN o (C := RX6) (T := TX6) (N := 2) inX6 (by decide) rfl rfl 1 (by decide) rfl hw rfl d kk
theorem pfN_10_1 (o : Ok X G cc nL own F Lo) {index : Nat} {v : Int32} (hw : Cond.fieldLinkNest own index "RoundRows$Readers" "bar" "I" "RoundRows" ∈ TT) (d : decode cc pc = .ok (.putfield index, 3)) (kk : WS X G nL (sti σ 10 1 v) (pc + 3) lv st) : WS X G nL σ pc lv (.int v :: .ref (gad G 10) :: st) := r_putNi o (C := RX6) (T := TX6) (N := 2) inX6 tyX6 tyX6_ok nmX6 (by decide) rfl rfl 1 (by decide) rfl hw rfl rfl (Nat.le_of_ble_eq_true rfl) rfl d kk
theorem gf_11_0 (o : Ok X G cc nL own F Lo) {index : Nat} (hw : Cond.fieldLink own index "RoundRowsModel" "years" "[I" ∈ TT) (d : decode cc pc = .ok (.getfield index, 3)) (kk : WS X G nL σ (pc + 3) lv (.ref (gad G 71) :: st)) : WS X G nL σ pc lv (.ref (gad G 11) :: st) := r_get o (C := RX10) (T := TX10) (N := 25) inX10 (by decide) rfl rfl 0 (by decide) rfl hw rfl d kk
theorem gf_11_1 (o : Ok X G cc nL own F Lo) {index : Nat} (hw : Cond.fieldLink own index "RoundRowsModel" "signs" "[I" ∈ TT) (d : decode cc pc = .ok (.getfield index, 3)) (kk : WS X G nL σ (pc + 3) lv (.ref (gad G 72) :: st)) : WS X G nL σ pc lv (.ref (gad G 11) :: st) := r_get o (C := RX10) (T := TX10) (N := 25) inX10 (by decide) rfl rfl 1 (by decide) rfl hw rfl d kk
theorem gf_11_2 (o : Ok X G cc nL own F Lo) {index : Nat} {v : Int32} (hv : (σ 11).1 2 = v) (hw : Cond.fieldLink own index "RoundRowsModel" "signMany" "I" ∈ TT) (d : decode cc pc = .ok (.getfield index, 3)) (kk : WS X G nL σ (pc + 3) lv (.int v :: st)) : WS X G nL σ pc lv (.ref (gad G 11) :: st) := by
  subst hv
  exact r_get o (C := RX10) (T := TX10) (N := 25) inX10 (by decide) rfl rfl 2 (by decide) rfl hw rfl d kk
theorem pf_11_2 (o : Ok X G cc nL own F Lo) {index : Nat} {v : Int32} (hw : Cond.fieldLink own index "RoundRowsModel" "signMany" "I" ∈ TT) (d : decode cc pc = .ok (.putfield index, 3)) (kk : WS X G nL (sti σ 11 2 v) (pc + 3) lv st) : WS X G nL σ pc lv (.int v :: .ref (gad G 11) :: st) := r_puti o (C := RX10) (T := TX10) (N := 25) inX10 tyX10 tyX10_ok nmX10 (by decide) rfl rfl 2 (by decide) rfl hw rfl rfl (Nat.le_of_ble_eq_true rfl) rfl d kk
theorem gf_11_3 (o : Ok X G cc nL own F Lo) {index : Nat} (hw : Cond.fieldLink own index "RoundRowsModel" "row" "[I" ∈ TT) (d : decode cc pc = .ok (.getfield index, 3)) (kk : WS X G nL σ (pc + 3) lv (.ref (gad G 73) :: st)) : WS X G nL σ pc lv (.ref (gad G 11) :: st) := r_get o (C := RX10) (T := TX10) (N := 25) inX10 (by decide) rfl rfl 3 (by decide) rfl hw rfl d kk
theorem gf_11_4 (o : Ok X G cc nL own F Lo) {index : Nat} (hw : Cond.fieldLink own index "RoundRowsModel" "rowWas" "[I" ∈ TT) (d : decode cc pc = .ok (.getfield index, 3)) (kk : WS X G nL σ (pc + 3) lv (.ref (gad G 74) :: st)) : WS X G nL σ pc lv (.ref (gad G 11) :: st) := r_get o (C := RX10) (T := TX10) (N := 25) inX10 (by decide) rfl rfl 4 (by decide) rfl hw rfl d kk
theorem gf_11_5 (o : Ok X G cc nL own F Lo) {index : Nat} (hw : Cond.fieldLink own index "RoundRowsModel" "place" "[I" ∈ TT) (d : decode cc pc = .ok (.getfield index, 3)) (kk : WS X G nL σ (pc + 3) lv (.ref (gad G 75) :: st)) : WS X G nL σ pc lv (.ref (gad G 11) :: st) := r_get o (C := RX10) (T := TX10) (N := 25) inX10 (by decide) rfl rfl 5 (by decide) rfl hw rfl d kk
theorem gf_11_6 (o : Ok X G cc nL own F Lo) {index : Nat} (hw : Cond.fieldLink own index "RoundRowsModel" "number" "[I" ∈ TT) (d : decode cc pc = .ok (.getfield index, 3)) (kk : WS X G nL σ (pc + 3) lv (.ref (gad G 76) :: st)) : WS X G nL σ pc lv (.ref (gad G 11) :: st) := r_get o (C := RX10) (T := TX10) (N := 25) inX10 (by decide) rfl rfl 6 (by decide) rfl hw rfl d kk
theorem gf_11_7 (o : Ok X G cc nL own F Lo) {index : Nat} {v : Int32} (hv : (σ 11).1 7 = v) (hw : Cond.fieldLink own index "RoundRowsModel" "many" "I" ∈ TT) (d : decode cc pc = .ok (.getfield index, 3)) (kk : WS X G nL σ (pc + 3) lv (.int v :: st)) : WS X G nL σ pc lv (.ref (gad G 11) :: st) := by
  subst hv
  exact r_get o (C := RX10) (T := TX10) (N := 25) inX10 (by decide) rfl rfl 7 (by decide) rfl hw rfl d kk
theorem pf_11_7 (o : Ok X G cc nL own F Lo) {index : Nat} {v : Int32} (hw : Cond.fieldLink own index "RoundRowsModel" "many" "I" ∈ TT) (d : decode cc pc = .ok (.putfield index, 3)) (kk : WS X G nL (sti σ 11 7 v) (pc + 3) lv st) : WS X G nL σ pc lv (.int v :: .ref (gad G 11) :: st) := r_puti o (C := RX10) (T := TX10) (N := 25) inX10 tyX10 tyX10_ok nmX10 (by decide) rfl rfl 7 (by decide) rfl hw rfl rfl (Nat.le_of_ble_eq_true rfl) rfl d kk
theorem gf_11_8 (o : Ok X G cc nL own F Lo) {index : Nat} (hw : Cond.fieldLink own index "RoundRowsModel" "heapSum" "[J" ∈ TT) (d : decode cc pc = .ok (.getfield index, 3)) (kk : WS X G nL σ (pc + 3) lv (.ref (gad G 77) :: st)) : WS X G nL σ pc lv (.ref (gad G 11) :: st) := r_get o (C := RX10) (T := TX10) (N := 25) inX10 (by decide) rfl rfl 8 (by decide) rfl hw rfl d kk
theorem gf_11_9 (o : Ok X G cc nL own F Lo) {index : Nat} (hw : Cond.fieldLink own index "RoundRowsModel" "heapMany" "[I" ∈ TT) (d : decode cc pc = .ok (.getfield index, 3)) (kk : WS X G nL σ (pc + 3) lv (.ref (gad G 78) :: st)) : WS X G nL σ pc lv (.ref (gad G 11) :: st) := r_get o (C := RX10) (T := TX10) (N := 25) inX10 (by decide) rfl rfl 9 (by decide) rfl hw rfl d kk
theorem gf_11_10 (o : Ok X G cc nL own F Lo) {index : Nat} (hw : Cond.fieldLink own index "RoundRowsModel" "turns" "[I" ∈ TT) (d : decode cc pc = .ok (.getfield index, 3)) (kk : WS X G nL σ (pc + 3) lv (.ref (gad G 79) :: st)) : WS X G nL σ pc lv (.ref (gad G 11) :: st) := r_get o (C := RX10) (T := TX10) (N := 25) inX10 (by decide) rfl rfl 10 (by decide) rfl hw rfl d kk
theorem gf_11_11 (o : Ok X G cc nL own F Lo) {index : Nat} (hw : Cond.fieldLink own index "RoundRowsModel" "other" "[I" ∈ TT) (d : decode cc pc = .ok (.getfield index, 3)) (kk : WS X G nL σ (pc + 3) lv (.ref (gad G 80) :: st)) : WS X G nL σ pc lv (.ref (gad G 11) :: st) := r_get o (C := RX10) (T := TX10) (N := 25) inX10 (by decide) rfl rfl 11 (by decide) rfl hw rfl d kk
theorem gf_11_12 (o : Ok X G cc nL own F Lo) {index : Nat} {v : Int64} (hv : (σ 11).2 12 = v) (hw : Cond.fieldLink own index "RoundRowsModel" "togetherUpper" "J" ∈ TT) (d : decode cc pc = .ok (.getfield index, 3)) (kk : WS X G nL σ (pc + 3) lv (.long v :: st)) : WS X G nL σ pc lv (.ref (gad G 11) :: st) := by
  subst hv
  exact r_get o (C := RX10) (T := TX10) (N := 25) inX10 (by decide) rfl rfl 12 (by decide) rfl hw rfl d kk
theorem pf_11_12 (o : Ok X G cc nL own F Lo) {index : Nat} {v : Int64} (hw : Cond.fieldLink own index "RoundRowsModel" "togetherUpper" "J" ∈ TT) (d : decode cc pc = .ok (.putfield index, 3)) (kk : WS X G nL (stl σ 11 12 v) (pc + 3) lv st) : WS X G nL σ pc lv (.long v :: .ref (gad G 11) :: st) := r_putl o (C := RX10) (T := TX10) (N := 25) inX10 tyX10 tyX10_ok nmX10 (by decide) rfl rfl 12 (by decide) rfl hw rfl rfl (Nat.le_of_ble_eq_true rfl) rfl d kk
theorem gf_11_13 (o : Ok X G cc nL own F Lo) {index : Nat} {v : Int64} (hv : (σ 11).2 13 = v) (hw : Cond.fieldLink own index "RoundRowsModel" "togetherLower" "J" ∈ TT) (d : decode cc pc = .ok (.getfield index, 3)) (kk : WS X G nL σ (pc + 3) lv (.long v :: st)) : WS X G nL σ pc lv (.ref (gad G 11) :: st) := by
  subst hv
  exact r_get o (C := RX10) (T := TX10) (N := 25) inX10 (by decide) rfl rfl 13 (by decide) rfl hw rfl d kk
theorem pf_11_13 (o : Ok X G cc nL own F Lo) {index : Nat} {v : Int64} (hw : Cond.fieldLink own index "RoundRowsModel" "togetherLower" "J" ∈ TT) (d : decode cc pc = .ok (.putfield index, 3)) (kk : WS X G nL (stl σ 11 13 v) (pc + 3) lv st) : WS X G nL σ pc lv (.long v :: .ref (gad G 11) :: st) := r_putl o (C := RX10) (T := TX10) (N := 25) inX10 tyX10 tyX10_ok nmX10 (by decide) rfl rfl 13 (by decide) rfl hw rfl rfl (Nat.le_of_ble_eq_true rfl) rfl d kk
theorem gf_11_14 (o : Ok X G cc nL own F Lo) {index : Nat} {v : Int32} (hv : (σ 11).1 14 = v) (hw : Cond.fieldLink own index "RoundRowsModel" "foundLength" "I" ∈ TT) (d : decode cc pc = .ok (.getfield index, 3)) (kk : WS X G nL σ (pc + 3) lv (.int v :: st)) : WS X G nL σ pc lv (.ref (gad G 11) :: st) := by
  subst hv
  exact r_get o (C := RX10) (T := TX10) (N := 25) inX10 (by decide) rfl rfl 14 (by decide) rfl hw rfl d kk
theorem pf_11_14 (o : Ok X G cc nL own F Lo) {index : Nat} {v : Int32} (hw : Cond.fieldLink own index "RoundRowsModel" "foundLength" "I" ∈ TT) (d : decode cc pc = .ok (.putfield index, 3)) (kk : WS X G nL (sti σ 11 14 v) (pc + 3) lv st) : WS X G nL σ pc lv (.int v :: .ref (gad G 11) :: st) := r_puti o (C := RX10) (T := TX10) (N := 25) inX10 tyX10 tyX10_ok nmX10 (by decide) rfl rfl 14 (by decide) rfl hw rfl rfl (Nat.le_of_ble_eq_true rfl) rfl d kk
theorem gf_11_15 (o : Ok X G cc nL own F Lo) {index : Nat} {v : Int32} (hv : (σ 11).1 15 = v) (hw : Cond.fieldLink own index "RoundRowsModel" "heldMany" "I" ∈ TT) (d : decode cc pc = .ok (.getfield index, 3)) (kk : WS X G nL σ (pc + 3) lv (.int v :: st)) : WS X G nL σ pc lv (.ref (gad G 11) :: st) := by
  subst hv
  exact r_get o (C := RX10) (T := TX10) (N := 25) inX10 (by decide) rfl rfl 15 (by decide) rfl hw rfl d kk
theorem pf_11_15 (o : Ok X G cc nL own F Lo) {index : Nat} {v : Int32} (hw : Cond.fieldLink own index "RoundRowsModel" "heldMany" "I" ∈ TT) (d : decode cc pc = .ok (.putfield index, 3)) (kk : WS X G nL (sti σ 11 15 v) (pc + 3) lv st) : WS X G nL σ pc lv (.int v :: .ref (gad G 11) :: st) := r_puti o (C := RX10) (T := TX10) (N := 25) inX10 tyX10 tyX10_ok nmX10 (by decide) rfl rfl 15 (by decide) rfl hw rfl rfl (Nat.le_of_ble_eq_true rfl) rfl d kk
theorem gf_11_16 (o : Ok X G cc nL own F Lo) {index : Nat} {v : Int32} (hv : (σ 11).1 16 = v) (hw : Cond.fieldLink own index "RoundRowsModel" "heldOf" "I" ∈ TT) (d : decode cc pc = .ok (.getfield index, 3)) (kk : WS X G nL σ (pc + 3) lv (.int v :: st)) : WS X G nL σ pc lv (.ref (gad G 11) :: st) := by
  subst hv
  exact r_get o (C := RX10) (T := TX10) (N := 25) inX10 (by decide) rfl rfl 16 (by decide) rfl hw rfl d kk
theorem pf_11_16 (o : Ok X G cc nL own F Lo) {index : Nat} {v : Int32} (hw : Cond.fieldLink own index "RoundRowsModel" "heldOf" "I" ∈ TT) (d : decode cc pc = .ok (.putfield index, 3)) (kk : WS X G nL (sti σ 11 16 v) (pc + 3) lv st) : WS X G nL σ pc lv (.int v :: .ref (gad G 11) :: st) := r_puti o (C := RX10) (T := TX10) (N := 25) inX10 tyX10 tyX10_ok nmX10 (by decide) rfl rfl 16 (by decide) rfl hw rfl rfl (Nat.le_of_ble_eq_true rfl) rfl d kk
theorem gf_11_17 (o : Ok X G cc nL own F Lo) {index : Nat} (hw : Cond.fieldLink own index "RoundRowsModel" "trialRow" "[I" ∈ TT) (d : decode cc pc = .ok (.getfield index, 3)) (kk : WS X G nL σ (pc + 3) lv (.ref (gad G 81) :: st)) : WS X G nL σ pc lv (.ref (gad G 11) :: st) := r_get o (C := RX10) (T := TX10) (N := 25) inX10 (by decide) rfl rfl 17 (by decide) rfl hw rfl d kk
theorem gf_11_18 (o : Ok X G cc nL own F Lo) {index : Nat} (hw : Cond.fieldLink own index "RoundRowsModel" "trialLength" "[I" ∈ TT) (d : decode cc pc = .ok (.getfield index, 3)) (kk : WS X G nL σ (pc + 3) lv (.ref (gad G 82) :: st)) : WS X G nL σ pc lv (.ref (gad G 11) :: st) := r_get o (C := RX10) (T := TX10) (N := 25) inX10 (by decide) rfl rfl 18 (by decide) rfl hw rfl d kk
theorem gf_11_19 (o : Ok X G cc nL own F Lo) {index : Nat} (hw : Cond.fieldLink own index "RoundRowsModel" "percent" "[I" ∈ TT) (d : decode cc pc = .ok (.getfield index, 3)) (kk : WS X G nL σ (pc + 3) lv (.ref (gad G 83) :: st)) : WS X G nL σ pc lv (.ref (gad G 11) :: st) := r_get o (C := RX10) (T := TX10) (N := 25) inX10 (by decide) rfl rfl 19 (by decide) rfl hw rfl d kk
theorem gf_11_20 (o : Ok X G cc nL own F Lo) {index : Nat} {v : Int32} (hv : (σ 11).1 20 = v) (hw : Cond.fieldLink own index "RoundRowsModel" "printed" "I" ∈ TT) (d : decode cc pc = .ok (.getfield index, 3)) (kk : WS X G nL σ (pc + 3) lv (.int v :: st)) : WS X G nL σ pc lv (.ref (gad G 11) :: st) := by
  subst hv
  exact r_get o (C := RX10) (T := TX10) (N := 25) inX10 (by decide) rfl rfl 20 (by decide) rfl hw rfl d kk
theorem pf_11_20 (o : Ok X G cc nL own F Lo) {index : Nat} {v : Int32} (hw : Cond.fieldLink own index "RoundRowsModel" "printed" "I" ∈ TT) (d : decode cc pc = .ok (.putfield index, 3)) (kk : WS X G nL (sti σ 11 20 v) (pc + 3) lv st) : WS X G nL σ pc lv (.int v :: .ref (gad G 11) :: st) := r_puti o (C := RX10) (T := TX10) (N := 25) inX10 tyX10 tyX10_ok nmX10 (by decide) rfl rfl 20 (by decide) rfl hw rfl rfl (Nat.le_of_ble_eq_true rfl) rfl d kk
theorem gf_11_21 (o : Ok X G cc nL own F Lo) {index : Nat} {v : Int32} (hv : (σ 11).1 21 = v) (hw : Cond.fieldLink own index "RoundRowsModel" "trials" "I" ∈ TT) (d : decode cc pc = .ok (.getfield index, 3)) (kk : WS X G nL σ (pc + 3) lv (.int v :: st)) : WS X G nL σ pc lv (.ref (gad G 11) :: st) := by
  subst hv
  exact r_get o (C := RX10) (T := TX10) (N := 25) inX10 (by decide) rfl rfl 21 (by decide) rfl hw rfl d kk
theorem pf_11_21 (o : Ok X G cc nL own F Lo) {index : Nat} {v : Int32} (hw : Cond.fieldLink own index "RoundRowsModel" "trials" "I" ∈ TT) (d : decode cc pc = .ok (.putfield index, 3)) (kk : WS X G nL (sti σ 11 21 v) (pc + 3) lv st) : WS X G nL σ pc lv (.int v :: .ref (gad G 11) :: st) := r_puti o (C := RX10) (T := TX10) (N := 25) inX10 tyX10 tyX10_ok nmX10 (by decide) rfl rfl 21 (by decide) rfl hw rfl rfl (Nat.le_of_ble_eq_true rfl) rfl d kk
theorem gf_11_22 (o : Ok X G cc nL own F Lo) {index : Nat} (hw : Cond.fieldLink own index "RoundRowsModel" "reading" "[I" ∈ TT) (d : decode cc pc = .ok (.getfield index, 3)) (kk : WS X G nL σ (pc + 3) lv (.ref (gad G 84) :: st)) : WS X G nL σ pc lv (.ref (gad G 11) :: st) := r_get o (C := RX10) (T := TX10) (N := 25) inX10 (by decide) rfl rfl 22 (by decide) rfl hw rfl d kk
theorem gf_11_23 (o : Ok X G cc nL own F Lo) {index : Nat} {v : Int32} (hv : (σ 11).1 23 = v) (hw : Cond.fieldLink own index "RoundRowsModel" "barIs" "I" ∈ TT) (d : decode cc pc = .ok (.getfield index, 3)) (kk : WS X G nL σ (pc + 3) lv (.int v :: st)) : WS X G nL σ pc lv (.ref (gad G 11) :: st) := by
  subst hv
  exact r_get o (C := RX10) (T := TX10) (N := 25) inX10 (by decide) rfl rfl 23 (by decide) rfl hw rfl d kk
theorem pf_11_23 (o : Ok X G cc nL own F Lo) {index : Nat} {v : Int32} (hw : Cond.fieldLink own index "RoundRowsModel" "barIs" "I" ∈ TT) (d : decode cc pc = .ok (.putfield index, 3)) (kk : WS X G nL (sti σ 11 23 v) (pc + 3) lv st) : WS X G nL σ pc lv (.int v :: .ref (gad G 11) :: st) := r_puti o (C := RX10) (T := TX10) (N := 25) inX10 tyX10 tyX10_ok nmX10 (by decide) rfl rfl 23 (by decide) rfl hw rfl rfl (Nat.le_of_ble_eq_true rfl) rfl d kk
theorem gf_11_24 (o : Ok X G cc nL own F Lo) {index : Nat} {v : Int32} (hv : (σ 11).1 24 = v) (hw : Cond.fieldLink own index "RoundRowsModel" "trueOnes" "I" ∈ TT) (d : decode cc pc = .ok (.getfield index, 3)) (kk : WS X G nL σ (pc + 3) lv (.int v :: st)) : WS X G nL σ pc lv (.ref (gad G 11) :: st) := by
  subst hv
  exact r_get o (C := RX10) (T := TX10) (N := 25) inX10 (by decide) rfl rfl 24 (by decide) rfl hw rfl d kk
theorem pf_11_24 (o : Ok X G cc nL own F Lo) {index : Nat} {v : Int32} (hw : Cond.fieldLink own index "RoundRowsModel" "trueOnes" "I" ∈ TT) (d : decode cc pc = .ok (.putfield index, 3)) (kk : WS X G nL (sti σ 11 24 v) (pc + 3) lv st) : WS X G nL σ pc lv (.int v :: .ref (gad G 11) :: st) := r_puti o (C := RX10) (T := TX10) (N := 25) inX10 tyX10 tyX10_ok nmX10 (by decide) rfl rfl 24 (by decide) rfl hw rfl rfl (Nat.le_of_ble_eq_true rfl) rfl d kk
theorem ceR {G : Gl} {r : Nat} (hr : r < 13) (x : Cn) : cellE G (32 + r) x = .inr (7, [.ref (gad G (45 + r)), .ref (gad G (58 + r)), .int (x.1 2)]) := by
  unfold cellE
  rw [if_neg (by omega), if_neg (by omega), if_neg (by omega), if_pos (by omega), show 32 + r + 13 = 45 + r by omega, show 32 + r + 26 = 58 + r by omega]
theorem ceP {G : Gl} {r : Nat} (hr : r < 13) (x : Cn) : cellE G (45 + r) x = .inl (gI G, 24, .inl x.1) := by
  unfold cellE
  rw [if_neg (by omega), if_neg (by omega), if_neg (by omega), if_neg (by omega), if_neg (by omega), if_neg (by omega)]
  have : lenI (45 + r) = 24 := by
    match r, hr with
    | 0, _ | 1, _ | 2, _ | 3, _ | 4, _ | 5, _ | 6, _ | 7, _ | 8, _ | 9, _ | 10, _ | 11, _ | 12, _ => rfl
  rw [this]
theorem ceJ {G : Gl} {r : Nat} (hr : r < 13) (x : Cn) : cellE G (58 + r) x = .inl (gJ G, 24, .inr (.inl x.2)) := by
  unfold cellE
  rw [if_neg (by omega), if_neg (by omega), if_neg (by omega), if_neg (by omega), if_pos (by omega)]
theorem ceY {G : Gl} {r : Nat} (hr : r < 6) (x : Cn) : cellE G (13 + r) x = .inl (gI G, 24, .inl x.1) := by
  match r, hr with
  | 0, _ | 1, _ | 2, _ | 3, _ | 4, _ | 5, _ => rfl
theorem gfR_0 (o : Ok X G cc nL own F Lo) {index r : Nat} (hr : r < 13) (hw : Cond.fieldLink own index "RoundRows$Round" "places" "[I" ∈ TT) (d : decode cc pc = .ok (.getfield index, 3)) (kk : WS X G nL σ (pc + 3) lv (.ref (gad G (45 + r)) :: st)) : WS X G nL σ pc lv (.ref (gad G (32 + r)) :: st) := r_get o (C := RX7) (T := TX7) (N := 3) inX7 (by omega) (ceR hr _) rfl 0 (by decide) rfl hw rfl d kk
theorem gfR_1 (o : Ok X G cc nL own F Lo) {index r : Nat} (hr : r < 13) (hw : Cond.fieldLink own index "RoundRows$Round" "weights" "[J" ∈ TT) (d : decode cc pc = .ok (.getfield index, 3)) (kk : WS X G nL σ (pc + 3) lv (.ref (gad G (58 + r)) :: st)) : WS X G nL σ pc lv (.ref (gad G (32 + r)) :: st) := r_get o (C := RX7) (T := TX7) (N := 3) inX7 (by omega) (ceR hr _) rfl 1 (by decide) rfl hw rfl d kk
theorem gfR_2 (o : Ok X G cc nL own F Lo) {index r : Nat} {v : Int32} (hr : r < 13) (hv : (σ (32 + r)).1 2 = v) (hw : Cond.fieldLink own index "RoundRows$Round" "n" "I" ∈ TT) (d : decode cc pc = .ok (.getfield index, 3)) (kk : WS X G nL σ (pc + 3) lv (.int v :: st)) : WS X G nL σ pc lv (.ref (gad G (32 + r)) :: st) := by
  subst hv
  exact r_get o (C := RX7) (T := TX7) (N := 3) inX7 (by omega) (ceR hr _) rfl 2 (by decide) rfl hw rfl d kk
theorem pfR_2 (o : Ok X G cc nL own F Lo) {index r : Nat} {v : Int32} (hr : r < 13) (hw : Cond.fieldLink own index "RoundRows$Round" "n" "I" ∈ TT) (d : decode cc pc = .ok (.putfield index, 3)) (kk : WS X G nL (sti σ (32 + r) 2 v) (pc + 3) lv st) : WS X G nL σ pc lv (.int v :: .ref (gad G (32 + r)) :: st) := r_puti o (C := RX7) (T := TX7) (N := 3) inX7 tyX7 tyX7_ok nmX7 (by omega) (ceR hr _) rfl 2 (by decide) rfl hw rfl rfl (Nat.le_of_ble_eq_true rfl) (ceR hr _) d kk
theorem ia_13 {G : Gl} (x : Cn) : cellE G 13 x = .inl (gI G, 24, .inl x.1) := rfl
theorem ia_14 {G : Gl} (x : Cn) : cellE G 14 x = .inl (gI G, 24, .inl x.1) := rfl
theorem ia_15 {G : Gl} (x : Cn) : cellE G 15 x = .inl (gI G, 24, .inl x.1) := rfl
theorem ia_16 {G : Gl} (x : Cn) : cellE G 16 x = .inl (gI G, 24, .inl x.1) := rfl
theorem ia_17 {G : Gl} (x : Cn) : cellE G 17 x = .inl (gI G, 24, .inl x.1) := rfl
theorem ia_18 {G : Gl} (x : Cn) : cellE G 18 x = .inl (gI G, 24, .inl x.1) := rfl
theorem ia_19 {G : Gl} (x : Cn) : cellE G 19 x = .inl (gI G, 20, .inl x.1) := rfl
theorem ia_20 {G : Gl} (x : Cn) : cellE G 20 x = .inl (gI G, 24, .inl x.1) := rfl
theorem ia_21 {G : Gl} (x : Cn) : cellE G 21 x = .inl (gI G, 24, .inl x.1) := rfl
theorem ia_22 {G : Gl} (x : Cn) : cellE G 22 x = .inl (gI G, 24, .inl x.1) := rfl
theorem ia_23 {G : Gl} (x : Cn) : cellE G 23 x = .inl (gI G, 24, .inl x.1) := rfl
theorem ia_24 {G : Gl} (x : Cn) : cellE G 24 x = .inl (gI G, 24, .inl x.1) := rfl
theorem ia_25 {G : Gl} (x : Cn) : cellE G 25 x = .inl (gI G, 24, .inl x.1) := rfl
theorem ia_26 {G : Gl} (x : Cn) : cellE G 26 x = .inl (gI G, 24, .inl x.1) := rfl
theorem ia_27 {G : Gl} (x : Cn) : cellE G 27 x = .inl (gI G, 20, .inl x.1) := rfl
theorem ia_28 {G : Gl} (x : Cn) : cellE G 28 x = .inl (gI G, 20, .inl x.1) := rfl
theorem ia_29 {G : Gl} (x : Cn) : cellE G 29 x = .inl (gI G, 20, .inl x.1) := rfl
theorem ia_30 {G : Gl} (x : Cn) : cellE G 30 x = .inl (gI G, 8, .inl x.1) := rfl
theorem ia_45 {G : Gl} (x : Cn) : cellE G 45 x = .inl (gI G, 24, .inl x.1) := rfl
theorem ia_46 {G : Gl} (x : Cn) : cellE G 46 x = .inl (gI G, 24, .inl x.1) := rfl
theorem ia_47 {G : Gl} (x : Cn) : cellE G 47 x = .inl (gI G, 24, .inl x.1) := rfl
theorem ia_48 {G : Gl} (x : Cn) : cellE G 48 x = .inl (gI G, 24, .inl x.1) := rfl
theorem ia_49 {G : Gl} (x : Cn) : cellE G 49 x = .inl (gI G, 24, .inl x.1) := rfl
theorem ia_50 {G : Gl} (x : Cn) : cellE G 50 x = .inl (gI G, 24, .inl x.1) := rfl
theorem ia_51 {G : Gl} (x : Cn) : cellE G 51 x = .inl (gI G, 24, .inl x.1) := rfl
theorem ia_52 {G : Gl} (x : Cn) : cellE G 52 x = .inl (gI G, 24, .inl x.1) := rfl
theorem ia_53 {G : Gl} (x : Cn) : cellE G 53 x = .inl (gI G, 24, .inl x.1) := rfl
theorem ia_54 {G : Gl} (x : Cn) : cellE G 54 x = .inl (gI G, 24, .inl x.1) := rfl
theorem ia_55 {G : Gl} (x : Cn) : cellE G 55 x = .inl (gI G, 24, .inl x.1) := rfl
theorem ia_56 {G : Gl} (x : Cn) : cellE G 56 x = .inl (gI G, 24, .inl x.1) := rfl
theorem ia_57 {G : Gl} (x : Cn) : cellE G 57 x = .inl (gI G, 24, .inl x.1) := rfl
theorem ia_71 {G : Gl} (x : Cn) : cellE G 71 x = .inl (gI G, 144, .inl x.1) := rfl
theorem ia_72 {G : Gl} (x : Cn) : cellE G 72 x = .inl (gI G, 20, .inl x.1) := rfl
theorem ia_73 {G : Gl} (x : Cn) : cellE G 73 x = .inl (gI G, 24, .inl x.1) := rfl
theorem ia_74 {G : Gl} (x : Cn) : cellE G 74 x = .inl (gI G, 24, .inl x.1) := rfl
theorem ia_75 {G : Gl} (x : Cn) : cellE G 75 x = .inl (gI G, 24, .inl x.1) := rfl
theorem ia_76 {G : Gl} (x : Cn) : cellE G 76 x = .inl (gI G, 24, .inl x.1) := rfl
theorem ia_78 {G : Gl} (x : Cn) : cellE G 78 x = .inl (gI G, 12, .inl x.1) := rfl
theorem ia_79 {G : Gl} (x : Cn) : cellE G 79 x = .inl (gI G, 8, .inl x.1) := rfl
theorem ia_80 {G : Gl} (x : Cn) : cellE G 80 x = .inl (gI G, 24, .inl x.1) := rfl
theorem ia_81 {G : Gl} (x : Cn) : cellE G 81 x = .inl (gI G, 20, .inl x.1) := rfl
theorem ia_82 {G : Gl} (x : Cn) : cellE G 82 x = .inl (gI G, 20, .inl x.1) := rfl
theorem ia_83 {G : Gl} (x : Cn) : cellE G 83 x = .inl (gI G, 20, .inl x.1) := rfl
theorem ia_84 {G : Gl} (x : Cn) : cellE G 84 x = .inl (gI G, 8, .inl x.1) := rfl
theorem la_58 {G : Gl} (x : Cn) : cellE G 58 x = .inl (gJ G, 24, .inr (.inl x.2)) := rfl
theorem la_59 {G : Gl} (x : Cn) : cellE G 59 x = .inl (gJ G, 24, .inr (.inl x.2)) := rfl
theorem la_60 {G : Gl} (x : Cn) : cellE G 60 x = .inl (gJ G, 24, .inr (.inl x.2)) := rfl
theorem la_61 {G : Gl} (x : Cn) : cellE G 61 x = .inl (gJ G, 24, .inr (.inl x.2)) := rfl
theorem la_62 {G : Gl} (x : Cn) : cellE G 62 x = .inl (gJ G, 24, .inr (.inl x.2)) := rfl
theorem la_63 {G : Gl} (x : Cn) : cellE G 63 x = .inl (gJ G, 24, .inr (.inl x.2)) := rfl
theorem la_64 {G : Gl} (x : Cn) : cellE G 64 x = .inl (gJ G, 24, .inr (.inl x.2)) := rfl
theorem la_65 {G : Gl} (x : Cn) : cellE G 65 x = .inl (gJ G, 24, .inr (.inl x.2)) := rfl
theorem la_66 {G : Gl} (x : Cn) : cellE G 66 x = .inl (gJ G, 24, .inr (.inl x.2)) := rfl
theorem la_67 {G : Gl} (x : Cn) : cellE G 67 x = .inl (gJ G, 24, .inr (.inl x.2)) := rfl
theorem la_68 {G : Gl} (x : Cn) : cellE G 68 x = .inl (gJ G, 24, .inr (.inl x.2)) := rfl
theorem la_69 {G : Gl} (x : Cn) : cellE G 69 x = .inl (gJ G, 24, .inr (.inl x.2)) := rfl
theorem la_70 {G : Gl} (x : Cn) : cellE G 70 x = .inl (gJ G, 24, .inr (.inl x.2)) := rfl
theorem la_77 {G : Gl} (x : Cn) : cellE G 77 x = .inl (gJ G, 12, .inr (.inl x.2)) := rfl
theorem r_ia (o : Ok X G cc nL own F Lo) {c n : Nat} (hc : c < 85) (he : ∀ x, cellE G c x = .inl (gI G, n, .inl x.1)) {f : Nat → Int32} (hf : (σ c).1 = f) {i : Int32} (j : Nat) (hj : i = nI j) (hn : j < n) (hb : n < 2 ^ 31) (d : decode cc pc = .ok (.iaload, 1)) (k : WS X G nL σ (pc + 1) lv (.int (f j) :: st)) : WS X G nL σ pc lv (.int i :: .ref (gad G c) :: st) := by
  subst hf
  exact r_iald o hc he j hj hn hb d k
theorem r_la (o : Ok X G cc nL own F Lo) {c n : Nat} (hc : c < 85) (he : ∀ x, cellE G c x = .inl (gJ G, n, .inr (.inl x.2))) {f : Nat → Int64} (hf : (σ c).2 = f) {i : Int32} (j : Nat) (hj : i = nI j) (hn : j < n) (hb : n < 2 ^ 31) (d : decode cc pc = .ok (.laload, 1)) (k : WS X G nL σ (pc + 1) lv (.long (f j) :: st)) : WS X G nL σ pc lv (.int i :: .ref (gad G c) :: st) := by
  subst hf
  exact r_lald o hc he j hj hn hb d k
end RF
/-! booleans -/
def b01 (b : Bool) : Int32 := match b with
  | true => nI 1
  | false => nI 0
theorem b01_eq0 (b : Bool) : (b01 b = 0) ↔ b = false := by cases b <;> decide
theorem b01_ne0 (b : Bool) : (¬ b01 b = 0) ↔ b = true := by cases b <;> decide
theorem b01_n (b : Bool) : narrow .boolean (.int (b01 b)) = .int (b01 b) := by cases b <;> rfl
theorem b01_t : nI 1 = b01 true := rfl
theorem b01_f : nI 0 = b01 false := rfl
theorem nI_inc (k : Nat) : nI k + Int32.ofInt 1 = nI (k + 1) := nI_1 k
theorem nI_dec {k : Nat} (h : 1 ≤ k) : nI k + Int32.ofInt (-1) = nI (k - 1) := by
  obtain ⟨j, rfl⟩ : ∃ j, k = j + 1 := ⟨k - 1, by omega⟩
  exact pk_m1 j
theorem nI_add' (a b : Nat) : nI a + nI b = nI (a + b) := nI_add a b
theorem nI_sub' {a b : Nat} (h : b ≤ a) : nI a - nI b = nI (a - b) := pk_sub h
theorem nI_mul' (a b : Nat) : nI a * nI b = nI (a * b) := pk_mul a b
theorem nI_rem' {a d : Nat} (ha : a < 2 ^ 31) (h0 : 0 < d) (hd : d < 2 ^ 31) : nI a - nI a / nI d * nI d = nI (a % d) := pk_rem ha h0 hd
theorem nI_z {k : Nat} (h0 : 0 < k) (h : k < 2 ^ 31) : ¬ nI k = 0 := nI_ne0 h0 h

