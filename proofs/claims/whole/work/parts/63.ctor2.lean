/-! loops in constructors -/
theorem n_wid {X : Cx} {G : Gl} {A : Nat → Prop} {nL nc ns n1 n2 : Nat} {ws : va_W} {pc : Nat} {lv : List (Nat × Value)} {st : List Value} (h1 : nc ≤ n1) (h2 : ns ≤ n2) (k : WN X G A nL n1 n2 ws pc lv st) : WN X G A nL nc ns ws pc lv st := fun H locs ls hP hD hS h => W.widen h1 h2 (k H locs ls hP hD hS h)
theorem n_eq {X : Cx} {G : Gl} {A : Nat → Prop} {nL nc ns : Nat} {ws ws' : va_W} {pc : Nat} {lv : List (Nat × Value)} {st : List Value} (hw : ws = ws') (k : WN X G A nL nc ns ws' pc lv st) : WN X G A nL nc ns ws pc lv st := by subst hw; exact k
theorem n_arr {X : Cx} {G : Gl} {A : Nat → Prop} {nL nc ns : Nat} {ws : va_W} {pc : Nat} {lv : List (Nat × Value)} {st : List Value} (q0 : Nat) {aq nq : Nat} {fq gq : Nat → Int32} (ha : ws[q0]? = some (aq, .inl (gI G, nq, .inl fq))) (hfg : ∀ jq, jq < nq → fq jq = gq jq) (kk : WN X G A nL nc ns (ws.set q0 (aq, .inl (gI G, nq, .inl gq))) pc lv st) : WN X G A nL nc ns ws pc lv st := fun H locs ls hP hD hS h => by
  have hlen : q0 < ws.length := (List.getElem?_eq_some_iff.mp ha).1
  have key : ∀ (k : Nat) (x : Nat × va_E), (ws.set q0 (aq, .inl (gI G, nq, .inl gq)))[k]? = some x → ∃ y, ws[k]? = some y ∧ y.1 = x.1 ∧ (k ≠ q0 → y = x) ∧ (k = q0 → x = (aq, .inl (gI G, nq, .inl gq))) := fun k x hx => by
    by_cases e : k = q0
    · subst e
      rw [List.getElem?_set_self hlen] at hx
      cases hx
      exact ⟨_, ha, rfl, fun z => absurd rfl z, fun _ => rfl⟩
    · rw [List.getElem?_set_ne (Ne.symm e)] at hx
      exact ⟨x, hx, rfl, fun _ => rfl, fun z => absurd z e⟩
  refine kk H locs ls (fun k x hx => ?_) ⟨fun i j x y hi hj he => ?_, fun k x hx => ?_⟩ hS h
  · obtain ⟨y, h1, h2, h3, h4⟩ := key k x hx
    by_cases e : k = q0
    · rw [h4 e]
      have h5 := hP q0 _ ha
      show H[aq]? = some (vp_cell _ (nq, .inl gq))
      rw [← arr_ext hfg]
      exact h5
    · rw [← h3 e]
      exact hP k y h1
  · obtain ⟨x', h1, h2, -, -⟩ := key i x hi
    obtain ⟨y', h3, h4, -, -⟩ := key j y hj
    exact hD.1 i j x' y' h1 h3 (by rw [h2, h4, he])
  · obtain ⟨x', h1, h2, -, -⟩ := key k x hx
    rw [← h2]
    exact hD.2 k x' h1
theorem n_initN {X : Cx} {G : Gl} {A : Nat → Prop} {cc : ByteArray} {nL nc ns : Nat} {own : String} {F Lo mc ms : Nat} {ws : va_W} {pc : Nat} {lv : List (Nat × Value)} {st : List Value} (o : OkN X G A cc nL own F Lo mc ms) {y : MethodName} {cb : ByteArray} {mL idx F' Lo' m1 m2 q0 : Nat} {e0 : va_E} {host : String} {wsf : (Nat → Nat) → va_W} (ct : CtN (xl X) G y cb mL F' Lo' m1 m2 q0 e0 wsf) (om : okM y cb mL none 0) (hin : Cond.instanceMethod y ∈ TT) (hlk : Cond.methodLinkNest own idx y host ∈ TT) (hyn : y.name = "<init>") (hR : F' + 1 ≤ F ∧ 8 + (mL + 11) + Lo' ≤ Lo) (hc : nc + m1 ≤ mc ∧ ns + m2 ≤ ms) (hW : (st.map fun v => v.category).sum ≤ 8) (d : decode cc pc = .ok (.invokespecial idx, 3)) (kk : ∀ af : Nat → Nat, WN X G A nL (nc + m1) (ns + m2) (ws ++ wsf af) (pc + 3) lv st) : WN X G A nL nc ns (ws ++ [(q0, e0)]) pc lv (.ref q0 :: st) := fun H locs ls hP hD hS h => by
  have hr := o.2.2.2.2.2.2.2
  have hlast : (ws ++ [(q0, e0)])[ws.length]? = some (q0, e0) := by simp
  have hold : ∀ (k : Nat) (x : Nat × va_E), ws[k]? = some x → (ws ++ [(q0, e0)])[k]? = some x ∧ k < ws.length := fun k x hx => by
    have hk := (List.getElem?_eq_some_iff.mp hx).1
    exact ⟨by rw [List.getElem?_append_left hk]; exact hx, hk⟩
  have hne : ∀ (k : Nat) (x : Nat × va_E), ws[k]? = some x → x.1 ≠ q0 := fun k x hx he => by
    obtain ⟨h1, h2⟩ := hold k x hx
    have := hD.1 k ws.length x (q0, e0) h1 hlast he
    omega
  have hP0 : va_P G.1 classes [(q0, e0)] H := hP.sub [ws.length] (by simp)
  have hAq : ∀ q, va_A [(q0, e0)] H.size q → A q := fun q hq => by
    rcases hq with ⟨k, e, hk⟩ | hq
    · have hk0 : k = 0 := by
        cases k with
        | zero => rfl
        | succ k => simp at hk
      subst hk0
      cases hk
      exact hD.2 _ _ hlast
    · exact o.2.2.2.2.2.2.1 q (Nat.le_trans hS.1 hq)
  refine va_callv (pc := pc) (ls := ls) (st0 := .ref q0 :: st) (va_runIN (As := []) (rest := st) (bytes := cb) (maxL := mL) (n := 0) (nL := nL) (cc := cc) (Ts := TT) (own := own) ⟨o.1, o.2.1, o.2.2.1, o.2.2.2.1, o.2.2.2.2.1⟩ (ct H.size) ⟨⟨⟨rfl, rfl, by rw [hr]; exact hR.1, by rw [hr]; exact hR.2, fun w hw a' U hW => by
    rcases List.mem_cons.mp hw with e | h
    · subst e; exact TT_pay o.2.2.2.2.1 _ om.1 a' U hW
    · exact TT_pay o.2.2.2.2.1 w h a' U hW, List.mem_cons_self⟩, o.2.2.2.2.1 _ om.1, o.2.2.2.2.1 _ om.2.1, ⟨om.2.2.1.1, om.2.2.1.2.1⟩, om.sig, o.2.2.2.2.1 _ hlk⟩, hyn, o.2.2.2.2.1 _ hin⟩ ⟨fun a U g mk q => by obtain ⟨q1, q2, q3, q4⟩ := q; exact ⟨q1, q2, q3, NK.moved (u := U) (U := U.calling g mk a) (Vm.Alike.refl U.vm) q4⟩, fun U hU hW => ⟨rfl, by rw [hU], by rw [hU]; exact hP0, NK.moved hW.alike o.2.2.2.2.2.1⟩⟩ rfl rfl h.1 rfl (lv_room hW) d ⟨by rw [hr]; exact hc.1, by rw [hr]; exact hc.2⟩) hS (fun q _ h => hAq q h) hAq (fun u t H1 locs1 ht hvm hw hB hz1 hk1 hS1 => ?_)
  obtain ⟨hP1, hD1⟩ := hB
  rw [ht] at hP1
  have hnA : ∀ (k : Nat) (x : Nat × va_E), ws[k]? = some x → ¬ va_A [(q0, e0)] H.size x.1 := fun k x hx hq => by
    rcases hq with ⟨j, e, hj⟩ | hq
    · have hj0 : j = 0 := by
        cases j with
        | zero => rfl
        | succ j => simp at hj
      subst hj0
      have hq1 : q0 = x.1 := congrArg Prod.fst (Option.some.inj hj)
      exact hne k x hx hq1.symm
    · have := (hP k x (hold k x hx).1).lt
      omega
  have hPo : va_P G.1 classes ws H1 := fun k x hx => (hP k x (hold k x hx).1).kept (hk1 x.1 ((hP k x (hold k x hx).1).lt) (hnA k x hx))
  refine kk u H1 locs1 ls (hPo.app hP1) ?_ hS1 h
  refine va_D.app ⟨fun i j x y hi hj he => hD.1 i j x y (hold i x hi).1 (hold j y hj).1 he, fun k x hx => hD.2 k x (hold k x hx).1⟩ (hD1.weaken (fun k q _ hq => hAq q.1 hq)) (fun i j x y hx hy he => ?_)
  exact hnA i x hx (by rw [he]; exact hD1.2 j y hy)
def rnW (G : Gl) (af : Nat → Nat) : Nat → va_W
  | 0 => []
  | iq + 1 => rnW G af iq ++ [(af (3 * iq), .inr (7, [.ref (af (3 * iq + 1)), .ref (af (3 * iq + 2)), .int (nI 0)])), (af (3 * iq + 1), .inl (gI G, 24, .inl (fun _ => 0))), (af (3 * iq + 2), .inl (gJ G, 24, .inr (.inl (fun _ => 0))))]
theorem rnW_len (G : Gl) (af : Nat → Nat) : ∀ iq, (rnW G af iq).length = 3 * iq
  | 0 => rfl
  | iq + 1 => by
    unfold rnW
    rw [List.length_append, rnW_len G af iq]
    show 3 * iq + 3 = _
    omega
theorem rnW_cg {G : Gl} {af bf : Nat → Nat} : ∀ iq, (∀ kq, kq < 3 * iq → af kq = bf kq) → rnW G af iq = rnW G bf iq
  | 0, _ => rfl
  | iq + 1, h => by
    unfold rnW
    rw [rnW_cg iq (fun kq hk => h kq (by omega)), h (3 * iq) (by omega), h (3 * iq + 1) (by omega), h (3 * iq + 2) (by omega)]
def rnA (af : Nat → Nat) (iq xq yq zq : Nat) : Nat → Nat := fun kq => if kq = 3 * iq then xq else if kq = 3 * iq + 1 then yq else if kq = 3 * iq + 2 then zq else af kq
theorem rnA_o {af : Nat → Nat} {iq xq yq zq kq : Nat} (h : kq < 3 * iq) : rnA af iq xq yq zq kq = af kq := by
  unfold rnA
  rw [if_neg (by omega), if_neg (by omega), if_neg (by omega)]
theorem rnA_0 {af : Nat → Nat} {iq xq yq zq : Nat} : rnA af iq xq yq zq (3 * iq) = xq := if_pos rfl
theorem rnA_1 {af : Nat → Nat} {iq xq yq zq : Nat} : rnA af iq xq yq zq (3 * iq + 1) = yq := by unfold rnA; rw [if_neg (by omega), if_pos rfl]
theorem rnA_2 {af : Nat → Nat} {iq xq yq zq : Nat} : rnA af iq xq yq zq (3 * iq + 2) = zq := by unfold rnA; rw [if_neg (by omega), if_neg (by omega), if_pos rfl]
def rfF (af : Nat → Nat) (iq : Nat) : Nat → Option Nat := fun jq => if jq < iq then some (af (3 * jq)) else none
theorem rfF_s {af : Nat → Nat} {iq xq yq zq : Nat} : va_up (rfF af iq) iq (some xq) = rfF (rnA af iq xq yq zq) (iq + 1) := by
  funext jq
  unfold va_up rfF
  by_cases e : jq = iq
  · subst e
    rw [if_pos rfl, if_pos (by omega), rnA_0]
  · rw [if_neg e]
    by_cases h : jq < iq
    · rw [if_pos h, if_pos (by omega), rnA_o (by omega)]
    · rw [if_neg h, if_neg (by omega)]
theorem rnW_s {G : Gl} {af : Nat → Nat} {iq xq yq zq : Nat} : rnW G af iq ++ [(xq, .inr (7, [.ref yq, .ref zq, .int (nI 0)])), (yq, .inl (gI G, 24, .inl (fun _ => 0))), (zq, .inl (gJ G, 24, .inr (.inl (fun _ => 0))))] = rnW G (rnA af iq xq yq zq) (iq + 1) := by
  show _ = rnW G (rnA af iq xq yq zq) iq ++ _
  rw [rnA_0, rnA_1, rnA_2, rnW_cg iq (fun kq hk => rnA_o hk)]
set_option maxHeartbeats 4000000 in
set_option maxRecDepth 100000 in
theorem c_X8_init (l : Launch) (G : Gl) (h0 : Nat) : CtN l G yX8_init cX8_init 2 2 32 40 676 h0 (.inr (8, [.null, .int 0, .int 0])) (fun af => [(h0, .inr (8, [.ref (af 39), .int (nI 2), .int (nI 2)])), (af 39, .inl (gR G, 13, .inr (.inr (.inr (.inr (rfF af 13))))))] ++ rnW G af 13) := by
  refine CtN.of (by decide +kernel) (by decide) (fun X A o q => ?_) rfl
  refine n_aload o dX8_init_0 0 rfl ?_
  refine n_obj o mw_110 mw_56 mw_57 dX8_init_1 (by decide) (by decide) ?_
  refine n_aload o dX8_init_4 0 rfl ?_
  refine n_bipush o (v := nI 13) dX8_init_5 (by decide) ?_
  refine n_newR o rfl mx_111 (by decide) (by decide) dX8_init_7 (fun qa => ?_)
  show WN X G A 2 1 13 [(h0, .inr (8, [.null, .int 0, .int 0])), (qa, .inl (gR G, 13, .inr (.inr (.inr (.inr (fun _ => none))))))] 10 [(0, .ref h0)] [.ref qa, .ref h0]
  refine n_putF o q.2.2.1 (ty := tyX8 0) inX8 tyX8 tyX8_ok nmX8 0 rfl rfl 0 (by decide) rfl rfl mw_129 rfl rfl rfl rfl (Nat.le_of_ble_eq_true rfl) dX8_init_10 ?_
  show WN X G A 2 1 13 [(h0, .inr (8, [.ref qa, .int 0, .int 0])), (qa, .inl (gR G, 13, .inr (.inr (.inr (.inr (fun _ => none))))))] 13 [(0, .ref h0)] []
  refine n_aload o dX8_init_13 0 rfl ?_
  refine n_iconst o (v := nI 2) dX8_init_14 (by decide) ?_
  refine n_put o (ty := tyX8 1) inX8 tyX8 tyX8_ok nmX8 0 rfl rfl 1 (by decide) rfl mw_130 rfl rfl rfl rfl (Nat.le_of_ble_eq_true rfl) dX8_init_15 ?_
  show WN X G A 2 1 13 [(h0, .inr (8, [.ref qa, .int (nI 2), .int 0])), (qa, .inl (gR G, 13, .inr (.inr (.inr (.inr (fun _ => none))))))] 18 [(0, .ref h0)] []
  refine n_aload o dX8_init_18 0 rfl ?_
  refine n_iconst o (v := nI 2) dX8_init_19 (by decide) ?_
  refine n_put o (ty := tyX8 2) inX8 tyX8 tyX8_ok nmX8 0 rfl rfl 2 (by decide) rfl mw_131 rfl rfl rfl rfl (Nat.le_of_ble_eq_true rfl) dX8_init_20 ?_
  show WN X G A 2 1 13 [(h0, .inr (8, [.ref qa, .int (nI 2), .int (nI 2)])), (qa, .inl (gR G, 13, .inr (.inr (.inr (.inr (fun _ => none))))))] 23 [(0, .ref h0)] []
  refine n_iconst o (v := nI 0) dX8_init_23 (by decide) ?_
  refine n_istore o (lv' := [(1, .int (nI 0)), (0, .ref h0)]) dX8_init_24 (by decide) rfl ?_
  have L : ∀ (nq iq : Nat) (af : Nat → Nat), iq ≤ 13 → 13 - iq < nq → WN X G A 2 (1 + 3 * iq) (13 + 51 * iq) ([(h0, .inr (8, [.ref qa, .int (nI 2), .int (nI 2)])), (qa, .inl (gR G, 13, .inr (.inr (.inr (.inr (rfF af iq))))))] ++ rnW G af iq) 25 [(1, .int (nI iq)), (0, .ref h0)] [] := by
    intro nq
    induction nq with
    | zero => intro iq af _ h; exact absurd h (Nat.not_lt_zero _)
    | succ nq ih =>
      intro iq af hi hm
      refine n_iload o dX8_init_25 0 rfl ?_
      refine n_bipush o (v := nI 12) dX8_init_26 (by decide) ?_
      refine n_icmp_gt o (tgt := 50) dX8_init_28 (by decide) (fun z => ?_) (fun z => ?_)
      · rw [nI_ltI (by omega) (by omega)] at z
        obtain rfl : iq = 13 := by omega
        refine n_ret o q (fun kq => if kq = 39 then qa else af kq) ?_ (by decide) (by decide) dX8_init_50
        have e1 : rnW G (fun kq => if kq = 39 then qa else af kq) 13 = rnW G af 13 := rnW_cg 13 (fun kq hk => if_neg (by omega))
        have e2 : rfF (fun kq => if kq = 39 then qa else af kq) 13 = rfF af 13 := by
          funext jq
          unfold rfF
          by_cases h : jq < 13
          · rw [if_pos h, if_pos h]; exact congrArg some (if_neg (by omega))
          · rw [if_neg h, if_neg h]
        show _ = [(h0, .inr (8, [.ref qa, .int (nI 2), .int (nI 2)])), (qa, .inl (gR G, 13, .inr (.inr (.inr (.inr (rfF (fun kq => if kq = 39 then qa else af kq) 13))))))] ++ rnW G (fun kq => if kq = 39 then qa else af kq) 13
        rw [e1, e2]
      · rw [nI_ltI (by omega) (by omega)] at z
        refine n_aload o dX8_init_31 1 rfl ?_
        refine n_get o inX8 0 rfl rfl 0 (by decide) rfl mw_129 rfl dX8_init_32 ?_
        refine n_iload o dX8_init_35 0 rfl ?_
        refine n_new o (ci := 7) (fs := [.null, .null, .int 0]) inX7 tyX7 tyX7_ok mx_111 mx_113 mw_40 rfl df_X7 (by omega) (by omega) dX8_init_36 (fun rq => ?_)
        refine n_dup o dX8_init_39 rfl ?_
        refine n_initN o (c_X7_init (xl X) G rq) om_X7_init mw_115 mw_114 rfl (by decide) ⟨by omega, by omega⟩ (Nat.le_of_ble_eq_true rfl) dX8_init_40 (fun bf => ?_)
        have hlen := rnW_len G af iq
        refine n_aast o 1 (2 + 3 * iq) (a := qa) (v := rq) (jq := iq) (f := rfF af iq) (vs := [.ref (bf 0), .ref (bf 1), .int (nI 0)]) rfl ?_ rfl (by omega) dX8_init_43 ?_
        · rw [List.getElem?_append_right (by rw [List.length_append, hlen]; show 2 + 3 * iq ≤ _; omega), List.length_append, hlen]
          show _[2 + 3 * iq - (2 + 3 * iq)]? = _
          rw [Nat.sub_self]
          rfl
        rw [rfF_s (xq := rq) (yq := bf 0) (zq := bf 1)]
        refine n_eq (ws' := ([(h0, .inr (8, [.ref qa, .int (nI 2), .int (nI 2)])), (qa, .inl (gR G, 13, .inr (.inr (.inr (.inr (rfF (rnA af iq rq (bf 0) (bf 1)) (iq + 1)))))))] ++ rnW G (rnA af iq rq (bf 0) (bf 1)) (iq + 1))) ?_ ?_
        · rw [← rnW_s]
          rfl
        refine n_iinc o (v := nI (iq + 1)) (lv' := [(1, .int (nI (iq + 1))), (0, .ref h0)]) dX8_init_44 0 rfl (nI_inc iq) (by decide) rfl ?_
        refine n_goto o (tgt := 25) dX8_init_47 (by decide) ?_
        refine n_wid (n1 := 1 + 3 * (iq + 1)) (n2 := 13 + 51 * (iq + 1)) (by omega) (by omega) ?_
        exact ih (iq + 1) _ (by omega) (by omega)
  refine n_eq (ws' := ([(h0, .inr (8, [.ref qa, .int (nI 2), .int (nI 2)])), (qa, .inl (gR G, 13, .inr (.inr (.inr (.inr (rfF (fun kq => kq) 0))))))] ++ rnW G (fun kq => kq) 0)) ?_ (L 14 0 (fun kq => kq) (by omega) (by omega))
  have e3 : rfF (fun kq => kq) 0 = (fun _ => none) := funext (fun jq => if_neg (Nat.not_lt_zero jq))
  rw [e3]
  rfl
