theorem fm_of {α β : Type} {fq : α → Option β} : ∀ {ls : List α} {wq : List β}, ls.map fq = wq.map some → ls.filterMap fq = wq
  | [], [], _ => rfl
  | [], _ :: _, h => by cases h
  | _ :: _, [], h => by cases h
  | xq :: ls, yq :: wq, h => by
    have h1 := (List.cons.inj h).1
    have h2 := fm_of (List.cons.inj h).2
    rw [List.filterMap_cons, h1, h2]
theorem to_T {X : Cx} {G : Gl} {nc ns : Nat} (q0 q8 : Nat) (af bf : Nat → Nat) {pc : Nat} {lv : List (Nat × Value)} {st : List Value} (kk : ∀ G2 : Gl, G2 = (G.1, gadO q0 q8 af bf, gI G, gJ G, gR G, gQ G) → inj85 G2 → (∀ q, Ad G2 q → (xs X).heap.size ≤ q) → WT X G2 nc ns st0 pc lv st) : WN X G (fun q : Nat => (xs X).heap.size ≤ q) 4 nc ns (wsM1 G q0 q8 af bf ++ wsM2 G q0 q8 af bf ++ wsM3 G q0 q8 af bf) pc lv st := fun H locs ls hP hD hS h => by
  have hDw := hD.sub _ mk_nd (mk_sub G q0 q8 af bf)
  have hPw := hP.sub _ (fm_of (mk_sub G q0 q8 af bf))
  exact kk _ rfl (fun i j hi hj he => hDw.1 i j _ _ (wld_at hi) (wld_at hj) he) (fun q hq => by
    obtain ⟨c, hc, e⟩ := hq
    rw [e]
    exact hDw.2 c _ (wld_at hc)) H locs ls hPw hS h
set_option maxHeartbeats 8000000 in
set_option maxRecDepth 100000 in
/-- THE LAW, from its entry -/
theorem whole_start {p : Program} {e : Env} {s : State} {m : MethodId} {below : List Frame} {meth : Method} {c : Code} (l : Launch) {b L : Nat} {xs : Nat → Int32} (hL : L ≤ 2560) (C0 : lw_At p s m meth c b L xs) : W p l e room_1 s m #[Value.ref b] below meth c s.heap [] 0 0 (lw_Z below #[Value.ref b] s) (entryFrame m ([Value.ref b] : List Value).toArray 4) := by
  obtain ⟨hx, hb, hret, hml, hown, hts, hX, hbl, hlocks, hgv⟩ := id C0
  have hTT : ∀ w ∈ TT, w.before #[Value.ref b] s = true := fun w h => hts w (TT_in h)
  obtain ⟨cc0, ii0, hK0⟩ := u_known (C := RX0) (T := TX0) (N := 4) (n := 4) hTT inX0 (hTT _ mx_76)
  obtain ⟨cc1, ii1, hK1⟩ := u_known (C := RX1) (T := TX1) (N := 6) (n := 6) hTT inX1 (hTT _ mx_189)
  obtain ⟨cc2, ii2, hK2⟩ := u_known (C := RX2) (T := TX2) (N := 2) (n := 2) hTT inX2 (hTT _ mx_176)
  obtain ⟨cc3, ii3, hK3⟩ := u_known (C := RX3) (T := TX3) (N := 3) (n := 3) hTT inX3 (hTT _ mx_157)
  obtain ⟨cc4, ii4, hK4⟩ := u_known (C := RX4) (T := TX4) (N := 3) (n := 3) hTT inX4 (hTT _ mx_140)
  obtain ⟨cc5, ii5, hK5⟩ := u_known (C := RX5) (T := TX5) (N := 2) (n := 2) hTT inX5 (hTT _ mx_61)
  obtain ⟨cc6, ii6, hK6⟩ := u_known (C := RX6) (T := TX6) (N := 2) (n := 2) hTT inX6 (hTT _ mx_221)
  obtain ⟨cc7, ii7, hK7⟩ := u_known (C := RX7) (T := TX7) (N := 3) (n := 3) hTT inX7 (hTT _ mx_113)
  obtain ⟨cc8, ii8, hK8⟩ := u_known (C := RX8) (T := TX8) (N := 3) (n := 3) hTT inX8 (hTT _ mx_106)
  obtain ⟨cc9, ii9, hK9⟩ := u_known (C := RX9) (T := TX9) (N := 11) (n := 11) hTT inX9 (hTT _ mx_51)
  obtain ⟨cc10, ii10, hK10⟩ := u_known (C := RX10) (T := TX10) (N := 25) (n := 25) hTT inX10 (hTT _ mx_692)
  obtain ⟨dC, dI, hKc⟩ : ∃ (dC : Nat → ClassId) (dI : Nat → Nat → Nat), ∀ (k : Nat) (q : vw_C), classes[k]? = some q → u_Kn s q.1 q.2.1 q.2.2 (dC k) (dI k) := by
    refine ⟨fun k => if k = 0 then cc0 else if k = 1 then cc1 else if k = 2 then cc2 else if k = 3 then cc3 else if k = 4 then cc4 else if k = 5 then cc5 else if k = 6 then cc6 else if k = 7 then cc7 else if k = 8 then cc8 else if k = 9 then cc9 else cc10, fun k => if k = 0 then ii0 else if k = 1 then ii1 else if k = 2 then ii2 else if k = 3 then ii3 else if k = 4 then ii4 else if k = 5 then ii5 else if k = 6 then ii6 else if k = 7 then ii7 else if k = 8 then ii8 else if k = 9 then ii9 else ii10, ?_⟩
    intro k q hq
    match k, hq with
    | 0, hq => cases hq; exact hK0
    | 1, hq => cases hq; exact hK1
    | 2, hq => cases hq; exact hK2
    | 3, hq => cases hq; exact hK3
    | 4, hq => cases hq; exact hK4
    | 5, hq => cases hq; exact hK5
    | 6, hq => cases hq; exact hK6
    | 7, hq => cases hq; exact hK7
    | 8, hq => cases hq; exact hK8
    | 9, hq => cases hq; exact hK9
    | 10, hq => cases hq; exact hK10
    | k + 11, hq => simp [classes] at hq
  obtain ⟨gi, ki, ci, hi1, hi2, hi3⟩ := Cond.arrayClass_spec (hTT _ mx_74)
  obtain ⟨gj, kj, cj, hj1, hj2, hj3⟩ := Cond.arrayClass_spec (hTT _ mx_128)
  have ho1 : (Cond.arrayOver (.object "RoundRows$Round")).before #[Value.ref b] s = true := hts _ (List.mem_of_getElem? (i := 112) (by decide +kernel))
  have ho2 : (Cond.arrayOver (.array .int)).before #[Value.ref b] s = true := hts _ (List.mem_of_getElem? (i := 59) (by decide +kernel))
  obtain ⟨cr, gr, kr, hr1, hr2, hr3, hr4, hr5⟩ := Cond.arrayOver_spec ho1
  obtain ⟨cq, gq, kq, hq1, hq2, hq3, hq4, hq5⟩ := arrayOverA_spec ho2
  cases Option.some.inj (hi1.symm.trans hq1)
  obtain ⟨G, hG⟩ : ∃ G : Gl, G = ((dC, dI), fun _ => 0, gi, gj, gr, gq) := ⟨_, rfl⟩
  have hK : va_K G.1 classes (tysG G) s := by
    rw [hG]
    refine ⟨hKc, fun k q hq => ?_⟩
    match k, hq with
    | 0, hq => cases hq; exact ⟨fun n z => ⟨(fun k h => by cases h), ki, hi2, ci, hi3⟩, hi1⟩
    | 1, hq => cases hq; exact ⟨fun n z => ⟨(fun k h => by cases h), kj, hj2, cj, hj3⟩, hj1⟩
    | 2, hq => cases hq; exact ⟨fun n z => ⟨(fun k h => by cases h), kr, hr3, cr, hr4⟩, kr, cr, hr3, hr4, hr1, hr5⟩
    | 3, hq => cases hq; exact ⟨fun n z => ⟨(fun k h => by cases h), kq, hq3, gi, hq4⟩, hq5⟩
    | k + 4, hq => simp [tysG] at hq
  have hNK : NK G s := ⟨hK, by rw [hG]; exact ⟨kq, hq3, hq4⟩, va_AO.of ho1⟩
  obtain ⟨X, hXx⟩ : ∃ X : Cx, X = (p, l, e, room_1, s, m, #[Value.ref b], below, meth, c, lw_Z below #[Value.ref b] s) := ⟨_, rfl⟩
  have K : WN X G (fun q : Nat => (X.2.2.2.2.1).heap.size ≤ q) 4 0 0 [] 0 [(0, .ref b)] [] := by
    have o : OkN X G (fun q : Nat => (X.2.2.2.2.1).heap.size ≤ q) code 4 R_law 10 382 600000 7302250 := by rw [hXx]; exact ⟨hx, hb, hml, hown, hTT, hNK, fun q h => h, rfl⟩
    refine n_new o (ci := 9) (fs := [.null, .null, .null, .null, .null, .null, .null, .null, .null, .null, .null]) inX9 tyX9 tyX9_ok mx_50 mx_51 mw_36 rfl df_X9 (by decide) (by decide) dL_law_0 (fun q0 => ?_)
    refine n_dup o dL_law_3 rfl ?_
    refine n_init o (c_X9_init (xl X) G q0) om_X9_init mw_53 mw_52 rfl (by decide) (by decide) (Nat.le_of_ble_eq_true rfl) dL_law_4 (fun af => ?_)
    refine n_astore o (lv' := [(1, .ref q0), (0, .ref b)]) dL_law_7 (by decide) rfl ?_
    refine n_new o (ci := 10) (fs := [.null, .null, .int 0, .null, .null, .null, .null, .int 0, .null, .null, .null, .null, .long 0, .long 0, .int 0, .int 0, .int 0, .null, .null, .null, .int 0, .int 0, .null, .int 0, .int 0]) inX10 tyX10 tyX10_ok mx_691 mx_692 mw_46 rfl df_X10 (by decide) (by decide) dL_law_8 (fun q8 => ?_)
    refine n_dup o dL_law_11 rfl ?_
    refine n_init o (c_X10_init (xl X) G q8) om_X10_init mw_694 mw_693 rfl (by decide) (by decide) (Nat.le_of_ble_eq_true rfl) dL_law_12 (fun bf => ?_)
    refine n_astore o (lv' := [(2, .ref q8), (1, .ref q0), (0, .ref b)]) dL_law_15 (by decide) rfl ?_
    refine n_iconst o (v := nI 0) dL_law_16 (by decide) ?_
    refine n_istore o (lv' := [(3, .int (nI 0)), (2, .ref q8), (1, .ref q0), (0, .ref b)]) dL_law_17 (by decide) rfl ?_
    refine n_refs 1 (gq := fun i => if i < 6 then some (gadO q0 q8 af bf (13 + i)) else none) rfl (fun jq hj => ?_) ?_
    · have h6 : jq = 0 ∨ jq = 1 ∨ jq = 2 ∨ jq = 3 ∨ jq = 4 ∨ jq = 5 := by omega
      rcases h6 with rfl | rfl | rfl | rfl | rfl | rfl <;> rfl
    refine n_refs 19 (gq := fun i => if i < 13 then some (gadO q0 q8 af bf (32 + i)) else none) rfl (fun jq hj => ?_) ?_
    · have h6 : jq = 0 ∨ jq = 1 ∨ jq = 2 ∨ jq = 3 ∨ jq = 4 ∨ jq = 5 ∨ jq = 6 ∨ jq = 7 ∨ jq = 8 ∨ jq = 9 ∨ jq = 10 ∨ jq = 11 ∨ jq = 12 := by omega
      rcases h6 with rfl | rfl | rfl | rfl | rfl | rfl | rfl | rfl | rfl | rfl | rfl | rfl | rfl <;> rfl
    refine n_eq (ws' := (wsM1 G q0 q8 af bf ++ wsM2 G q0 q8 af bf ++ wsM3 G q0 q8 af bf)) rfl ?_
    refine n_wid (n1 := 85) (n2 := 1533) (by decide) (by decide) ?_
    refine to_T q0 q8 af bf (fun G2 hG2 hinj hA => ?_)
    have hK2 : va_K G2.1 classes (tysG G2) s := by rw [hG2]; exact hK
    have o2 : OkL X G2 b L xs 85 1533 := by
      rw [hXx] at hA ⊢
      exact ⟨hx, hb, hml, hown, hTT, hK2, hinj, rfl, hX, hbl, hA, by decide, by decide, hL, hlocks, hret, rfl, rfl⟩
    have W0 := law_loop o2 (L + 7) 0 st0 LI_0 (by omega) (by omega)
    rw [hG2] at W0 ⊢
    exact W0
  have hl := lv_entry ([.ref b]) (n := 4) (Nat.le_of_ble_eq_true rfl)
  rw [lg_entry_eq]
  rw [hXx] at K
  exact K s.heap [] _ (fun k q h => by simp at h) ⟨fun i j x y h => by simp at h, fun k q h => by simp at h⟩ va_S.rf hl
