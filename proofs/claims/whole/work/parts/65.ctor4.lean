set_option maxHeartbeats 4000000 in
set_option maxRecDepth 100000 in
theorem x9_in {X : Cx} {G : Gl} {A : Nat → Prop} {nc ns F Lo mc ms : Nat} (o : OkN X G A cX9_init 3 yX9_init.cls F Lo mc ms) {ws : va_W} {rq h0 qo bq : Nat} {fs : List Value} {gq : Nat → Option Nat} (hr : rq < 6) (hlen : 2 + rq < ws.length) (h0e : ws[0]? = some (h0, .inr (9, fs))) (hf0 : fs[0]? = some (.ref qo)) (h1e : ws[1]? = some (qo, .inl (gQ G, 6, .inr (.inr (.inr (.inr (gq))))))) (hg : gq rq = some bq) (kk : ∀ fq : Nat → Int32, (∀ yq, yq < 24 → fq yq = -1000000) → WN X G A 3 nc ns (ws.set (2 + rq) (bq, .inl (gI G, 24, .inl (fq)))) 158 [(2, .int (nI 24)), (1, .int (nI rq)), (0, .ref h0)] []) : ∀ (nq kq : Nat) (fq : Nat → Int32), kq ≤ 24 → 24 - kq < nq → (∀ yq, yq < kq → fq yq = -1000000) → WN X G A 3 nc ns (ws.set (2 + rq) (bq, .inl (gI G, 24, .inl (fq)))) 136 [(2, .int (nI kq)), (1, .int (nI rq)), (0, .ref h0)] [] := by
  intro nq
  induction nq with
  | zero => intro kq fq _ h; exact absurd h (Nat.not_lt_zero _)
  | succ nq ih =>
    intro kq fq hk hm hf
    have s0 : ∀ x : Nat × va_E, (ws.set (2 + rq) x)[0]? = some (h0, .inr (9, fs)) := fun x => by rw [List.getElem?_set_ne (by omega)]; exact h0e
    have s1 : ∀ x : Nat × va_E, (ws.set (2 + rq) x)[1]? = some (qo, .inl (gQ G, 6, .inr (.inr (.inr (.inr (gq)))))) := fun x => by rw [List.getElem?_set_ne (by omega)]; exact h1e
    refine n_iload o dX9_init_136 0 rfl ?_
    refine n_bipush o (v := nI 24) dX9_init_137 (by decide) ?_
    refine n_icmp_ge o (tgt := 158) dX9_init_139 (by decide) (fun z => ?_) (fun z => ?_)
    · rw [nI_leI (by omega) (by omega)] at z
      obtain rfl : kq = 24 := by omega
      exact kk fq hf
    · rw [nI_leI (by omega) (by omega)] at z
      refine n_aload o dX9_init_142 2 rfl ?_
      refine n_get o inX9 0 (s0 _) rfl 0 (by decide) rfl mw_236 hf0 dX9_init_143 ?_
      refine n_iload o dX9_init_146 1 rfl ?_
      refine n_aald o 1 (jq := rq) (s1 _) rfl hr hg dX9_init_147 ?_
      refine n_iload o dX9_init_148 0 rfl ?_
      refine n_ldc o mw_235 dX9_init_149 ?_
      refine n_iast o (2 + rq) (jq := kq) (List.getElem?_set_self hlen) rfl (by omega) (by decide) dX9_init_151 ?_
      rw [List.set_set]
      refine n_iinc o (v := nI (kq + 1)) (lv' := [(2, .int (nI (kq + 1))), (1, .int (nI rq)), (0, .ref h0)]) dX9_init_152 0 rfl (nI_inc kq) (by decide) rfl ?_
      refine n_goto o (tgt := 136) dX9_init_155 (by decide) ?_
      exact ih (kq + 1) (upd fq kq (-1000000)) (by omega) (by omega) (up_fill hf)
set_option maxHeartbeats 4000000 in
set_option maxRecDepth 100000 in
theorem x9_all {X : Cx} {G : Gl} {A : Nat → Prop} {nc ns F Lo mc ms : Nat} (o : OkN X G A cX9_init 3 yX9_init.cls F Lo mc ms) {wr : va_W} {h0 qo : Nat} {fs : List Value} (kk : ∀ lv : List (Nat × Value), WN X G A 3 nc ns ((h0, .inr (9, .ref qo :: fs)) :: (qo, .inl (gQ G, 6, .inr (.inr (.inr (.inr (fun i => if i < 6 then some (qo + 1 + i) else none)))))) :: (qo + 1 + 0, .inl (gI G, 24, .inl (fun _ => -1000000))) :: (qo + 1 + 1, .inl (gI G, 24, .inl (fun _ => -1000000))) :: (qo + 1 + 2, .inl (gI G, 24, .inl (fun _ => -1000000))) :: (qo + 1 + 3, .inl (gI G, 24, .inl (fun _ => -1000000))) :: (qo + 1 + 4, .inl (gI G, 24, .inl (fun _ => -1000000))) :: (qo + 1 + 5, .inl (gI G, 24, .inl (fun _ => -1000000))) :: wr) 164 lv []) : WN X G A 3 nc ns ((h0, .inr (9, .ref qo :: fs)) :: (qo, .inl (gQ G, 6, .inr (.inr (.inr (.inr (fun i => if i < 6 then some (qo + 1 + i) else none)))))) :: (qo + 1 + 0, .inl (gI G, 24, .inl (fun _ => 0))) :: (qo + 1 + 1, .inl (gI G, 24, .inl (fun _ => 0))) :: (qo + 1 + 2, .inl (gI G, 24, .inl (fun _ => 0))) :: (qo + 1 + 3, .inl (gI G, 24, .inl (fun _ => 0))) :: (qo + 1 + 4, .inl (gI G, 24, .inl (fun _ => 0))) :: (qo + 1 + 5, .inl (gI G, 24, .inl (fun _ => 0))) :: wr) 126 [(0, .ref h0)] [] := by
  refine n_iconst o (v := nI 0) dX9_init_126 (by decide) ?_
  refine n_istore o (lv' := [(1, .int (nI 0)), (0, .ref h0)]) dX9_init_127 (by decide) rfl ?_
  refine n_iload o dX9_init_128 0 rfl ?_
  refine n_bipush o (v := nI 6) dX9_init_129 (by decide) ?_
  refine n_icmp_ge o (tgt := 164) dX9_init_131 (by decide) (fun z => absurd z (by decide)) (fun _ => ?_)
  refine n_iconst o (v := nI 0) dX9_init_134 (by decide) ?_
  refine n_istore o (lv' := [(2, .int (nI 0)), (1, .int (nI 0)), (0, .ref h0)]) dX9_init_135 (by decide) rfl ?_
  refine x9_in o (ws := ((h0, .inr (9, .ref qo :: fs)) :: (qo, .inl (gQ G, 6, .inr (.inr (.inr (.inr (fun i => if i < 6 then some (qo + 1 + i) else none)))))) :: (qo + 1 + 0, .inl (gI G, 24, .inl (fun _ => 0))) :: (qo + 1 + 1, .inl (gI G, 24, .inl (fun _ => 0))) :: (qo + 1 + 2, .inl (gI G, 24, .inl (fun _ => 0))) :: (qo + 1 + 3, .inl (gI G, 24, .inl (fun _ => 0))) :: (qo + 1 + 4, .inl (gI G, 24, .inl (fun _ => 0))) :: (qo + 1 + 5, .inl (gI G, 24, .inl (fun _ => 0))) :: wr)) (rq := 0) (fs := .ref qo :: fs) (qo := qo) (bq := qo + 1 + 0) (gq := fun i => if i < 6 then some (qo + 1 + i) else none) (by decide) (Nat.le_of_ble_eq_true rfl) rfl rfl rfl rfl (fun fq hf => ?_) 25 0 (fun _ => 0) (by omega) (by omega) (fun yq h => absurd h (Nat.not_lt_zero yq))
  show WN X G A 3 nc ns ((h0, .inr (9, .ref qo :: fs)) :: (qo, .inl (gQ G, 6, .inr (.inr (.inr (.inr (fun i => if i < 6 then some (qo + 1 + i) else none)))))) :: (qo + 1 + 0, .inl (gI G, 24, .inl (fq))) :: (qo + 1 + 1, .inl (gI G, 24, .inl (fun _ => 0))) :: (qo + 1 + 2, .inl (gI G, 24, .inl (fun _ => 0))) :: (qo + 1 + 3, .inl (gI G, 24, .inl (fun _ => 0))) :: (qo + 1 + 4, .inl (gI G, 24, .inl (fun _ => 0))) :: (qo + 1 + 5, .inl (gI G, 24, .inl (fun _ => 0))) :: wr) 158 [(2, .int (nI 24)), (1, .int (nI 0)), (0, .ref h0)] []
  refine n_arr 2 (gq := fun _ => -1000000) rfl hf ?_
  show WN X G A 3 nc ns ((h0, .inr (9, .ref qo :: fs)) :: (qo, .inl (gQ G, 6, .inr (.inr (.inr (.inr (fun i => if i < 6 then some (qo + 1 + i) else none)))))) :: (qo + 1 + 0, .inl (gI G, 24, .inl (fun _ => -1000000))) :: (qo + 1 + 1, .inl (gI G, 24, .inl (fun _ => 0))) :: (qo + 1 + 2, .inl (gI G, 24, .inl (fun _ => 0))) :: (qo + 1 + 3, .inl (gI G, 24, .inl (fun _ => 0))) :: (qo + 1 + 4, .inl (gI G, 24, .inl (fun _ => 0))) :: (qo + 1 + 5, .inl (gI G, 24, .inl (fun _ => 0))) :: wr) 158 [(2, .int (nI 24)), (1, .int (nI 0)), (0, .ref h0)] []
  refine n_iinc o (v := nI 1) (lv' := [(1, .int (nI 1)), (2, .int (nI 24)), (0, .ref h0)]) dX9_init_158 1 rfl (nI_inc 0) (by decide) rfl ?_
  refine n_goto o (tgt := 128) dX9_init_161 (by decide) ?_
  refine n_iload o dX9_init_128 0 rfl ?_
  refine n_bipush o (v := nI 6) dX9_init_129 (by decide) ?_
  refine n_icmp_ge o (tgt := 164) dX9_init_131 (by decide) (fun z => absurd z (by decide)) (fun _ => ?_)
  refine n_iconst o (v := nI 0) dX9_init_134 (by decide) ?_
  refine n_istore o (lv' := [(2, .int (nI 0)), (1, .int (nI 1)), (0, .ref h0)]) dX9_init_135 (by decide) rfl ?_
  refine x9_in o (ws := ((h0, .inr (9, .ref qo :: fs)) :: (qo, .inl (gQ G, 6, .inr (.inr (.inr (.inr (fun i => if i < 6 then some (qo + 1 + i) else none)))))) :: (qo + 1 + 0, .inl (gI G, 24, .inl (fun _ => -1000000))) :: (qo + 1 + 1, .inl (gI G, 24, .inl (fun _ => 0))) :: (qo + 1 + 2, .inl (gI G, 24, .inl (fun _ => 0))) :: (qo + 1 + 3, .inl (gI G, 24, .inl (fun _ => 0))) :: (qo + 1 + 4, .inl (gI G, 24, .inl (fun _ => 0))) :: (qo + 1 + 5, .inl (gI G, 24, .inl (fun _ => 0))) :: wr)) (rq := 1) (fs := .ref qo :: fs) (qo := qo) (bq := qo + 1 + 1) (gq := fun i => if i < 6 then some (qo + 1 + i) else none) (by decide) (Nat.le_of_ble_eq_true rfl) rfl rfl rfl rfl (fun fq hf => ?_) 25 0 (fun _ => 0) (by omega) (by omega) (fun yq h => absurd h (Nat.not_lt_zero yq))
  show WN X G A 3 nc ns ((h0, .inr (9, .ref qo :: fs)) :: (qo, .inl (gQ G, 6, .inr (.inr (.inr (.inr (fun i => if i < 6 then some (qo + 1 + i) else none)))))) :: (qo + 1 + 0, .inl (gI G, 24, .inl (fun _ => -1000000))) :: (qo + 1 + 1, .inl (gI G, 24, .inl (fq))) :: (qo + 1 + 2, .inl (gI G, 24, .inl (fun _ => 0))) :: (qo + 1 + 3, .inl (gI G, 24, .inl (fun _ => 0))) :: (qo + 1 + 4, .inl (gI G, 24, .inl (fun _ => 0))) :: (qo + 1 + 5, .inl (gI G, 24, .inl (fun _ => 0))) :: wr) 158 [(2, .int (nI 24)), (1, .int (nI 1)), (0, .ref h0)] []
  refine n_arr 3 (gq := fun _ => -1000000) rfl hf ?_
  show WN X G A 3 nc ns ((h0, .inr (9, .ref qo :: fs)) :: (qo, .inl (gQ G, 6, .inr (.inr (.inr (.inr (fun i => if i < 6 then some (qo + 1 + i) else none)))))) :: (qo + 1 + 0, .inl (gI G, 24, .inl (fun _ => -1000000))) :: (qo + 1 + 1, .inl (gI G, 24, .inl (fun _ => -1000000))) :: (qo + 1 + 2, .inl (gI G, 24, .inl (fun _ => 0))) :: (qo + 1 + 3, .inl (gI G, 24, .inl (fun _ => 0))) :: (qo + 1 + 4, .inl (gI G, 24, .inl (fun _ => 0))) :: (qo + 1 + 5, .inl (gI G, 24, .inl (fun _ => 0))) :: wr) 158 [(2, .int (nI 24)), (1, .int (nI 1)), (0, .ref h0)] []
  refine n_iinc o (v := nI 2) (lv' := [(1, .int (nI 2)), (2, .int (nI 24)), (0, .ref h0)]) dX9_init_158 1 rfl (nI_inc 1) (by decide) rfl ?_
  refine n_goto o (tgt := 128) dX9_init_161 (by decide) ?_
  refine n_iload o dX9_init_128 0 rfl ?_
  refine n_bipush o (v := nI 6) dX9_init_129 (by decide) ?_
  refine n_icmp_ge o (tgt := 164) dX9_init_131 (by decide) (fun z => absurd z (by decide)) (fun _ => ?_)
  refine n_iconst o (v := nI 0) dX9_init_134 (by decide) ?_
  refine n_istore o (lv' := [(2, .int (nI 0)), (1, .int (nI 2)), (0, .ref h0)]) dX9_init_135 (by decide) rfl ?_
  refine x9_in o (ws := ((h0, .inr (9, .ref qo :: fs)) :: (qo, .inl (gQ G, 6, .inr (.inr (.inr (.inr (fun i => if i < 6 then some (qo + 1 + i) else none)))))) :: (qo + 1 + 0, .inl (gI G, 24, .inl (fun _ => -1000000))) :: (qo + 1 + 1, .inl (gI G, 24, .inl (fun _ => -1000000))) :: (qo + 1 + 2, .inl (gI G, 24, .inl (fun _ => 0))) :: (qo + 1 + 3, .inl (gI G, 24, .inl (fun _ => 0))) :: (qo + 1 + 4, .inl (gI G, 24, .inl (fun _ => 0))) :: (qo + 1 + 5, .inl (gI G, 24, .inl (fun _ => 0))) :: wr)) (rq := 2) (fs := .ref qo :: fs) (qo := qo) (bq := qo + 1 + 2) (gq := fun i => if i < 6 then some (qo + 1 + i) else none) (by decide) (Nat.le_of_ble_eq_true rfl) rfl rfl rfl rfl (fun fq hf => ?_) 25 0 (fun _ => 0) (by omega) (by omega) (fun yq h => absurd h (Nat.not_lt_zero yq))
  show WN X G A 3 nc ns ((h0, .inr (9, .ref qo :: fs)) :: (qo, .inl (gQ G, 6, .inr (.inr (.inr (.inr (fun i => if i < 6 then some (qo + 1 + i) else none)))))) :: (qo + 1 + 0, .inl (gI G, 24, .inl (fun _ => -1000000))) :: (qo + 1 + 1, .inl (gI G, 24, .inl (fun _ => -1000000))) :: (qo + 1 + 2, .inl (gI G, 24, .inl (fq))) :: (qo + 1 + 3, .inl (gI G, 24, .inl (fun _ => 0))) :: (qo + 1 + 4, .inl (gI G, 24, .inl (fun _ => 0))) :: (qo + 1 + 5, .inl (gI G, 24, .inl (fun _ => 0))) :: wr) 158 [(2, .int (nI 24)), (1, .int (nI 2)), (0, .ref h0)] []
  refine n_arr 4 (gq := fun _ => -1000000) rfl hf ?_
  show WN X G A 3 nc ns ((h0, .inr (9, .ref qo :: fs)) :: (qo, .inl (gQ G, 6, .inr (.inr (.inr (.inr (fun i => if i < 6 then some (qo + 1 + i) else none)))))) :: (qo + 1 + 0, .inl (gI G, 24, .inl (fun _ => -1000000))) :: (qo + 1 + 1, .inl (gI G, 24, .inl (fun _ => -1000000))) :: (qo + 1 + 2, .inl (gI G, 24, .inl (fun _ => -1000000))) :: (qo + 1 + 3, .inl (gI G, 24, .inl (fun _ => 0))) :: (qo + 1 + 4, .inl (gI G, 24, .inl (fun _ => 0))) :: (qo + 1 + 5, .inl (gI G, 24, .inl (fun _ => 0))) :: wr) 158 [(2, .int (nI 24)), (1, .int (nI 2)), (0, .ref h0)] []
  refine n_iinc o (v := nI 3) (lv' := [(1, .int (nI 3)), (2, .int (nI 24)), (0, .ref h0)]) dX9_init_158 1 rfl (nI_inc 2) (by decide) rfl ?_
  refine n_goto o (tgt := 128) dX9_init_161 (by decide) ?_
  refine n_iload o dX9_init_128 0 rfl ?_
  refine n_bipush o (v := nI 6) dX9_init_129 (by decide) ?_
  refine n_icmp_ge o (tgt := 164) dX9_init_131 (by decide) (fun z => absurd z (by decide)) (fun _ => ?_)
  refine n_iconst o (v := nI 0) dX9_init_134 (by decide) ?_
  refine n_istore o (lv' := [(2, .int (nI 0)), (1, .int (nI 3)), (0, .ref h0)]) dX9_init_135 (by decide) rfl ?_
  refine x9_in o (ws := ((h0, .inr (9, .ref qo :: fs)) :: (qo, .inl (gQ G, 6, .inr (.inr (.inr (.inr (fun i => if i < 6 then some (qo + 1 + i) else none)))))) :: (qo + 1 + 0, .inl (gI G, 24, .inl (fun _ => -1000000))) :: (qo + 1 + 1, .inl (gI G, 24, .inl (fun _ => -1000000))) :: (qo + 1 + 2, .inl (gI G, 24, .inl (fun _ => -1000000))) :: (qo + 1 + 3, .inl (gI G, 24, .inl (fun _ => 0))) :: (qo + 1 + 4, .inl (gI G, 24, .inl (fun _ => 0))) :: (qo + 1 + 5, .inl (gI G, 24, .inl (fun _ => 0))) :: wr)) (rq := 3) (fs := .ref qo :: fs) (qo := qo) (bq := qo + 1 + 3) (gq := fun i => if i < 6 then some (qo + 1 + i) else none) (by decide) (Nat.le_of_ble_eq_true rfl) rfl rfl rfl rfl (fun fq hf => ?_) 25 0 (fun _ => 0) (by omega) (by omega) (fun yq h => absurd h (Nat.not_lt_zero yq))
  show WN X G A 3 nc ns ((h0, .inr (9, .ref qo :: fs)) :: (qo, .inl (gQ G, 6, .inr (.inr (.inr (.inr (fun i => if i < 6 then some (qo + 1 + i) else none)))))) :: (qo + 1 + 0, .inl (gI G, 24, .inl (fun _ => -1000000))) :: (qo + 1 + 1, .inl (gI G, 24, .inl (fun _ => -1000000))) :: (qo + 1 + 2, .inl (gI G, 24, .inl (fun _ => -1000000))) :: (qo + 1 + 3, .inl (gI G, 24, .inl (fq))) :: (qo + 1 + 4, .inl (gI G, 24, .inl (fun _ => 0))) :: (qo + 1 + 5, .inl (gI G, 24, .inl (fun _ => 0))) :: wr) 158 [(2, .int (nI 24)), (1, .int (nI 3)), (0, .ref h0)] []
  refine n_arr 5 (gq := fun _ => -1000000) rfl hf ?_
  show WN X G A 3 nc ns ((h0, .inr (9, .ref qo :: fs)) :: (qo, .inl (gQ G, 6, .inr (.inr (.inr (.inr (fun i => if i < 6 then some (qo + 1 + i) else none)))))) :: (qo + 1 + 0, .inl (gI G, 24, .inl (fun _ => -1000000))) :: (qo + 1 + 1, .inl (gI G, 24, .inl (fun _ => -1000000))) :: (qo + 1 + 2, .inl (gI G, 24, .inl (fun _ => -1000000))) :: (qo + 1 + 3, .inl (gI G, 24, .inl (fun _ => -1000000))) :: (qo + 1 + 4, .inl (gI G, 24, .inl (fun _ => 0))) :: (qo + 1 + 5, .inl (gI G, 24, .inl (fun _ => 0))) :: wr) 158 [(2, .int (nI 24)), (1, .int (nI 3)), (0, .ref h0)] []
  refine n_iinc o (v := nI 4) (lv' := [(1, .int (nI 4)), (2, .int (nI 24)), (0, .ref h0)]) dX9_init_158 1 rfl (nI_inc 3) (by decide) rfl ?_
  refine n_goto o (tgt := 128) dX9_init_161 (by decide) ?_
  refine n_iload o dX9_init_128 0 rfl ?_
  refine n_bipush o (v := nI 6) dX9_init_129 (by decide) ?_
  refine n_icmp_ge o (tgt := 164) dX9_init_131 (by decide) (fun z => absurd z (by decide)) (fun _ => ?_)
  refine n_iconst o (v := nI 0) dX9_init_134 (by decide) ?_
  refine n_istore o (lv' := [(2, .int (nI 0)), (1, .int (nI 4)), (0, .ref h0)]) dX9_init_135 (by decide) rfl ?_
  refine x9_in o (ws := ((h0, .inr (9, .ref qo :: fs)) :: (qo, .inl (gQ G, 6, .inr (.inr (.inr (.inr (fun i => if i < 6 then some (qo + 1 + i) else none)))))) :: (qo + 1 + 0, .inl (gI G, 24, .inl (fun _ => -1000000))) :: (qo + 1 + 1, .inl (gI G, 24, .inl (fun _ => -1000000))) :: (qo + 1 + 2, .inl (gI G, 24, .inl (fun _ => -1000000))) :: (qo + 1 + 3, .inl (gI G, 24, .inl (fun _ => -1000000))) :: (qo + 1 + 4, .inl (gI G, 24, .inl (fun _ => 0))) :: (qo + 1 + 5, .inl (gI G, 24, .inl (fun _ => 0))) :: wr)) (rq := 4) (fs := .ref qo :: fs) (qo := qo) (bq := qo + 1 + 4) (gq := fun i => if i < 6 then some (qo + 1 + i) else none) (by decide) (Nat.le_of_ble_eq_true rfl) rfl rfl rfl rfl (fun fq hf => ?_) 25 0 (fun _ => 0) (by omega) (by omega) (fun yq h => absurd h (Nat.not_lt_zero yq))
  show WN X G A 3 nc ns ((h0, .inr (9, .ref qo :: fs)) :: (qo, .inl (gQ G, 6, .inr (.inr (.inr (.inr (fun i => if i < 6 then some (qo + 1 + i) else none)))))) :: (qo + 1 + 0, .inl (gI G, 24, .inl (fun _ => -1000000))) :: (qo + 1 + 1, .inl (gI G, 24, .inl (fun _ => -1000000))) :: (qo + 1 + 2, .inl (gI G, 24, .inl (fun _ => -1000000))) :: (qo + 1 + 3, .inl (gI G, 24, .inl (fun _ => -1000000))) :: (qo + 1 + 4, .inl (gI G, 24, .inl (fq))) :: (qo + 1 + 5, .inl (gI G, 24, .inl (fun _ => 0))) :: wr) 158 [(2, .int (nI 24)), (1, .int (nI 4)), (0, .ref h0)] []
  refine n_arr 6 (gq := fun _ => -1000000) rfl hf ?_
  show WN X G A 3 nc ns ((h0, .inr (9, .ref qo :: fs)) :: (qo, .inl (gQ G, 6, .inr (.inr (.inr (.inr (fun i => if i < 6 then some (qo + 1 + i) else none)))))) :: (qo + 1 + 0, .inl (gI G, 24, .inl (fun _ => -1000000))) :: (qo + 1 + 1, .inl (gI G, 24, .inl (fun _ => -1000000))) :: (qo + 1 + 2, .inl (gI G, 24, .inl (fun _ => -1000000))) :: (qo + 1 + 3, .inl (gI G, 24, .inl (fun _ => -1000000))) :: (qo + 1 + 4, .inl (gI G, 24, .inl (fun _ => -1000000))) :: (qo + 1 + 5, .inl (gI G, 24, .inl (fun _ => 0))) :: wr) 158 [(2, .int (nI 24)), (1, .int (nI 4)), (0, .ref h0)] []
  refine n_iinc o (v := nI 5) (lv' := [(1, .int (nI 5)), (2, .int (nI 24)), (0, .ref h0)]) dX9_init_158 1 rfl (nI_inc 4) (by decide) rfl ?_
  refine n_goto o (tgt := 128) dX9_init_161 (by decide) ?_
  refine n_iload o dX9_init_128 0 rfl ?_
  refine n_bipush o (v := nI 6) dX9_init_129 (by decide) ?_
  refine n_icmp_ge o (tgt := 164) dX9_init_131 (by decide) (fun z => absurd z (by decide)) (fun _ => ?_)
  refine n_iconst o (v := nI 0) dX9_init_134 (by decide) ?_
  refine n_istore o (lv' := [(2, .int (nI 0)), (1, .int (nI 5)), (0, .ref h0)]) dX9_init_135 (by decide) rfl ?_
  refine x9_in o (ws := ((h0, .inr (9, .ref qo :: fs)) :: (qo, .inl (gQ G, 6, .inr (.inr (.inr (.inr (fun i => if i < 6 then some (qo + 1 + i) else none)))))) :: (qo + 1 + 0, .inl (gI G, 24, .inl (fun _ => -1000000))) :: (qo + 1 + 1, .inl (gI G, 24, .inl (fun _ => -1000000))) :: (qo + 1 + 2, .inl (gI G, 24, .inl (fun _ => -1000000))) :: (qo + 1 + 3, .inl (gI G, 24, .inl (fun _ => -1000000))) :: (qo + 1 + 4, .inl (gI G, 24, .inl (fun _ => -1000000))) :: (qo + 1 + 5, .inl (gI G, 24, .inl (fun _ => 0))) :: wr)) (rq := 5) (fs := .ref qo :: fs) (qo := qo) (bq := qo + 1 + 5) (gq := fun i => if i < 6 then some (qo + 1 + i) else none) (by decide) (Nat.le_of_ble_eq_true rfl) rfl rfl rfl rfl (fun fq hf => ?_) 25 0 (fun _ => 0) (by omega) (by omega) (fun yq h => absurd h (Nat.not_lt_zero yq))
  show WN X G A 3 nc ns ((h0, .inr (9, .ref qo :: fs)) :: (qo, .inl (gQ G, 6, .inr (.inr (.inr (.inr (fun i => if i < 6 then some (qo + 1 + i) else none)))))) :: (qo + 1 + 0, .inl (gI G, 24, .inl (fun _ => -1000000))) :: (qo + 1 + 1, .inl (gI G, 24, .inl (fun _ => -1000000))) :: (qo + 1 + 2, .inl (gI G, 24, .inl (fun _ => -1000000))) :: (qo + 1 + 3, .inl (gI G, 24, .inl (fun _ => -1000000))) :: (qo + 1 + 4, .inl (gI G, 24, .inl (fun _ => -1000000))) :: (qo + 1 + 5, .inl (gI G, 24, .inl (fq))) :: wr) 158 [(2, .int (nI 24)), (1, .int (nI 5)), (0, .ref h0)] []
  refine n_arr 7 (gq := fun _ => -1000000) rfl hf ?_
  show WN X G A 3 nc ns ((h0, .inr (9, .ref qo :: fs)) :: (qo, .inl (gQ G, 6, .inr (.inr (.inr (.inr (fun i => if i < 6 then some (qo + 1 + i) else none)))))) :: (qo + 1 + 0, .inl (gI G, 24, .inl (fun _ => -1000000))) :: (qo + 1 + 1, .inl (gI G, 24, .inl (fun _ => -1000000))) :: (qo + 1 + 2, .inl (gI G, 24, .inl (fun _ => -1000000))) :: (qo + 1 + 3, .inl (gI G, 24, .inl (fun _ => -1000000))) :: (qo + 1 + 4, .inl (gI G, 24, .inl (fun _ => -1000000))) :: (qo + 1 + 5, .inl (gI G, 24, .inl (fun _ => -1000000))) :: wr) 158 [(2, .int (nI 24)), (1, .int (nI 5)), (0, .ref h0)] []
  refine n_iinc o (v := nI 6) (lv' := [(1, .int (nI 6)), (2, .int (nI 24)), (0, .ref h0)]) dX9_init_158 1 rfl (nI_inc 5) (by decide) rfl ?_
  refine n_goto o (tgt := 128) dX9_init_161 (by decide) ?_
  refine n_iload o dX9_init_128 0 rfl ?_
  refine n_bipush o (v := nI 6) dX9_init_129 (by decide) ?_
  exact n_icmp_ge o (tgt := 164) dX9_init_131 (by decide) (fun _ => kk _) (fun z => absurd (by decide) z)
