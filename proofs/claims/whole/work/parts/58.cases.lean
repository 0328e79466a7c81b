theorem nf_t {bq : Bool} (h : ¬ bq = false) : bq = true := by cases bq; exact absurd rfl h; rfl
theorem li_x {σ : Sto} {sn : Nat → Nat} {cntq : Nat} {rdq : Nat → Nat} {barq cdq prq trq : Nat} (h : LI σ sn cntq rdq barq cdq prq trq) : LIx σ := ⟨sn, cntq, rdq, barq, cdq, prq, trq, h⟩
theorem sk_eq {σ τq : Sto} (h : τq = σ) : smK σ τq := by rw [h]; exact sk_rfl
theorem sti_cg {σ τq : Sto} {cz kq dz : Nat} {vz : Int32} (h : σ dz = τq dz) : sti σ cz kq vz dz = sti τq cz kq vz dz := by
  by_cases e : dz = cz
  · subst e
    simp [sti, stc, h]
  · rw [sti_ne e, sti_ne e, h]
theorem dl_e7 {σ τq : Sto} {sn : Nat → Nat} {cntq : Nat} {rdq : Nat → Nat} {barq cdq prq trq : Nat} (h : LI σ sn cntq rdq barq cdq prq trq) (hk : τq 71 = σ 71) {rq : Nat} (hr : rq < 6) : dlF σ sn cntq rq = dlM τq sn cntq rq := by
  unfold dlF dlM
  rw [h.2.2.2.2.2.2.1 rq hr, yr_mv hk]
set_option maxHeartbeats 4000000 in
set_option maxRecDepth 100000 in
theorem cs_year {X : Cx} {G : Gl} {bq Lq ncq nsq : Nat} {xv : Nat → Int32} {σ : Sto} (o : OkL X G bq Lq xv ncq nsq) {iq : Nat} (hi : iq + 5 ≤ Lq) (hli : LIx σ) (kk : ∀ τq : Sto, LIx τq → WT X G ncq nsq τq 1023 [(3, .int (nI iq)), (2, .ref (gad G 11)), (1, .ref (gad G 0)), (0, .ref bq)] []) : WT X G ncq nsq σ 152 [(3, .int (nI iq)), (2, .ref (gad G 11)), (1, .ref (gad G 0)), (0, .ref bq)] [] := by
  obtain ⟨sn, cntq, rdq, barq, cdq, prq, trq, h⟩ := hli
  refine tw_aload o dL_law_152 2 rfl ?_
  refine tw_arg o (kq := 1) (j0 := 3) (j3 := 0) (by decide) (by omega) rfl rfl dL_law_153 dL_law_154 dL_law_155 dL_law_156 dL_law_157 ?_
  refine tw_arg o (kq := 2) (j0 := 3) (j3 := 0) (by decide) (by omega) rfl rfl dL_law_158 dL_law_159 dL_law_160 dL_law_161 dL_law_162 ?_
  refine tw_arg o (kq := 3) (j0 := 3) (j3 := 0) (by decide) (by omega) rfl rfl dL_law_163 dL_law_164 dL_law_165 dL_law_166 dL_law_167 ?_
  refine tw_callI o (As := [.int (xv (iq + 1)), .int (xv (iq + 2)), .int (xv (iq + 3))]) (st := []) (c_X9_year (xl X) G σ  (xv (iq + 1)) (xv (iq + 2)) (xv (iq + 3))) om_X9_year mw_271 mw_272 mw_270 (by decide) rfl rfl rfl (by decide) rfl rfl (Nat.le_of_ble_eq_true rfl) dL_law_168 (fun rr1 σσ1 hp1 => ?_)
  refine tw_aload o dL_law_171 1 rfl ?_
  refine tw_arg o (kq := 1) (j0 := 3) (j3 := 0) (by decide) (by omega) rfl rfl dL_law_172 dL_law_173 dL_law_174 dL_law_175 dL_law_176 ?_
  refine tw_arg o (kq := 2) (j0 := 3) (j3 := 0) (by decide) (by omega) rfl rfl dL_law_177 dL_law_178 dL_law_179 dL_law_180 dL_law_181 ?_
  refine tw_arg o (kq := 3) (j0 := 3) (j3 := 0) (by decide) (by omega) rfl rfl dL_law_182 dL_law_183 dL_law_184 dL_law_185 dL_law_186 ?_
  refine tw_callI o (As := [.int (xv (iq + 1)), .int (xv (iq + 2)), .int (xv (iq + 3))]) (st := [.int rr1]) (c_X10_year (xl X) G σσ1  (xv (iq + 1)) (xv (iq + 2)) (xv (iq + 3))) om_X10_year mw_775 mw_776 mw_774 (by decide) rfl rfl rfl (by decide) rfl rfl (Nat.le_of_ble_eq_true rfl) dL_law_187 (fun rr2 σσ2 hp2 => ?_)
  have key : rr1 = rr2 ∧ ∃ τq : Sto, LIx τq ∧ ∀ H : Heap, va_P G.1 classes (wld G σσ2) H → va_P G.1 classes (wld G τq) H := by
    by_cases z1 : inB (nI 0) (nI 5) (xv (iq + 1)) = false
    · rw [if_pos z1] at hp1 hp2
      exact ⟨hp1.1.trans hp2.1.symm, σσ2, ⟨_, _, _, _, _, _, _, LI_mv (LI_mv h (sk_eq hp1.2)) (sk_eq hp2.2)⟩, fun _ q => q⟩
    · rw [if_neg z1] at hp1 hp2
      by_cases z2 : (inB (nI 0) (nI 23) (xv (iq + 2)) && nonB (xv (iq + 3))) = false
      · rw [if_pos z2] at hp1 hp2
        exact ⟨hp1.1.trans hp2.1.symm, σσ2, ⟨_, _, _, _, _, _, _, LI_mv (LI_mv h (sk_eq hp1.2)) (sk_eq hp2.2)⟩, fun _ q => q⟩
      · rw [if_neg z2] at hp1 hp2
        have y1 := nf_t z1
        have y2 := nf_t z2
        rw [Bool.and_eq_true] at y2
        obtain ⟨e1, k1⟩ := hp1
        obtain ⟨e2, k2⟩ := hp2
        have hr := in5 y1
        have hy : (xv (iq + 2)).toNatClampNeg < 24 := by have := (inB_nI (n := 23) (by decide) y2.1).2; omega
        rw [k1] at e2 k2
        obtain ⟨w1, w2⟩ := year_LI h hr hy y2.2 k2
        refine ⟨?_, nrm σσ2, ⟨_, _, _, _, _, _, _, w1⟩, fun H q => nrm_P w2 q⟩
        rw [e1, e2, sti_ne (by omega), h.2.2.2.2.2.2.1 _ hr]
        rfl
  obtain ⟨heq, τq, hx, ht⟩ := key
  exact tw_icmp_eq o (tgt := 1023) dL_law_190 (by decide) (fun _ => tw_sto ht (kk τq hx)) (fun z => absurd heq z)
set_option maxHeartbeats 4000000 in
set_option maxRecDepth 100000 in
theorem cs_say {X : Cx} {G : Gl} {bq Lq ncq nsq : Nat} {xv : Nat → Int32} {σ : Sto} (o : OkL X G bq Lq xv ncq nsq) {iq : Nat} (hi : iq + 5 ≤ Lq) (hli : LIx σ) (kk : ∀ τq : Sto, LIx τq → WT X G ncq nsq τq 1023 [(3, .int (nI iq)), (2, .ref (gad G 11)), (1, .ref (gad G 0)), (0, .ref bq)] []) : WT X G ncq nsq σ 195 [(3, .int (nI iq)), (2, .ref (gad G 11)), (1, .ref (gad G 0)), (0, .ref bq)] [] := by
  obtain ⟨sn, cntq, rdq, barq, cdq, prq, trq, h⟩ := hli
  refine tw_aload o dL_law_195 2 rfl ?_
  refine tw_arg o (kq := 1) (j0 := 3) (j3 := 0) (by decide) (by omega) rfl rfl dL_law_196 dL_law_197 dL_law_198 dL_law_199 dL_law_200 ?_
  refine tw_callI o (As := [.int (xv (iq + 1))]) (st := []) (c_X9_say (xl X) G σ sn cntq h.1 (xv (iq + 1))) om_X9_say mw_289 mw_290 mw_288 (by decide) rfl rfl rfl (by decide) rfl rfl (Nat.le_of_ble_eq_true rfl) dL_law_201 (fun rr1 σσ1 hp1 => ?_)
  have hq : σσ1 11 = σ 11 ∧ σσ1 72 = σ 72 := by
    split at hp1
    · rw [hp1.2]; exact ⟨rfl, rfl⟩
    · split at hp1
      · rw [hp1.2]; exact ⟨rfl, rfl⟩
      · rw [hp1.2]; constructor <;> simp (disch := omega) only [sti_ne]
  have hPM : PadM σσ1 sn cntq := padM_mv h.2.1 (by rw [hq.1]) hq.2
  refine tw_aload o dL_law_204 1 rfl ?_
  refine tw_arg o (kq := 1) (j0 := 3) (j3 := 0) (by decide) (by omega) rfl rfl dL_law_205 dL_law_206 dL_law_207 dL_law_208 dL_law_209 ?_
  refine tw_callI o (As := [.int (xv (iq + 1))]) (st := [.int rr1]) (c_X10_say (xl X) G σσ1 sn cntq hPM (xv (iq + 1))) om_X10_say mw_794 mw_795 mw_793 (by decide) rfl rfl rfl (by decide) rfl rfl (Nat.le_of_ble_eq_true rfl) dL_law_210 (fun rr2 σσ2 hp2 => ?_)
  have key : rr1 = rr2 ∧ ∃ τq : Sto, LIx τq ∧ ∀ H : Heap, va_P G.1 classes (wld G σσ2) H → va_P G.1 classes (wld G τq) H := by
    by_cases z1 : inB (nI 33) (nI 126) (xv (iq + 1)) = false
    · rw [if_pos z1] at hp1 hp2
      exact ⟨hp1.1.trans hp2.1.symm, σσ2, ⟨_, _, _, _, _, _, _, LI_mv (LI_mv h (sk_eq hp1.2)) (sk_eq hp2.2)⟩, fun _ q => q⟩
    · rw [if_neg z1] at hp1 hp2
      by_cases z2 : 20 ≤ cntq
      · rw [if_pos z2] at hp1 hp2
        exact ⟨hp1.1.trans hp2.1.symm, σσ2, ⟨_, _, _, _, _, _, _, LI_mv (LI_mv h (sk_eq hp1.2)) (sk_eq hp2.2)⟩, fun _ q => q⟩
      · rw [if_neg z2] at hp1 hp2
        have y1 := nf_t z1
        obtain ⟨e1, k1⟩ := hp1
        obtain ⟨e2, k2⟩ := hp2
        rw [k1] at k2
        exact ⟨e1.trans e2.symm, σσ2, by rw [k2]; exact li_x (say_LI h y1 z2), fun _ q => q⟩
  obtain ⟨heq, τq, hx, ht⟩ := key
  exact tw_icmp_eq o (tgt := 1023) dL_law_213 (by decide) (fun _ => tw_sto ht (kk τq hx)) (fun z => absurd heq z)
set_option maxHeartbeats 4000000 in
set_option maxRecDepth 100000 in
theorem cs_wipe {X : Cx} {G : Gl} {bq Lq ncq nsq : Nat} {xv : Nat → Int32} {σ : Sto} (o : OkL X G bq Lq xv ncq nsq) {iq : Nat} (hi : iq + 5 ≤ Lq) (hli : LIx σ) (kk : ∀ τq : Sto, LIx τq → WT X G ncq nsq τq 1023 [(3, .int (nI iq)), (2, .ref (gad G 11)), (1, .ref (gad G 0)), (0, .ref bq)] []) : WT X G ncq nsq σ 218 [(3, .int (nI iq)), (2, .ref (gad G 11)), (1, .ref (gad G 0)), (0, .ref bq)] [] := by
  obtain ⟨sn, cntq, rdq, barq, cdq, prq, trq, h⟩ := hli
  refine tw_aload o dL_law_218 2 rfl ?_
  refine tw_callI o (As := []) (st := []) (c_X9_wipe (xl X) G σ sn cntq h.1 ) om_X9_wipe mw_302 mw_303 mw_301 (by decide) rfl rfl rfl (by decide) rfl rfl (Nat.le_of_ble_eq_true rfl) dL_law_219 (fun rr1 σσ1 hp1 => ?_)
  have hPM : PadM σσ1 sn cntq := padM_mv h.2.1 (by rw [hp1.2, sti_ne (by omega)]) (by rw [hp1.2, sti_ne (by omega)])
  refine tw_aload o dL_law_222 1 rfl ?_
  refine tw_callI o (As := []) (st := [.int rr1]) (c_X10_wipe (xl X) G σσ1 sn cntq hPM ) om_X10_wipe mw_800 mw_801 mw_799 (by decide) rfl rfl rfl (by decide) rfl rfl (Nat.le_of_ble_eq_true rfl) dL_law_223 (fun rr2 σσ2 hp2 => ?_)
  have key : rr1 = rr2 ∧ ∃ τq : Sto, LIx τq ∧ ∀ H : Heap, va_P G.1 classes (wld G σσ2) H → va_P G.1 classes (wld G τq) H := by
    obtain ⟨e1, k1⟩ := hp1
    obtain ⟨e2, k2⟩ := hp2
    rw [k1] at k2
    exact ⟨e1.trans e2.symm, σσ2, by rw [k2]; exact li_x (wipe_LI h), fun _ q => q⟩
  obtain ⟨heq, τq, hx, ht⟩ := key
  exact tw_icmp_eq o (tgt := 1023) dL_law_226 (by decide) (fun _ => tw_sto ht (kk τq hx)) (fun z => absurd heq z)
set_option maxHeartbeats 4000000 in
set_option maxRecDepth 100000 in
theorem cs_fault {X : Cx} {G : Gl} {bq Lq ncq nsq : Nat} {xv : Nat → Int32} {σ : Sto} (o : OkL X G bq Lq xv ncq nsq) {iq : Nat} (hi : iq + 5 ≤ Lq) (hli : LIx σ) (kk : ∀ τq : Sto, LIx τq → WT X G ncq nsq τq 1023 [(3, .int (nI iq)), (2, .ref (gad G 11)), (1, .ref (gad G 0)), (0, .ref bq)] []) : WT X G ncq nsq σ 231 [(3, .int (nI iq)), (2, .ref (gad G 11)), (1, .ref (gad G 0)), (0, .ref bq)] [] := by
  obtain ⟨sn, cntq, rdq, barq, cdq, prq, trq, h⟩ := hli
  refine tw_aload o dL_law_231 2 rfl ?_
  refine tw_callI o (As := []) (st := []) (c_X9_fault (xl X) G σ sn cntq h.1 ) om_X9_fault mw_310 mw_311 mw_309 (by decide) rfl rfl rfl (by decide) rfl rfl (Nat.le_of_ble_eq_true rfl) dL_law_232 (fun rr1 σσ1 hp1 => ?_)
  obtain ⟨e1, k1⟩ := hp1
  have sk := sk_eq k1
  have h1 := LI_mv h sk
  refine tw_aload o dL_law_235 1 rfl ?_
  refine tw_callI o (As := []) (st := [.int rr1]) (c_X10_fault (xl X) G σσ1 sn cntq h1.2.1 ) om_X10_fault mw_804 mw_805 mw_803 (by decide) rfl rfl rfl (by decide) rfl rfl (Nat.le_of_ble_eq_true rfl) dL_law_236 (fun rr2 σσ2 hp2 => ?_)
  obtain ⟨e2, k2⟩ := hp2
  have key : rr1 = rr2 ∧ ∃ τq : Sto, LIx τq ∧ ∀ H : Heap, va_P G.1 classes (wld G σσ2) H → va_P G.1 classes (wld G τq) H := by
    refine ⟨?_, σσ2, ⟨_, _, _, _, _, _, _, LI_mv h1 (sk_eq k2)⟩, fun _ q => q⟩
    rw [e1, e2]
  obtain ⟨heq, τq, hx, ht⟩ := key
  exact tw_icmp_eq o (tgt := 1023) dL_law_239 (by decide) (fun _ => tw_sto ht (kk τq hx)) (fun z => absurd heq z)
set_option maxHeartbeats 4000000 in
set_option maxRecDepth 100000 in
theorem cs_dealt {X : Cx} {G : Gl} {bq Lq ncq nsq : Nat} {xv : Nat → Int32} {σ : Sto} (o : OkL X G bq Lq xv ncq nsq) {iq : Nat} (hi : iq + 5 ≤ Lq) (hli : LIx σ) (kk : ∀ τq : Sto, LIx τq → WT X G ncq nsq τq 1023 [(3, .int (nI iq)), (2, .ref (gad G 11)), (1, .ref (gad G 0)), (0, .ref bq)] []) : WT X G ncq nsq σ 244 [(3, .int (nI iq)), (2, .ref (gad G 11)), (1, .ref (gad G 0)), (0, .ref bq)] [] := by
  obtain ⟨sn, cntq, rdq, barq, cdq, prq, trq, h⟩ := hli
  refine tw_aload o dL_law_244 2 rfl ?_
  refine tw_arg o (kq := 1) (j0 := 3) (j3 := 0) (by decide) (by omega) rfl rfl dL_law_245 dL_law_246 dL_law_247 dL_law_248 dL_law_249 ?_
  refine tw_arg o (kq := 2) (j0 := 3) (j3 := 0) (by decide) (by omega) rfl rfl dL_law_250 dL_law_251 dL_law_252 dL_law_253 dL_law_254 ?_
  refine tw_callI o (As := [.int (xv (iq + 1)), .int (xv (iq + 2))]) (st := []) (c_X9_dealt (xl X) G σ sn cntq h.1 (xv (iq + 1)) (xv (iq + 2))) om_X9_dealt mw_338 mw_339 mw_337 (by decide) rfl rfl rfl (by decide) rfl rfl (Nat.le_of_ble_eq_true rfl) dL_law_255 (fun rr1 σσ1 hp1 => ?_)
  obtain ⟨e1, k1⟩ := hp1
  have sk := sk_C k1
  have h1 := LI_mv h sk
  refine tw_aload o dL_law_258 1 rfl ?_
  refine tw_arg o (kq := 1) (j0 := 3) (j3 := 0) (by decide) (by omega) rfl rfl dL_law_259 dL_law_260 dL_law_261 dL_law_262 dL_law_263 ?_
  refine tw_arg o (kq := 2) (j0 := 3) (j3 := 0) (by decide) (by omega) rfl rfl dL_law_264 dL_law_265 dL_law_266 dL_law_267 dL_law_268 ?_
  refine tw_callI o (As := [.int (xv (iq + 1)), .int (xv (iq + 2))]) (st := [.int rr1]) (c_X10_dealt (xl X) G σσ1 sn cntq h1.2.1 h1.2.2.2.2.2.2.2.1 (xv (iq + 1)) (xv (iq + 2))) om_X10_dealt mw_824 mw_825 mw_823 (by decide) rfl rfl rfl (by decide) rfl rfl (Nat.le_of_ble_eq_true rfl) dL_law_269 (fun rr2 σσ2 hp2 => ?_)
  obtain ⟨e2, k2⟩ := hp2
  have key : rr1 = rr2 ∧ ∃ τq : Sto, LIx τq ∧ ∀ H : Heap, va_P G.1 classes (wld G σσ2) H → va_P G.1 classes (wld G τq) H := by
    refine ⟨?_, σσ2, ⟨_, _, _, _, _, _, _, LI_mv h1 (sk_M k2)⟩, fun _ q => q⟩
    rw [e1, e2]
    exact if_dl (fun z => by rw [dl_e h sk (row_lt z)])
  obtain ⟨heq, τq, hx, ht⟩ := key
  exact tw_icmp_eq o (tgt := 1023) dL_law_272 (by decide) (fun _ => tw_sto ht (kk τq hx)) (fun z => absurd heq z)
set_option maxHeartbeats 4000000 in
set_option maxRecDepth 100000 in
theorem cs_share {X : Cx} {G : Gl} {bq Lq ncq nsq : Nat} {xv : Nat → Int32} {σ : Sto} (o : OkL X G bq Lq xv ncq nsq) {iq : Nat} (hi : iq + 5 ≤ Lq) (hli : LIx σ) (kk : ∀ τq : Sto, LIx τq → WT X G ncq nsq τq 1023 [(3, .int (nI iq)), (2, .ref (gad G 11)), (1, .ref (gad G 0)), (0, .ref bq)] []) : WT X G ncq nsq σ 277 [(3, .int (nI iq)), (2, .ref (gad G 11)), (1, .ref (gad G 0)), (0, .ref bq)] [] := by
  obtain ⟨sn, cntq, rdq, barq, cdq, prq, trq, h⟩ := hli
  refine tw_aload o dL_law_277 2 rfl ?_
  refine tw_arg o (kq := 1) (j0 := 3) (j3 := 0) (by decide) (by omega) rfl rfl dL_law_278 dL_law_279 dL_law_280 dL_law_281 dL_law_282 ?_
  refine tw_arg o (kq := 2) (j0 := 3) (j3 := 0) (by decide) (by omega) rfl rfl dL_law_283 dL_law_284 dL_law_285 dL_law_286 dL_law_287 ?_
  refine tw_arg o (kq := 3) (j0 := 3) (j3 := 0) (by decide) (by omega) rfl rfl dL_law_288 dL_law_289 dL_law_290 dL_law_291 dL_law_292 ?_
  refine tw_callL o (As := [.int (xv (iq + 1)), .int (xv (iq + 2)), .int (xv (iq + 3))]) (st := []) (c_X9_share (xl X) G σ sn cntq h.1 (xv (iq + 1)) (xv (iq + 2)) (xv (iq + 3))) om_X9_share mw_382 mw_383 mw_381 (by decide) rfl rfl rfl (by decide) rfl rfl (Nat.le_of_ble_eq_true rfl) dL_law_293 (fun rr1 σσ1 hp1 => ?_)
  obtain ⟨e1, k1⟩ := hp1
  have sk := sk_C k1
  have h1 := LI_mv h sk
  refine tw_aload o dL_law_296 1 rfl ?_
  refine tw_arg o (kq := 1) (j0 := 3) (j3 := 0) (by decide) (by omega) rfl rfl dL_law_297 dL_law_298 dL_law_299 dL_law_300 dL_law_301 ?_
  refine tw_arg o (kq := 2) (j0 := 3) (j3 := 0) (by decide) (by omega) rfl rfl dL_law_302 dL_law_303 dL_law_304 dL_law_305 dL_law_306 ?_
  refine tw_arg o (kq := 3) (j0 := 3) (j3 := 0) (by decide) (by omega) rfl rfl dL_law_307 dL_law_308 dL_law_309 dL_law_310 dL_law_311 ?_
  refine tw_callL o (As := [.int (xv (iq + 1)), .int (xv (iq + 2)), .int (xv (iq + 3))]) (st := [.long rr1]) (c_X10_share (xl X) G σσ1 sn cntq h1.2.1 h1.2.2.2.2.2.2.2.1 (xv (iq + 1)) (xv (iq + 2)) (xv (iq + 3))) om_X10_share mw_847 mw_848 mw_846 (by decide) rfl rfl rfl (by decide) rfl rfl (Nat.le_of_ble_eq_true rfl) dL_law_312 (fun rr2 σσ2 hp2 => ?_)
  obtain ⟨e2, k2⟩ := hp2
  have key : rr1 = rr2 ∧ ∃ τq : Sto, LIx τq ∧ ∀ H : Heap, va_P G.1 classes (wld G σσ2) H → va_P G.1 classes (wld G τq) H := by
    refine ⟨?_, σσ2, ⟨_, _, _, _, _, _, _, LI_mv h1 (sk_M k2)⟩, fun _ q => q⟩
    rw [e1, e2]
    exact if_dl (fun z => by rw [dl_e h sk (row_lt z)]; first | done | rfl)
  obtain ⟨heq, τq, hx, ht⟩ := key
  refine tw_lcmp o dL_law_315 ?_
  exact tw_if_eq o (tgt := 1023) dL_law_316 (by decide) (fun _ => tw_sto ht (kk τq hx)) (fun z => absurd ((lg_cmp_eq _ _).mpr heq) z)
set_option maxHeartbeats 4000000 in
set_option maxRecDepth 100000 in
theorem cs_odds {X : Cx} {G : Gl} {bq Lq ncq nsq : Nat} {xv : Nat → Int32} {σ : Sto} (o : OkL X G bq Lq xv ncq nsq) {iq : Nat} (hi : iq + 5 ≤ Lq) (hli : LIx σ) (kk : ∀ τq : Sto, LIx τq → WT X G ncq nsq τq 1023 [(3, .int (nI iq)), (2, .ref (gad G 11)), (1, .ref (gad G 0)), (0, .ref bq)] []) : WT X G ncq nsq σ 321 [(3, .int (nI iq)), (2, .ref (gad G 11)), (1, .ref (gad G 0)), (0, .ref bq)] [] := by
  obtain ⟨sn, cntq, rdq, barq, cdq, prq, trq, h⟩ := hli
  refine tw_aload o dL_law_321 2 rfl ?_
  refine tw_arg o (kq := 1) (j0 := 3) (j3 := 0) (by decide) (by omega) rfl rfl dL_law_322 dL_law_323 dL_law_324 dL_law_325 dL_law_326 ?_
  refine tw_arg o (kq := 2) (j0 := 3) (j3 := 0) (by decide) (by omega) rfl rfl dL_law_327 dL_law_328 dL_law_329 dL_law_330 dL_law_331 ?_
  refine tw_arg o (kq := 3) (j0 := 3) (j3 := 0) (by decide) (by omega) rfl rfl dL_law_332 dL_law_333 dL_law_334 dL_law_335 dL_law_336 ?_
  refine tw_callL o (As := [.int (xv (iq + 1)), .int (xv (iq + 2)), .int (xv (iq + 3))]) (st := []) (c_X9_odds (xl X) G σ sn cntq h.1 (xv (iq + 1)) (xv (iq + 2)) (xv (iq + 3))) om_X9_odds mw_452 mw_453 mw_451 (by decide) rfl rfl rfl (by decide) rfl rfl (Nat.le_of_ble_eq_true rfl) dL_law_337 (fun rr1 σσ1 hp1 => ?_)
  obtain ⟨e1, k1⟩ := hp1
  have sk := sk_C k1
  have h1 := LI_mv h sk
  refine tw_aload o dL_law_340 1 rfl ?_
  refine tw_arg o (kq := 1) (j0 := 3) (j3 := 0) (by decide) (by omega) rfl rfl dL_law_341 dL_law_342 dL_law_343 dL_law_344 dL_law_345 ?_
  refine tw_arg o (kq := 2) (j0 := 3) (j3 := 0) (by decide) (by omega) rfl rfl dL_law_346 dL_law_347 dL_law_348 dL_law_349 dL_law_350 ?_
  refine tw_arg o (kq := 3) (j0 := 3) (j3 := 0) (by decide) (by omega) rfl rfl dL_law_351 dL_law_352 dL_law_353 dL_law_354 dL_law_355 ?_
  refine tw_callL o (As := [.int (xv (iq + 1)), .int (xv (iq + 2)), .int (xv (iq + 3))]) (st := [.long rr1]) (c_X10_odds (xl X) G σσ1 sn cntq h1.2.1 h1.2.2.2.2.2.2.2.1 (xv (iq + 1)) (xv (iq + 2)) (xv (iq + 3))) om_X10_odds mw_886 mw_887 mw_885 (by decide) rfl rfl rfl (by decide) rfl rfl (Nat.le_of_ble_eq_true rfl) dL_law_356 (fun rr2 σσ2 hp2 => ?_)
  obtain ⟨e2, k2⟩ := hp2
  have key : rr1 = rr2 ∧ ∃ τq : Sto, LIx τq ∧ ∀ H : Heap, va_P G.1 classes (wld G σσ2) H → va_P G.1 classes (wld G τq) H := by
    refine ⟨?_, σσ2, ⟨_, _, _, _, _, _, _, LI_mv h1 (sk_M k2)⟩, fun _ q => q⟩
    rw [e1, e2]
    exact if_dl (fun z => by rw [dl_e h sk (row_lt z)]; first | done | rfl)
  obtain ⟨heq, τq, hx, ht⟩ := key
  refine tw_lcmp o dL_law_359 ?_
  exact tw_if_eq o (tgt := 1023) dL_law_360 (by decide) (fun _ => tw_sto ht (kk τq hx)) (fun z => absurd ((lg_cmp_eq _ _).mpr heq) z)
set_option maxHeartbeats 4000000 in
set_option maxRecDepth 100000 in
theorem cs_tried {X : Cx} {G : Gl} {bq Lq ncq nsq : Nat} {xv : Nat → Int32} {σ : Sto} (o : OkL X G bq Lq xv ncq nsq) {iq : Nat} (hi : iq + 5 ≤ Lq) (hli : LIx σ) (kk : ∀ τq : Sto, LIx τq → WT X G ncq nsq τq 1023 [(3, .int (nI iq)), (2, .ref (gad G 11)), (1, .ref (gad G 0)), (0, .ref bq)] []) : WT X G ncq nsq σ 365 [(3, .int (nI iq)), (2, .ref (gad G 11)), (1, .ref (gad G 0)), (0, .ref bq)] [] := by
  obtain ⟨sn, cntq, rdq, barq, cdq, prq, trq, h⟩ := hli
  refine tw_aload o dL_law_365 2 rfl ?_
  refine tw_arg o (kq := 1) (j0 := 3) (j3 := 0) (by decide) (by omega) rfl rfl dL_law_366 dL_law_367 dL_law_368 dL_law_369 dL_law_370 ?_
  refine tw_arg o (kq := 2) (j0 := 3) (j3 := 0) (by decide) (by omega) rfl rfl dL_law_371 dL_law_372 dL_law_373 dL_law_374 dL_law_375 ?_
  refine tw_arg o (kq := 3) (j0 := 3) (j3 := 0) (by decide) (by omega) rfl rfl dL_law_376 dL_law_377 dL_law_378 dL_law_379 dL_law_380 ?_
  refine tw_arg o (kq := 4) (j0 := 3) (j3 := 0) (by decide) (by omega) rfl rfl dL_law_381 dL_law_382 dL_law_383 dL_law_384 dL_law_385 ?_
  refine tw_callL o (As := [.int (xv (iq + 1)), .int (xv (iq + 2)), .int (xv (iq + 3)), .int (xv (iq + 4))]) (st := []) (c_X9_tried (xl X) G σ sn cntq h.1 (xv (iq + 1)) (xv (iq + 2)) (xv (iq + 3)) (xv (iq + 4))) om_X9_tried mw_485 mw_486 mw_484 (by decide) rfl rfl rfl (by decide) rfl rfl (Nat.le_of_ble_eq_true rfl) dL_law_386 (fun rr1 σσ1 hp1 => ?_)
  obtain ⟨e1, k1⟩ := hp1
  have sk := sk_C k1
  have h1 := LI_mv h sk
  refine tw_aload o dL_law_389 1 rfl ?_
  refine tw_arg o (kq := 1) (j0 := 3) (j3 := 0) (by decide) (by omega) rfl rfl dL_law_390 dL_law_391 dL_law_392 dL_law_393 dL_law_394 ?_
  refine tw_arg o (kq := 2) (j0 := 3) (j3 := 0) (by decide) (by omega) rfl rfl dL_law_395 dL_law_396 dL_law_397 dL_law_398 dL_law_399 ?_
  refine tw_arg o (kq := 3) (j0 := 3) (j3 := 0) (by decide) (by omega) rfl rfl dL_law_400 dL_law_401 dL_law_402 dL_law_403 dL_law_404 ?_
  refine tw_arg o (kq := 4) (j0 := 3) (j3 := 0) (by decide) (by omega) rfl rfl dL_law_405 dL_law_406 dL_law_407 dL_law_408 dL_law_409 ?_
  refine tw_callL o (As := [.int (xv (iq + 1)), .int (xv (iq + 2)), .int (xv (iq + 3)), .int (xv (iq + 4))]) (st := [.long rr1]) (c_X10_tried (xl X) G σσ1 sn cntq h1.2.1 h1.2.2.2.2.2.2.2.1 (xv (iq + 1)) (xv (iq + 2)) (xv (iq + 3)) (xv (iq + 4))) om_X10_tried mw_890 mw_891 mw_907 (by decide) rfl rfl rfl (by decide) rfl rfl (Nat.le_of_ble_eq_true rfl) dL_law_410 (fun rr2 σσ2 hp2 => ?_)
  obtain ⟨e2, k2⟩ := hp2
  have key : rr1 = rr2 ∧ ∃ τq : Sto, LIx τq ∧ ∀ H : Heap, va_P G.1 classes (wld G σσ2) H → va_P G.1 classes (wld G τq) H := by
    refine ⟨?_, σσ2, ⟨_, _, _, _, _, _, _, LI_mv h1 (sk_M k2)⟩, fun _ q => q⟩
    rw [e1, e2]
    exact if_dl (fun z => by rw [dl_e h sk (row_lt z)]; first | done | rfl)
  obtain ⟨heq, τq, hx, ht⟩ := key
  refine tw_lcmp o dL_law_413 ?_
  exact tw_if_eq o (tgt := 1023) dL_law_414 (by decide) (fun _ => tw_sto ht (kk τq hx)) (fun z => absurd ((lg_cmp_eq _ _).mpr heq) z)
set_option maxHeartbeats 4000000 in
set_option maxRecDepth 100000 in
theorem cs_drawn {X : Cx} {G : Gl} {bq Lq ncq nsq : Nat} {xv : Nat → Int32} {σ : Sto} (o : OkL X G bq Lq xv ncq nsq) {iq : Nat} (hi : iq + 5 ≤ Lq) (hli : LIx σ) (kk : ∀ τq : Sto, LIx τq → WT X G ncq nsq τq 1023 [(3, .int (nI iq)), (2, .ref (gad G 11)), (1, .ref (gad G 0)), (0, .ref bq)] []) : WT X G ncq nsq σ 419 [(3, .int (nI iq)), (2, .ref (gad G 11)), (1, .ref (gad G 0)), (0, .ref bq)] [] := by
  obtain ⟨sn, cntq, rdq, barq, cdq, prq, trq, h⟩ := hli
  refine tw_aload o dL_law_419 2 rfl ?_
  refine tw_arg o (kq := 1) (j0 := 3) (j3 := 0) (by decide) (by omega) rfl rfl dL_law_420 dL_law_421 dL_law_422 dL_law_423 dL_law_424 ?_
  refine tw_arg o (kq := 2) (j0 := 3) (j3 := 0) (by decide) (by omega) rfl rfl dL_law_425 dL_law_426 dL_law_427 dL_law_428 dL_law_429 ?_
  refine tw_arg o (kq := 3) (j0 := 3) (j3 := 0) (by decide) (by omega) rfl rfl dL_law_430 dL_law_431 dL_law_432 dL_law_433 dL_law_434 ?_
  refine tw_arg o (kq := 4) (j0 := 3) (j3 := 0) (by decide) (by omega) rfl rfl dL_law_435 dL_law_436 dL_law_437 dL_law_438 dL_law_439 ?_
  refine tw_callI o (As := [.int (xv (iq + 1)), .int (xv (iq + 2)), .int (xv (iq + 3)), .int (xv (iq + 4))]) (st := []) (c_X9_drawn (xl X) G σ sn cntq h.1 (xv (iq + 1)) (xv (iq + 2)) (xv (iq + 3)) (xv (iq + 4))) om_X9_drawn mw_489 mw_490 mw_488 (by decide) rfl rfl rfl (by decide) rfl rfl (Nat.le_of_ble_eq_true rfl) dL_law_440 (fun rr1 σσ1 hp1 => ?_)
  obtain ⟨e1, k1⟩ := hp1
  have sk := sk_C k1
  have h1 := LI_mv h sk
  refine tw_aload o dL_law_443 1 rfl ?_
  refine tw_arg o (kq := 1) (j0 := 3) (j3 := 0) (by decide) (by omega) rfl rfl dL_law_444 dL_law_445 dL_law_446 dL_law_447 dL_law_448 ?_
  refine tw_arg o (kq := 2) (j0 := 3) (j3 := 0) (by decide) (by omega) rfl rfl dL_law_449 dL_law_450 dL_law_451 dL_law_452 dL_law_453 ?_
  refine tw_arg o (kq := 3) (j0 := 3) (j3 := 0) (by decide) (by omega) rfl rfl dL_law_454 dL_law_455 dL_law_456 dL_law_457 dL_law_458 ?_
  refine tw_arg o (kq := 4) (j0 := 3) (j3 := 0) (by decide) (by omega) rfl rfl dL_law_459 dL_law_460 dL_law_461 dL_law_462 dL_law_463 ?_
  refine tw_callI o (As := [.int (xv (iq + 1)), .int (xv (iq + 2)), .int (xv (iq + 3)), .int (xv (iq + 4))]) (st := [.int rr1]) (c_X10_drawn (xl X) G σσ1 sn cntq h1.2.1 h1.2.2.2.2.2.2.2.1 (xv (iq + 1)) (xv (iq + 2)) (xv (iq + 3)) (xv (iq + 4))) om_X10_drawn mw_909 mw_910 mw_908 (by decide) rfl rfl rfl (by decide) rfl rfl (Nat.le_of_ble_eq_true rfl) dL_law_464 (fun rr2 σσ2 hp2 => ?_)
  obtain ⟨e2, k2⟩ := hp2
  have key : rr1 = rr2 ∧ ∃ τq : Sto, LIx τq ∧ ∀ H : Heap, va_P G.1 classes (wld G σσ2) H → va_P G.1 classes (wld G τq) H := by
    refine ⟨?_, σσ2, ⟨_, _, _, _, _, _, _, LI_mv h1 (sk_M k2)⟩, fun _ q => q⟩
    rw [e1, e2]
    exact if_dl (fun z => by rw [dl_e h sk (row_lt z)]; exact congrArg nI (dn_e (nu_sm (dl_bd h1 (row_lt z)) (by omega)) (gcnt_le _ 24) _ _ _ oIn_rfl))
  obtain ⟨heq, τq, hx, ht⟩ := key
  exact tw_icmp_eq o (tgt := 1023) dL_law_467 (by decide) (fun _ => tw_sto ht (kk τq hx)) (fun z => absurd heq z)
set_option maxHeartbeats 4000000 in
set_option maxRecDepth 100000 in
theorem cs_together {X : Cx} {G : Gl} {bq Lq ncq nsq : Nat} {xv : Nat → Int32} {σ : Sto} (o : OkL X G bq Lq xv ncq nsq) {iq : Nat} (hi : iq + 5 ≤ Lq) (hli : LIx σ) (kk : ∀ τq : Sto, LIx τq → WT X G ncq nsq τq 1023 [(3, .int (nI iq)), (2, .ref (gad G 11)), (1, .ref (gad G 0)), (0, .ref bq)] []) : WT X G ncq nsq σ 472 [(3, .int (nI iq)), (2, .ref (gad G 11)), (1, .ref (gad G 0)), (0, .ref bq)] [] := by
  obtain ⟨sn, cntq, rdq, barq, cdq, prq, trq, h⟩ := hli
  refine tw_aload o dL_law_472 2 rfl ?_
  refine tw_arg o (kq := 1) (j0 := 3) (j3 := 0) (by decide) (by omega) rfl rfl dL_law_473 dL_law_474 dL_law_475 dL_law_476 dL_law_477 ?_
  refine tw_arg o (kq := 2) (j0 := 3) (j3 := 0) (by decide) (by omega) rfl rfl dL_law_478 dL_law_479 dL_law_480 dL_law_481 dL_law_482 ?_
  refine tw_arg o (kq := 3) (j0 := 3) (j3 := 0) (by decide) (by omega) rfl rfl dL_law_483 dL_law_484 dL_law_485 dL_law_486 dL_law_487 ?_
  refine tw_arg o (kq := 4) (j0 := 3) (j3 := 0) (by decide) (by omega) rfl rfl dL_law_488 dL_law_489 dL_law_490 dL_law_491 dL_law_492 ?_
  refine tw_callL o (As := [.int (xv (iq + 1)), .int (xv (iq + 2)), .int (xv (iq + 3)), .int (xv (iq + 4))]) (st := []) (c_X9_together (xl X) G σ sn cntq h.1 (xv (iq + 1)) (xv (iq + 2)) (xv (iq + 3)) (xv (iq + 4))) om_X9_together mw_500 mw_501 mw_499 (by decide) rfl rfl rfl (by decide) rfl rfl (Nat.le_of_ble_eq_true rfl) dL_law_493 (fun rr1 σσ1 hp1 => ?_)
  obtain ⟨e1, k1⟩ := hp1
  have sk := sk_C k1
  have h1 := LI_mv h sk
  refine tw_aload o dL_law_496 1 rfl ?_
  refine tw_arg o (kq := 1) (j0 := 3) (j3 := 0) (by decide) (by omega) rfl rfl dL_law_497 dL_law_498 dL_law_499 dL_law_500 dL_law_501 ?_
  refine tw_arg o (kq := 2) (j0 := 3) (j3 := 0) (by decide) (by omega) rfl rfl dL_law_502 dL_law_503 dL_law_504 dL_law_505 dL_law_506 ?_
  refine tw_arg o (kq := 3) (j0 := 3) (j3 := 0) (by decide) (by omega) rfl rfl dL_law_507 dL_law_508 dL_law_509 dL_law_510 dL_law_511 ?_
  refine tw_arg o (kq := 4) (j0 := 3) (j3 := 0) (by decide) (by omega) rfl rfl dL_law_512 dL_law_513 dL_law_514 dL_law_515 dL_law_516 ?_
  refine tw_callL o (As := [.int (xv (iq + 1)), .int (xv (iq + 2)), .int (xv (iq + 3)), .int (xv (iq + 4))]) (st := [.long rr1]) (c_X10_together (xl X) G σσ1 sn cntq h1.2.1 h1.2.2.2.2.2.2.2.1 (xv (iq + 1)) (xv (iq + 2)) (xv (iq + 3)) (xv (iq + 4))) om_X10_together mw_917 mw_918 mw_916 (by decide) rfl rfl rfl (by decide) rfl rfl (Nat.le_of_ble_eq_true rfl) dL_law_517 (fun rr2 σσ2 hp2 => ?_)
  obtain ⟨e2, k2⟩ := hp2
  have key : rr1 = rr2 ∧ ∃ τq : Sto, LIx τq ∧ ∀ H : Heap, va_P G.1 classes (wld G σσ2) H → va_P G.1 classes (wld G τq) H := by
    refine ⟨?_, σσ2, ⟨_, _, _, _, _, _, _, LI_mv h1 (sk_M k2)⟩, fun _ q => q⟩
    rw [e1, e2]
    exact if_dl (fun z => by rw [dl_e h sk (row_lt2 z).1, dl_e h sk (row_lt2 z).2]; first | done | rfl)
  obtain ⟨heq, τq, hx, ht⟩ := key
  refine tw_lcmp o dL_law_520 ?_
  exact tw_if_eq o (tgt := 1023) dL_law_521 (by decide) (fun _ => tw_sto ht (kk τq hx)) (fun z => absurd ((lg_cmp_eq _ _).mpr heq) z)
set_option maxHeartbeats 4000000 in
set_option maxRecDepth 100000 in
theorem cs_go {X : Cx} {G : Gl} {bq Lq ncq nsq : Nat} {xv : Nat → Int32} {σ : Sto} (o : OkL X G bq Lq xv ncq nsq) {iq : Nat} (hi : iq + 5 ≤ Lq) (hli : LIx σ) (kk : ∀ τq : Sto, LIx τq → WT X G ncq nsq τq 1023 [(3, .int (nI iq)), (2, .ref (gad G 11)), (1, .ref (gad G 0)), (0, .ref bq)] []) : WT X G ncq nsq σ 526 [(3, .int (nI iq)), (2, .ref (gad G 11)), (1, .ref (gad G 0)), (0, .ref bq)] [] := by
  obtain ⟨sn, cntq, rdq, barq, cdq, prq, trq, h⟩ := hli
  refine tw_aload o dL_law_526 2 rfl ?_
  refine tw_arg o (kq := 1) (j0 := 3) (j3 := 0) (by decide) (by omega) rfl rfl dL_law_527 dL_law_528 dL_law_529 dL_law_530 dL_law_531 ?_
  refine tw_arg o (kq := 2) (j0 := 3) (j3 := 0) (by decide) (by omega) rfl rfl dL_law_532 dL_law_533 dL_law_534 dL_law_535 dL_law_536 ?_
  refine tw_callI o (As := [.int (xv (iq + 1)), .int (xv (iq + 2))]) (st := []) (c_X9_go (xl X) G σ sn cntq h.1 (xv (iq + 1)) (xv (iq + 2))) om_X9_go mw_513 mw_514 mw_512 (by decide) rfl rfl rfl (by decide) rfl rfl (Nat.le_of_ble_eq_true rfl) dL_law_537 (fun rr1 σσ1 hp1 => ?_)
  obtain ⟨e1, k1⟩ := hp1
  have sk := sk_C k1
  have h1 := LI_mv h sk
  refine tw_aload o dL_law_540 1 rfl ?_
  refine tw_arg o (kq := 1) (j0 := 3) (j3 := 0) (by decide) (by omega) rfl rfl dL_law_541 dL_law_542 dL_law_543 dL_law_544 dL_law_545 ?_
  refine tw_arg o (kq := 2) (j0 := 3) (j3 := 0) (by decide) (by omega) rfl rfl dL_law_546 dL_law_547 dL_law_548 dL_law_549 dL_law_550 ?_
  refine tw_callI o (As := [.int (xv (iq + 1)), .int (xv (iq + 2))]) (st := [.int rr1]) (c_X10_go (xl X) G σσ1 sn cntq h1.2.1 h1.2.2.2.2.2.2.2.1 (xv (iq + 1)) (xv (iq + 2))) om_X10_go mw_929 mw_930 mw_928 (by decide) rfl rfl rfl (by decide) rfl rfl (Nat.le_of_ble_eq_true rfl) dL_law_551 (fun rr2 σσ2 hp2 => ?_)
  obtain ⟨e2, k2⟩ := hp2
  have key : rr1 = rr2 ∧ ∃ τq : Sto, LIx τq ∧ ∀ H : Heap, va_P G.1 classes (wld G σσ2) H → va_P G.1 classes (wld G τq) H := by
    refine ⟨?_, σσ2, ⟨_, _, _, _, _, _, _, LI_mv h1 (sk_M k2)⟩, fun _ q => q⟩
    rw [e1, e2]
    exact if_dl (fun z => by rw [dl_e h sk (row_lt2 z).1, dl_e h sk (row_lt2 z).2]; exact congrArg nI (go_e (dl_bd h1 (row_lt2 z).1) (dl_bd h1 (row_lt2 z).2) 24))
  obtain ⟨heq, τq, hx, ht⟩ := key
  exact tw_icmp_eq o (tgt := 1023) dL_law_554 (by decide) (fun _ => tw_sto ht (kk τq hx)) (fun z => absurd heq z)
set_option maxHeartbeats 4000000 in
set_option maxRecDepth 100000 in
theorem cs_waves {X : Cx} {G : Gl} {bq Lq ncq nsq : Nat} {xv : Nat → Int32} {σ : Sto} (o : OkL X G bq Lq xv ncq nsq) {iq : Nat} (hi : iq + 5 ≤ Lq) (hli : LIx σ) (kk : ∀ τq : Sto, LIx τq → WT X G ncq nsq τq 1023 [(3, .int (nI iq)), (2, .ref (gad G 11)), (1, .ref (gad G 0)), (0, .ref bq)] []) : WT X G ncq nsq σ 559 [(3, .int (nI iq)), (2, .ref (gad G 11)), (1, .ref (gad G 0)), (0, .ref bq)] [] := by
  obtain ⟨sn, cntq, rdq, barq, cdq, prq, trq, h⟩ := hli
  refine tw_aload o dL_law_559 2 rfl ?_
  refine tw_arg o (kq := 1) (j0 := 3) (j3 := 0) (by decide) (by omega) rfl rfl dL_law_560 dL_law_561 dL_law_562 dL_law_563 dL_law_564 ?_
  refine tw_arg o (kq := 2) (j0 := 3) (j3 := 0) (by decide) (by omega) rfl rfl dL_law_565 dL_law_566 dL_law_567 dL_law_568 dL_law_569 ?_
  refine tw_arg o (kq := 3) (j0 := 3) (j3 := 0) (by decide) (by omega) rfl rfl dL_law_570 dL_law_571 dL_law_572 dL_law_573 dL_law_574 ?_
  refine tw_callL o (As := [.int (xv (iq + 1)), .int (xv (iq + 2)), .int (xv (iq + 3))]) (st := []) (c_X9_waves (xl X) G σ  (xv (iq + 1)) (xv (iq + 2)) (xv (iq + 3))) om_X9_waves mw_521 mw_522 mw_520 (by decide) rfl rfl rfl (by decide) rfl rfl (Nat.le_of_ble_eq_true rfl) dL_law_575 (fun rr1 σσ1 hp1 => ?_)
  obtain ⟨e1, k1⟩ := hp1
  have sk := sk_C k1
  have h1 := LI_mv h sk
  refine tw_aload o dL_law_578 1 rfl ?_
  refine tw_arg o (kq := 1) (j0 := 3) (j3 := 0) (by decide) (by omega) rfl rfl dL_law_579 dL_law_580 dL_law_581 dL_law_582 dL_law_583 ?_
  refine tw_arg o (kq := 2) (j0 := 3) (j3 := 0) (by decide) (by omega) rfl rfl dL_law_584 dL_law_585 dL_law_586 dL_law_587 dL_law_588 ?_
  refine tw_arg o (kq := 3) (j0 := 3) (j3 := 0) (by decide) (by omega) rfl rfl dL_law_589 dL_law_590 dL_law_591 dL_law_592 dL_law_593 ?_
  refine tw_callL o (As := [.int (xv (iq + 1)), .int (xv (iq + 2)), .int (xv (iq + 3))]) (st := [.long rr1]) (c_X10_waves (xl X) G σσ1  (xv (iq + 1)) (xv (iq + 2)) (xv (iq + 3))) om_X10_waves mw_936 mw_937 mw_935 (by decide) rfl rfl rfl (by decide) rfl rfl (Nat.le_of_ble_eq_true rfl) dL_law_594 (fun rr2 σσ2 hp2 => ?_)
  obtain ⟨e2, k2⟩ := hp2
  have key : rr1 = rr2 ∧ ∃ τq : Sto, LIx τq ∧ ∀ H : Heap, va_P G.1 classes (wld G σσ2) H → va_P G.1 classes (wld G τq) H := by
    refine ⟨?_, σσ2, ⟨_, _, _, _, _, _, _, LI_mv h1 (sk_eq k2)⟩, fun _ q => q⟩
    rw [e1, e2]
    first | done | rfl
  obtain ⟨heq, τq, hx, ht⟩ := key
  refine tw_lcmp o dL_law_597 ?_
  exact tw_if_eq o (tgt := 1023) dL_law_598 (by decide) (fun _ => tw_sto ht (kk τq hx)) (fun z => absurd ((lg_cmp_eq _ _).mpr heq) z)
set_option maxHeartbeats 4000000 in
set_option maxRecDepth 100000 in
theorem cs_found {X : Cx} {G : Gl} {bq Lq ncq nsq : Nat} {xv : Nat → Int32} {σ : Sto} (o : OkL X G bq Lq xv ncq nsq) {iq : Nat} (hi : iq + 5 ≤ Lq) (hli : LIx σ) (kk : ∀ τq : Sto, LIx τq → WT X G ncq nsq τq 1023 [(3, .int (nI iq)), (2, .ref (gad G 11)), (1, .ref (gad G 0)), (0, .ref bq)] []) : WT X G ncq nsq σ 603 [(3, .int (nI iq)), (2, .ref (gad G 11)), (1, .ref (gad G 0)), (0, .ref bq)] [] := by
  obtain ⟨sn, cntq, rdq, barq, cdq, prq, trq, h⟩ := hli
  refine tw_aload o dL_law_603 2 rfl ?_
  refine tw_arg o (kq := 1) (j0 := 3) (j3 := 0) (by decide) (by omega) rfl rfl dL_law_604 dL_law_605 dL_law_606 dL_law_607 dL_law_608 ?_
  refine tw_arg o (kq := 2) (j0 := 3) (j3 := 0) (by decide) (by omega) rfl rfl dL_law_609 dL_law_610 dL_law_611 dL_law_612 dL_law_613 ?_
  refine tw_arg o (kq := 3) (j0 := 3) (j3 := 0) (by decide) (by omega) rfl rfl dL_law_614 dL_law_615 dL_law_616 dL_law_617 dL_law_618 ?_
  refine tw_callI o (As := [.int (xv (iq + 1)), .int (xv (iq + 2)), .int (xv (iq + 3))]) (st := []) (c_X9_found (xl X) G σ sn cntq h.1 (xv (iq + 1)) (xv (iq + 2)) (xv (iq + 3))) om_X9_found mw_535 mw_536 mw_534 (by decide) rfl rfl rfl (by decide) rfl rfl (Nat.le_of_ble_eq_true rfl) dL_law_619 (fun rr1 σσ1 hp1 => ?_)
  obtain ⟨e1, k1⟩ := hp1
  have sk := sk_C k1
  have h1 := LI_mv h sk
  refine tw_aload o dL_law_622 1 rfl ?_
  refine tw_arg o (kq := 1) (j0 := 3) (j3 := 0) (by decide) (by omega) rfl rfl dL_law_623 dL_law_624 dL_law_625 dL_law_626 dL_law_627 ?_
  refine tw_arg o (kq := 2) (j0 := 3) (j3 := 0) (by decide) (by omega) rfl rfl dL_law_628 dL_law_629 dL_law_630 dL_law_631 dL_law_632 ?_
  refine tw_arg o (kq := 3) (j0 := 3) (j3 := 0) (by decide) (by omega) rfl rfl dL_law_633 dL_law_634 dL_law_635 dL_law_636 dL_law_637 ?_
  refine tw_callI o (As := [.int (xv (iq + 1)), .int (xv (iq + 2)), .int (xv (iq + 3))]) (st := [.int rr1]) (c_X10_found (xl X) G σσ1 sn cntq h1.2.1 h1.2.2.2.2.2.2.2.1 (xv (iq + 1)) (xv (iq + 2)) (xv (iq + 3))) om_X10_found mw_944 mw_945 mw_943 (by decide) rfl rfl rfl (by decide) rfl rfl (Nat.le_of_ble_eq_true rfl) dL_law_638 (fun rr2 σσ2 hp2 => ?_)
  obtain ⟨e2, k2⟩ := hp2
  have key : rr1 = rr2 ∧ ∃ τq : Sto, LIx τq ∧ ∀ H : Heap, va_P G.1 classes (wld G σσ2) H → va_P G.1 classes (wld G τq) H := by
    refine ⟨?_, σσ2, ⟨_, _, _, _, _, _, _, LI_mv h1 (sk_M k2)⟩, fun _ q => q⟩
    rw [e1, e2]
    exact if_dl (fun z => by rw [dl_e h sk (row_lt z)]; first | done | rfl)
  obtain ⟨heq, τq, hx, ht⟩ := key
  exact tw_icmp_eq o (tgt := 1023) dL_law_641 (by decide) (fun _ => tw_sto ht (kk τq hx)) (fun z => absurd heq z)
set_option maxHeartbeats 4000000 in
set_option maxRecDepth 100000 in
theorem cs_luck {X : Cx} {G : Gl} {bq Lq ncq nsq : Nat} {xv : Nat → Int32} {σ : Sto} (o : OkL X G bq Lq xv ncq nsq) {iq : Nat} (hi : iq + 5 ≤ Lq) (hli : LIx σ) (kk : ∀ τq : Sto, LIx τq → WT X G ncq nsq τq 1023 [(3, .int (nI iq)), (2, .ref (gad G 11)), (1, .ref (gad G 0)), (0, .ref bq)] []) : WT X G ncq nsq σ 646 [(3, .int (nI iq)), (2, .ref (gad G 11)), (1, .ref (gad G 0)), (0, .ref bq)] [] := by
  obtain ⟨sn, cntq, rdq, barq, cdq, prq, trq, h⟩ := hli
  refine tw_aload o dL_law_646 2 rfl ?_
  refine tw_arg o (kq := 1) (j0 := 3) (j3 := 0) (by decide) (by omega) rfl rfl dL_law_647 dL_law_648 dL_law_649 dL_law_650 dL_law_651 ?_
  refine tw_arg o (kq := 2) (j0 := 3) (j3 := 0) (by decide) (by omega) rfl rfl dL_law_652 dL_law_653 dL_law_654 dL_law_655 dL_law_656 ?_
  refine tw_arg o (kq := 3) (j0 := 3) (j3 := 0) (by decide) (by omega) rfl rfl dL_law_657 dL_law_658 dL_law_659 dL_law_660 dL_law_661 ?_
  refine tw_callL o (As := [.int (xv (iq + 1)), .int (xv (iq + 2)), .int (xv (iq + 3))]) (st := []) (c_X9_luck (xl X) G σ sn cntq h.1 (xv (iq + 1)) (xv (iq + 2)) (xv (iq + 3))) om_X9_luck mw_565 mw_566 mw_564 (by decide) rfl rfl rfl (by decide) rfl rfl (Nat.le_of_ble_eq_true rfl) dL_law_662 (fun rr1 σσ1 hp1 => ?_)
  obtain ⟨e1, k1⟩ := hp1
  have sk := sk_C k1
  have h1 := LI_mv h sk
  refine tw_aload o dL_law_665 1 rfl ?_
  refine tw_arg o (kq := 1) (j0 := 3) (j3 := 0) (by decide) (by omega) rfl rfl dL_law_666 dL_law_667 dL_law_668 dL_law_669 dL_law_670 ?_
  refine tw_arg o (kq := 2) (j0 := 3) (j3 := 0) (by decide) (by omega) rfl rfl dL_law_671 dL_law_672 dL_law_673 dL_law_674 dL_law_675 ?_
  refine tw_arg o (kq := 3) (j0 := 3) (j3 := 0) (by decide) (by omega) rfl rfl dL_law_676 dL_law_677 dL_law_678 dL_law_679 dL_law_680 ?_
  refine tw_callL o (As := [.int (xv (iq + 1)), .int (xv (iq + 2)), .int (xv (iq + 3))]) (st := [.long rr1]) (c_X10_luck (xl X) G σσ1 sn cntq h1.2.1 h1.2.2.2.2.2.2.2.1 (xv (iq + 1)) (xv (iq + 2)) (xv (iq + 3))) om_X10_luck mw_957 mw_958 mw_956 (by decide) rfl rfl rfl (by decide) rfl rfl (Nat.le_of_ble_eq_true rfl) dL_law_681 (fun rr2 σσ2 hp2 => ?_)
  obtain ⟨e2, k2⟩ := hp2
  have key : rr1 = rr2 ∧ ∃ τq : Sto, LIx τq ∧ ∀ H : Heap, va_P G.1 classes (wld G σσ2) H → va_P G.1 classes (wld G τq) H := by
    refine ⟨?_, σσ2, ⟨_, _, _, _, _, _, _, LI_mv h1 (sk_M k2)⟩, fun _ q => q⟩
    rw [e1, e2]
    exact if_dl (fun z => by rw [dl_e h sk (row_lt z)]; first | done | rfl)
  obtain ⟨heq, τq, hx, ht⟩ := key
  refine tw_lcmp o dL_law_684 ?_
  exact tw_if_eq o (tgt := 1023) dL_law_685 (by decide) (fun _ => tw_sto ht (kk τq hx)) (fun z => absurd ((lg_cmp_eq _ _).mpr heq) z)
set_option maxHeartbeats 4000000 in
set_option maxRecDepth 100000 in
theorem cs_trial {X : Cx} {G : Gl} {bq Lq ncq nsq : Nat} {xv : Nat → Int32} {σ : Sto} (o : OkL X G bq Lq xv ncq nsq) {iq : Nat} (hi : iq + 5 ≤ Lq) (hli : LIx σ) (kk : ∀ τq : Sto, LIx τq → WT X G ncq nsq τq 1023 [(3, .int (nI iq)), (2, .ref (gad G 11)), (1, .ref (gad G 0)), (0, .ref bq)] []) : WT X G ncq nsq σ 690 [(3, .int (nI iq)), (2, .ref (gad G 11)), (1, .ref (gad G 0)), (0, .ref bq)] [] := by
  obtain ⟨sn, cntq, rdq, barq, cdq, prq, trq, h⟩ := hli
  refine tw_aload o dL_law_690 2 rfl ?_
  refine tw_arg o (kq := 1) (j0 := 3) (j3 := 0) (by decide) (by omega) rfl rfl dL_law_691 dL_law_692 dL_law_693 dL_law_694 dL_law_695 ?_
  refine tw_arg o (kq := 2) (j0 := 3) (j3 := 0) (by decide) (by omega) rfl rfl dL_law_696 dL_law_697 dL_law_698 dL_law_699 dL_law_700 ?_
  refine tw_callI o (As := [.int (xv (iq + 1)), .int (xv (iq + 2))]) (st := []) (c_X9_trial (xl X) G σ sn cntq h.1 prq cdq trq h.2.2.2.2.1 (xv (iq + 1)) (xv (iq + 2))) om_X9_trial mw_574 mw_575 mw_573 (by decide) rfl rfl rfl (by decide) rfl rfl (Nat.le_of_ble_eq_true rfl) dL_law_701 (fun rr1 σσ1 hp1 => ?_)
  have hq : ∀ cz, cz = 11 ∨ (13 ≤ cz ∧ cz ≤ 19) ∨ 71 ≤ cz → σσ1 cz = σ cz := fun cz hz => by
    split at hp1
    · rw [hp1.2]
    · split at hp1
      · rw [hp1.2]
      · rw [hp1.2 cz (by unfold scrC; omega)]; simp (disch := omega) only [sti_ne]
  have hPM : PadM σσ1 sn cntq := padM_mv h.2.1 (by rw [hq 11 (by omega)]) (hq 72 (by omega))
  have hYB : ∀ rq, rq < 6 → BdF (yrF σσ1 rq) := fun rq hr => by rw [yr_mv (hq 71 (by omega))]; exact h.2.2.2.2.2.2.2.1 rq hr
  have hDM : DrM σσ1 cdq prq trq := drM_mv h.2.2.2.2.2.1 (by rw [hq 11 (by omega)]) (by rw [hq 11 (by omega)]) (by rw [hq 11 (by omega)])
  refine tw_aload o dL_law_704 1 rfl ?_
  refine tw_arg o (kq := 1) (j0 := 3) (j3 := 0) (by decide) (by omega) rfl rfl dL_law_705 dL_law_706 dL_law_707 dL_law_708 dL_law_709 ?_
  refine tw_arg o (kq := 2) (j0 := 3) (j3 := 0) (by decide) (by omega) rfl rfl dL_law_710 dL_law_711 dL_law_712 dL_law_713 dL_law_714 ?_
  refine tw_callI o (As := [.int (xv (iq + 1)), .int (xv (iq + 2))]) (st := [.int rr1]) (c_X10_trial (xl X) G σσ1 sn cntq hPM hYB cdq prq trq hDM (xv (iq + 1)) (xv (iq + 2))) om_X10_trial mw_964 mw_965 mw_963 (by decide) rfl rfl rfl (by decide) rfl rfl (Nat.le_of_ble_eq_true rfl) dL_law_715 (fun rr2 σσ2 hp2 => ?_)
  have key : rr1 = rr2 ∧ ∃ τq : Sto, LIx τq ∧ ∀ H : Heap, va_P G.1 classes (wld G σσ2) H → va_P G.1 classes (wld G τq) H := by
    by_cases z1 : ¬ refI (inB (nI 0) (nI 5) (xv (iq + 1))) (inB (nI 2) (nI 12) (xv (iq + 2))) (fltF sn cntq 21 0) = 0
    · rw [if_pos z1] at hp1 hp2
      exact ⟨hp1.1.trans hp2.1.symm, σσ2, ⟨_, _, _, _, _, _, _, LI_mv (LI_mv h (sk_eq hp1.2)) (sk_eq hp2.2)⟩, fun _ q => q⟩
    · rw [if_neg z1] at hp1 hp2
      by_cases z2 : 20 ≤ cdq
      · rw [if_pos z2] at hp1 hp2
        exact ⟨hp1.1.trans hp2.1.symm, σσ2, ⟨_, _, _, _, _, _, _, LI_mv (LI_mv h (sk_eq hp1.2)) (sk_eq hp2.2)⟩, fun _ q => q⟩
      · rw [if_neg z2] at hp1 hp2
        obtain ⟨e1, k1⟩ := hp1
        obtain ⟨e2, k2⟩ := hp2
        rw [← dl_e7 h (hq 71 (by omega)) (row_lt (Classical.byContradiction z1))] at k2
        refine ⟨e1.trans e2.symm, σσ2, ⟨_, _, _, _, _, _, _, LI_mv (trial_LI h (rz := (xv (iq + 1))) (lz := (xv (iq + 2))) (pz := pctI (fU (shU (dlF σ sn cntq (xv (iq + 1)).toNatClampNeg) 24 (xv (iq + 2)).toNatClampNeg) (shD (dlF σ sn cntq (xv (iq + 1)).toNatClampNeg) 24)) (fL (shU (dlF σ sn cntq (xv (iq + 1)).toNatClampNeg) 24 (xv (iq + 2)).toNatClampNeg) (shD (dlF σ sn cntq (xv (iq + 1)).toNatClampNeg) 24))) z2) ⟨fun cz hz => ?_, fun kq hz => ?_⟩⟩, fun _ q => q⟩
        · rw [k2.1 cz (by unfold kpL at hz; omega) (by unfold kpL at hz; omega)]
          exact sti_cg (sti_cg (sti_cg (sti_cg (k1 cz (by unfold kpL at hz; unfold scrC; omega)))))
        · rw [k2.2 kq (by unfold kpF at hz; omega) (by unfold kpF at hz; omega) (by unfold kpF at hz; omega) (by unfold kpF at hz; omega)]
          rw [sti_cg (sti_cg (sti_cg (sti_cg (k1 11 (by unfold scrC; omega)))))]
  obtain ⟨heq, τq, hx, ht⟩ := key
  exact tw_icmp_eq o (tgt := 1023) dL_law_718 (by decide) (fun _ => tw_sto ht (kk τq hx)) (fun z => absurd heq z)
set_option maxHeartbeats 4000000 in
set_option maxRecDepth 100000 in
theorem cs_of {X : Cx} {G : Gl} {bq Lq ncq nsq : Nat} {xv : Nat → Int32} {σ : Sto} (o : OkL X G bq Lq xv ncq nsq) {iq : Nat} (hi : iq + 5 ≤ Lq) (hli : LIx σ) (kk : ∀ τq : Sto, LIx τq → WT X G ncq nsq τq 1023 [(3, .int (nI iq)), (2, .ref (gad G 11)), (1, .ref (gad G 0)), (0, .ref bq)] []) : WT X G ncq nsq σ 723 [(3, .int (nI iq)), (2, .ref (gad G 11)), (1, .ref (gad G 0)), (0, .ref bq)] [] := by
  obtain ⟨sn, cntq, rdq, barq, cdq, prq, trq, h⟩ := hli
  refine tw_aload o dL_law_723 2 rfl ?_
  refine tw_arg o (kq := 1) (j0 := 3) (j3 := 0) (by decide) (by omega) rfl rfl dL_law_724 dL_law_725 dL_law_726 dL_law_727 dL_law_728 ?_
  refine tw_arg o (kq := 2) (j0 := 3) (j3 := 0) (by decide) (by omega) rfl rfl dL_law_729 dL_law_730 dL_law_731 dL_law_732 dL_law_733 ?_
  refine tw_callI o (As := [.int (xv (iq + 1)), .int (xv (iq + 2))]) (st := []) (c_X9_of (xl X) G σ cdq prq trq h.2.2.2.2.1 (xv (iq + 1)) (xv (iq + 2))) om_X9_of mw_592 mw_593 mw_591 (by decide) rfl rfl rfl (by decide) rfl rfl (Nat.le_of_ble_eq_true rfl) dL_law_734 (fun rr1 σσ1 hp1 => ?_)
  obtain ⟨e1, k1⟩ := hp1
  have sk := sk_eq k1
  have h1 := LI_mv h sk
  refine tw_aload o dL_law_737 1 rfl ?_
  refine tw_arg o (kq := 1) (j0 := 3) (j3 := 0) (by decide) (by omega) rfl rfl dL_law_738 dL_law_739 dL_law_740 dL_law_741 dL_law_742 ?_
  refine tw_arg o (kq := 2) (j0 := 3) (j3 := 0) (by decide) (by omega) rfl rfl dL_law_743 dL_law_744 dL_law_745 dL_law_746 dL_law_747 ?_
  refine tw_callI o (As := [.int (xv (iq + 1)), .int (xv (iq + 2))]) (st := [.int rr1]) (c_X10_of (xl X) G σσ1 cdq prq trq h1.2.2.2.2.2.1 (xv (iq + 1)) (xv (iq + 2))) om_X10_of mw_968 mw_969 mw_967 (by decide) rfl rfl rfl (by decide) rfl rfl (Nat.le_of_ble_eq_true rfl) dL_law_748 (fun rr2 σσ2 hp2 => ?_)
  obtain ⟨e2, k2⟩ := hp2
  have key : rr1 = rr2 ∧ ∃ τq : Sto, LIx τq ∧ ∀ H : Heap, va_P G.1 classes (wld G σσ2) H → va_P G.1 classes (wld G τq) H := by
    refine ⟨?_, σσ2, ⟨_, _, _, _, _, _, _, LI_mv h1 (sk_eq k2)⟩, fun _ q => q⟩
    rw [e1, e2, sk.1 81 (by unfold kpL; omega), sk.1 82 (by unfold kpL; omega), sk.1 83 (by unfold kpL; omega), h.2.2.2.2.2.2.2.2.1, h.2.2.2.2.2.2.2.2.2.1, h.2.2.2.2.2.2.2.2.2.2]
  obtain ⟨heq, τq, hx, ht⟩ := key
  exact tw_icmp_eq o (tgt := 1023) dL_law_751 (by decide) (fun _ => tw_sto ht (kk τq hx)) (fun z => absurd heq z)
set_option maxHeartbeats 4000000 in
set_option maxRecDepth 100000 in
theorem cs_print {X : Cx} {G : Gl} {bq Lq ncq nsq : Nat} {xv : Nat → Int32} {σ : Sto} (o : OkL X G bq Lq xv ncq nsq) {iq : Nat} (hi : iq + 5 ≤ Lq) (hli : LIx σ) (kk : ∀ τq : Sto, LIx τq → WT X G ncq nsq τq 1023 [(3, .int (nI iq)), (2, .ref (gad G 11)), (1, .ref (gad G 0)), (0, .ref bq)] []) : WT X G ncq nsq σ 756 [(3, .int (nI iq)), (2, .ref (gad G 11)), (1, .ref (gad G 0)), (0, .ref bq)] [] := by
  obtain ⟨sn, cntq, rdq, barq, cdq, prq, trq, h⟩ := hli
  refine tw_aload o dL_law_756 2 rfl ?_
  refine tw_arg o (kq := 1) (j0 := 3) (j3 := 0) (by decide) (by omega) rfl rfl dL_law_757 dL_law_758 dL_law_759 dL_law_760 dL_law_761 ?_
  refine tw_arg o (kq := 2) (j0 := 3) (j3 := 0) (by decide) (by omega) rfl rfl dL_law_762 dL_law_763 dL_law_764 dL_law_765 dL_law_766 ?_
  have J0 : WT X G ncq nsq σ 775 [(3, .int (nI iq)), (2, .ref (gad G 11)), (1, .ref (gad G 0)), (0, .ref bq)] [.int (b01 (decide (¬ (xv (iq + 2)) = 0))), .int (xv (iq + 1)), .ref (gad G 0)] → WT X G ncq nsq σ 767 [(3, .int (nI iq)), (2, .ref (gad G 11)), (1, .ref (gad G 0)), (0, .ref bq)] [.int (xv (iq + 2)), .int (xv (iq + 1)), .ref (gad G 0)] := fun J => by
    refine tw_if_eq o (tgt := 774) dL_law_767 (by decide) (fun z => ?_) (fun z => ?_)
    · refine tw_iconst o (v := b01 (decide (¬ (xv (iq + 2)) = 0))) dL_law_774 (by rw [decide_eq_false (fun q => q z)]; decide) ?_
      exact J
    · refine tw_iconst o (v := b01 (decide (¬ (xv (iq + 2)) = 0))) dL_law_770 (by rw [decide_eq_true z]; decide) ?_
      exact tw_goto o (tgt := 775) dL_law_771 (by decide) J
  refine J0 ?_
  refine tw_callI o (As := [.int (xv (iq + 1)), .int (b01 (decide (¬ (xv (iq + 2)) = 0)))]) (st := []) (c_X9_print (xl X) G σ cdq prq trq h.2.2.2.2.1 (xv (iq + 1)) (decide (¬ (xv (iq + 2)) = 0))) om_X9_print mw_604 mw_605 mw_603 (by decide) rfl rfl rfl (by decide) rfl rfl (Nat.le_of_ble_eq_true rfl) dL_law_775 (fun rr1 σσ1 hp1 => ?_)
  have hq : σσ1 11 = σ 11 := by
    split at hp1
    · rw [hp1.2]
    · rw [hp1.2, sti_ne (by omega)]
  have hDM : DrM σσ1 cdq prq trq := drM_mv h.2.2.2.2.2.1 (by rw [hq]) (by rw [hq]) (by rw [hq])
  refine tw_aload o dL_law_778 1 rfl ?_
  refine tw_arg o (kq := 1) (j0 := 3) (j3 := 0) (by decide) (by omega) rfl rfl dL_law_779 dL_law_780 dL_law_781 dL_law_782 dL_law_783 ?_
  refine tw_arg o (kq := 2) (j0 := 3) (j3 := 0) (by decide) (by omega) rfl rfl dL_law_784 dL_law_785 dL_law_786 dL_law_787 dL_law_788 ?_
  have J1 : WT X G ncq nsq σσ1 797 [(3, .int (nI iq)), (2, .ref (gad G 11)), (1, .ref (gad G 0)), (0, .ref bq)] [.int (b01 (decide (¬ (xv (iq + 2)) = 0))), .int (xv (iq + 1)), .ref (gad G 11), .int rr1] → WT X G ncq nsq σσ1 789 [(3, .int (nI iq)), (2, .ref (gad G 11)), (1, .ref (gad G 0)), (0, .ref bq)] [.int (xv (iq + 2)), .int (xv (iq + 1)), .ref (gad G 11), .int rr1] := fun J => by
    refine tw_if_eq o (tgt := 796) dL_law_789 (by decide) (fun z => ?_) (fun z => ?_)
    · refine tw_iconst o (v := b01 (decide (¬ (xv (iq + 2)) = 0))) dL_law_796 (by rw [decide_eq_false (fun q => q z)]; decide) ?_
      exact J
    · refine tw_iconst o (v := b01 (decide (¬ (xv (iq + 2)) = 0))) dL_law_792 (by rw [decide_eq_true z]; decide) ?_
      exact tw_goto o (tgt := 797) dL_law_793 (by decide) J
  refine J1 ?_
  refine tw_callI o (As := [.int (xv (iq + 1)), .int (b01 (decide (¬ (xv (iq + 2)) = 0)))]) (st := [.int rr1]) (c_X10_print (xl X) G σσ1 cdq prq trq hDM (xv (iq + 1)) (decide (¬ (xv (iq + 2)) = 0))) om_X10_print mw_976 mw_977 mw_975 (by decide) rfl rfl rfl (by decide) rfl rfl (Nat.le_of_ble_eq_true rfl) dL_law_797 (fun rr2 σσ2 hp2 => ?_)
  have key : rr1 = rr2 ∧ ∃ τq : Sto, LIx τq ∧ ∀ H : Heap, va_P G.1 classes (wld G σσ2) H → va_P G.1 classes (wld G τq) H := by
    by_cases z1 : hasB cdq (xv (iq + 1)) = false
    · rw [if_pos z1] at hp1 hp2
      exact ⟨hp1.1.trans hp2.1.symm, σσ2, ⟨_, _, _, _, _, _, _, LI_mv (LI_mv h (sk_eq hp1.2)) (sk_eq hp2.2)⟩, fun _ q => q⟩
    · rw [if_neg z1] at hp1 hp2
      have y1 := nf_t z1
      obtain ⟨e1, k1⟩ := hp1
      obtain ⟨e2, k2⟩ := hp2
      rw [k1] at k2
      obtain ⟨t1, t2⟩ := hasB_t h.2.2.2.2.1.2.1 y1
      refine ⟨e1.trans e2.symm, σσ2, ?_, fun _ q => q⟩
      rw [k2]
      refine li_x (print_LI h ?_)
      split
      · exact Nat.or_lt_two_pow h.2.2.2.2.1.2.2.2.1 (by rw [Nat.one_mul]; exact Nat.pow_lt_pow_right (by decide) t2)
      · exact ndiff_lt h.2.2.2.2.1.2.2.2.1
  obtain ⟨heq, τq, hx, ht⟩ := key
  exact tw_icmp_eq o (tgt := 1023) dL_law_800 (by decide) (fun _ => tw_sto ht (kk τq hx)) (fun z => absurd heq z)
set_option maxHeartbeats 4000000 in
set_option maxRecDepth 100000 in
theorem cs_lean {X : Cx} {G : Gl} {bq Lq ncq nsq : Nat} {xv : Nat → Int32} {σ : Sto} (o : OkL X G bq Lq xv ncq nsq) {iq : Nat} (hi : iq + 5 ≤ Lq) (hli : LIx σ) (kk : ∀ τq : Sto, LIx τq → WT X G ncq nsq τq 1023 [(3, .int (nI iq)), (2, .ref (gad G 11)), (1, .ref (gad G 0)), (0, .ref bq)] []) : WT X G ncq nsq σ 805 [(3, .int (nI iq)), (2, .ref (gad G 11)), (1, .ref (gad G 0)), (0, .ref bq)] [] := by
  obtain ⟨sn, cntq, rdq, barq, cdq, prq, trq, h⟩ := hli
  refine tw_aload o dL_law_805 2 rfl ?_
  refine tw_arg o (kq := 1) (j0 := 3) (j3 := 0) (by decide) (by omega) rfl rfl dL_law_806 dL_law_807 dL_law_808 dL_law_809 dL_law_810 ?_
  refine tw_callL o (As := [.int (xv (iq + 1))]) (st := []) (c_X9_lean (xl X) G σ cdq prq trq h.2.2.2.2.1 (σ 29).1 rfl (xv (iq + 1))) om_X9_lean mw_612 mw_613 mw_611 (by decide) rfl rfl rfl (by decide) rfl rfl (Nat.le_of_ble_eq_true rfl) dL_law_811 (fun rr1 σσ1 hp1 => ?_)
  obtain ⟨e1, k1⟩ := hp1
  have sk := sk_C k1
  have h1 := LI_mv h sk
  have hp83 : (σσ1 83).1 = (σ 29).1 := by rw [sk.1 83 (by unfold kpL; omega)]; exact h.2.2.2.2.2.2.2.2.2.2.symm
  refine tw_aload o dL_law_814 1 rfl ?_
  refine tw_arg o (kq := 1) (j0 := 3) (j3 := 0) (by decide) (by omega) rfl rfl dL_law_815 dL_law_816 dL_law_817 dL_law_818 dL_law_819 ?_
  refine tw_callL o (As := [.int (xv (iq + 1))]) (st := [.long rr1]) (c_X10_lean (xl X) G σσ1 cdq prq trq h1.2.2.2.2.2.1 (σ 29).1 hp83 (xv (iq + 1))) om_X10_lean mw_980 mw_981 mw_979 (by decide) rfl rfl rfl (by decide) rfl rfl (Nat.le_of_ble_eq_true rfl) dL_law_820 (fun rr2 σσ2 hp2 => ?_)
  obtain ⟨e2, k2⟩ := hp2
  have key : rr1 = rr2 ∧ ∃ τq : Sto, LIx τq ∧ ∀ H : Heap, va_P G.1 classes (wld G σσ2) H → va_P G.1 classes (wld G τq) H := by
    refine ⟨?_, σσ2, ⟨_, _, _, _, _, _, _, LI_mv h1 (sk_eq k2)⟩, fun _ q => q⟩
    rw [e1, e2]
    first | done | rfl
  obtain ⟨heq, τq, hx, ht⟩ := key
  refine tw_lcmp o dL_law_823 ?_
  exact tw_if_eq o (tgt := 1023) dL_law_824 (by decide) (fun _ => tw_sto ht (kk τq hx)) (fun z => absurd ((lg_cmp_eq _ _).mpr heq) z)
set_option maxHeartbeats 4000000 in
set_option maxRecDepth 100000 in
theorem cs_reads {X : Cx} {G : Gl} {bq Lq ncq nsq : Nat} {xv : Nat → Int32} {σ : Sto} (o : OkL X G bq Lq xv ncq nsq) {iq : Nat} (hi : iq + 5 ≤ Lq) (hli : LIx σ) (kk : ∀ τq : Sto, LIx τq → WT X G ncq nsq τq 1023 [(3, .int (nI iq)), (2, .ref (gad G 11)), (1, .ref (gad G 0)), (0, .ref bq)] []) : WT X G ncq nsq σ 829 [(3, .int (nI iq)), (2, .ref (gad G 11)), (1, .ref (gad G 0)), (0, .ref bq)] [] := by
  obtain ⟨sn, cntq, rdq, barq, cdq, prq, trq, h⟩ := hli
  refine tw_aload o dL_law_829 2 rfl ?_
  refine tw_arg o (kq := 1) (j0 := 3) (j3 := 0) (by decide) (by omega) rfl rfl dL_law_830 dL_law_831 dL_law_832 dL_law_833 dL_law_834 ?_
  refine tw_arg o (kq := 2) (j0 := 3) (j3 := 0) (by decide) (by omega) rfl rfl dL_law_835 dL_law_836 dL_law_837 dL_law_838 dL_law_839 ?_
  refine tw_callI o (As := [.int (xv (iq + 1)), .int (xv (iq + 2))]) (st := []) (c_X9_reads (xl X) G σ  (xv (iq + 1)) (xv (iq + 2))) om_X9_reads mw_623 mw_624 mw_622 (by decide) rfl rfl rfl (by decide) rfl rfl (Nat.le_of_ble_eq_true rfl) dL_law_840 (fun rr1 σσ1 hp1 => ?_)
  refine tw_aload o dL_law_843 1 rfl ?_
  refine tw_arg o (kq := 1) (j0 := 3) (j3 := 0) (by decide) (by omega) rfl rfl dL_law_844 dL_law_845 dL_law_846 dL_law_847 dL_law_848 ?_
  refine tw_arg o (kq := 2) (j0 := 3) (j3 := 0) (by decide) (by omega) rfl rfl dL_law_849 dL_law_850 dL_law_851 dL_law_852 dL_law_853 ?_
  refine tw_callI o (As := [.int (xv (iq + 1)), .int (xv (iq + 2))]) (st := [.int rr1]) (c_X10_reads (xl X) G σσ1  (xv (iq + 1)) (xv (iq + 2))) om_X10_reads mw_987 mw_988 mw_986 (by decide) rfl rfl rfl (by decide) rfl rfl (Nat.le_of_ble_eq_true rfl) dL_law_854 (fun rr2 σσ2 hp2 => ?_)
  have key : rr1 = rr2 ∧ ∃ τq : Sto, LIx τq ∧ ∀ H : Heap, va_P G.1 classes (wld G σσ2) H → va_P G.1 classes (wld G τq) H := by
    by_cases z1 : inB (nI 0) (nI 7) (xv (iq + 1)) = false
    · rw [if_pos z1] at hp1 hp2
      exact ⟨hp1.1.trans hp2.1.symm, σσ2, ⟨_, _, _, _, _, _, _, LI_mv (LI_mv h (sk_eq hp1.2)) (sk_eq hp2.2)⟩, fun _ q => q⟩
    · rw [if_neg z1] at hp1 hp2
      by_cases z2 : inB (nI 0) (nI 1048575) (xv (iq + 2)) = false
      · rw [if_pos z2] at hp1 hp2
        exact ⟨hp1.1.trans hp2.1.symm, σσ2, ⟨_, _, _, _, _, _, _, LI_mv (LI_mv h (sk_eq hp1.2)) (sk_eq hp2.2)⟩, fun _ q => q⟩
      · rw [if_neg z2] at hp1 hp2
        have y1 := nf_t z1
        have y2 := nf_t z2
        obtain ⟨e1, k1⟩ := hp1
        obtain ⟨e2, k2⟩ := hp2
        rw [k1] at e2 k2
        have hm : (xv (iq + 1)).toNatClampNeg < 8 := by have := (inB_nI (n := 7) (by decide) y1).2; omega
        refine ⟨?_, σσ2, ?_, fun _ q => q⟩
        · rw [e1, e2, sti_ne (by omega), h.2.2.1.2.2.1 _ hm, h.2.2.2.1.2.2.1 _ hm]
        · rw [k2]
          exact li_x (reads_LI h y1 y2)
  obtain ⟨heq, τq, hx, ht⟩ := key
  exact tw_icmp_eq o (tgt := 1023) dL_law_857 (by decide) (fun _ => tw_sto ht (kk τq hx)) (fun z => absurd heq z)
set_option maxHeartbeats 4000000 in
set_option maxRecDepth 100000 in
theorem cs_bar {X : Cx} {G : Gl} {bq Lq ncq nsq : Nat} {xv : Nat → Int32} {σ : Sto} (o : OkL X G bq Lq xv ncq nsq) {iq : Nat} (hi : iq + 5 ≤ Lq) (hli : LIx σ) (kk : ∀ τq : Sto, LIx τq → WT X G ncq nsq τq 1023 [(3, .int (nI iq)), (2, .ref (gad G 11)), (1, .ref (gad G 0)), (0, .ref bq)] []) : WT X G ncq nsq σ 862 [(3, .int (nI iq)), (2, .ref (gad G 11)), (1, .ref (gad G 0)), (0, .ref bq)] [] := by
  obtain ⟨sn, cntq, rdq, barq, cdq, prq, trq, h⟩ := hli
  refine tw_aload o dL_law_862 2 rfl ?_
  refine tw_arg o (kq := 1) (j0 := 3) (j3 := 0) (by decide) (by omega) rfl rfl dL_law_863 dL_law_864 dL_law_865 dL_law_866 dL_law_867 ?_
  refine tw_callI o (As := [.int (xv (iq + 1))]) (st := []) (c_X9_bar (xl X) G σ  (xv (iq + 1))) om_X9_bar mw_628 mw_629 mw_627 (by decide) rfl rfl rfl (by decide) rfl rfl (Nat.le_of_ble_eq_true rfl) dL_law_868 (fun rr1 σσ1 hp1 => ?_)
  refine tw_aload o dL_law_871 1 rfl ?_
  refine tw_arg o (kq := 1) (j0 := 3) (j3 := 0) (by decide) (by omega) rfl rfl dL_law_872 dL_law_873 dL_law_874 dL_law_875 dL_law_876 ?_
  refine tw_callI o (As := [.int (xv (iq + 1))]) (st := [.int rr1]) (c_X10_bar (xl X) G σσ1  (xv (iq + 1))) om_X10_bar mw_995 mw_996 mw_994 (by decide) rfl rfl rfl (by decide) rfl rfl (Nat.le_of_ble_eq_true rfl) dL_law_877 (fun rr2 σσ2 hp2 => ?_)
  have key : rr1 = rr2 ∧ ∃ τq : Sto, LIx τq ∧ ∀ H : Heap, va_P G.1 classes (wld G σσ2) H → va_P G.1 classes (wld G τq) H := by
    by_cases z1 : inB (nI 0) (nI 100) (xv (iq + 1)) = false
    · rw [if_pos z1] at hp1 hp2
      exact ⟨hp1.1.trans hp2.1.symm, σσ2, ⟨_, _, _, _, _, _, _, LI_mv (LI_mv h (sk_eq hp1.2)) (sk_eq hp2.2)⟩, fun _ q => q⟩
    · rw [if_neg z1] at hp1 hp2
      have y1 := nf_t z1
      obtain ⟨e1, k1⟩ := hp1
      obtain ⟨e2, k2⟩ := hp2
      rw [k1] at e2 k2
      refine ⟨?_, σσ2, ?_, fun _ q => q⟩
      · rw [e1, e2, sti_ne (by omega), h.2.2.1.1, h.2.2.2.1.1]
      · rw [k2]
        exact li_x (bar_LI h y1)
  obtain ⟨heq, τq, hx, ht⟩ := key
  exact tw_icmp_eq o (tgt := 1023) dL_law_880 (by decide) (fun _ => tw_sto ht (kk τq hx)) (fun z => absurd heq z)
set_option maxHeartbeats 4000000 in
set_option maxRecDepth 100000 in
theorem cs_club {X : Cx} {G : Gl} {bq Lq ncq nsq : Nat} {xv : Nat → Int32} {σ : Sto} (o : OkL X G bq Lq xv ncq nsq) {iq : Nat} (hi : iq + 5 ≤ Lq) (hli : LIx σ) (kk : ∀ τq : Sto, LIx τq → WT X G ncq nsq τq 1023 [(3, .int (nI iq)), (2, .ref (gad G 11)), (1, .ref (gad G 0)), (0, .ref bq)] []) : WT X G ncq nsq σ 885 [(3, .int (nI iq)), (2, .ref (gad G 11)), (1, .ref (gad G 0)), (0, .ref bq)] [] := by
  obtain ⟨sn, cntq, rdq, barq, cdq, prq, trq, h⟩ := hli
  refine tw_aload o dL_law_885 2 rfl ?_
  refine tw_callI o (As := []) (st := []) (c_X9_club (xl X) G σ rdq barq h.2.2.1 cdq prq trq h.2.2.2.2.1 (σ 29).1 rfl ) om_X9_club mw_632 mw_633 mw_631 (by decide) rfl rfl rfl (by decide) rfl rfl (Nat.le_of_ble_eq_true rfl) dL_law_886 (fun rr1 σσ1 hp1 => ?_)
  obtain ⟨e1, k1⟩ := hp1
  have sk := sk_eq k1
  have h1 := LI_mv h sk
  have hp83 : (σσ1 83).1 = (σ 29).1 := by rw [sk.1 83 (by unfold kpL; omega)]; exact h.2.2.2.2.2.2.2.2.2.2.symm
  refine tw_aload o dL_law_889 1 rfl ?_
  refine tw_callI o (As := []) (st := [.int rr1]) (c_X10_club (xl X) G σσ1 rdq barq h1.2.2.2.1 cdq prq trq h1.2.2.2.2.2.1 (σ 29).1 hp83 ) om_X10_club mw_999 mw_1000 mw_998 (by decide) rfl rfl rfl (by decide) rfl rfl (Nat.le_of_ble_eq_true rfl) dL_law_890 (fun rr2 σσ2 hp2 => ?_)
  obtain ⟨e2, k2⟩ := hp2
  have key : rr1 = rr2 ∧ ∃ τq : Sto, LIx τq ∧ ∀ H : Heap, va_P G.1 classes (wld G σσ2) H → va_P G.1 classes (wld G τq) H := by
    refine ⟨?_, σσ2, ⟨_, _, _, _, _, _, _, LI_mv h1 (sk_eq k2)⟩, fun _ q => q⟩
    rw [e1, e2]
  obtain ⟨heq, τq, hx, ht⟩ := key
  exact tw_icmp_eq o (tgt := 1023) dL_law_893 (by decide) (fun _ => tw_sto ht (kk τq hx)) (fun z => absurd heq z)
set_option maxHeartbeats 4000000 in
set_option maxRecDepth 100000 in
theorem cs_least {X : Cx} {G : Gl} {bq Lq ncq nsq : Nat} {xv : Nat → Int32} {σ : Sto} (o : OkL X G bq Lq xv ncq nsq) {iq : Nat} (hi : iq + 5 ≤ Lq) (hli : LIx σ) (kk : ∀ τq : Sto, LIx τq → WT X G ncq nsq τq 1023 [(3, .int (nI iq)), (2, .ref (gad G 11)), (1, .ref (gad G 0)), (0, .ref bq)] []) : WT X G ncq nsq σ 898 [(3, .int (nI iq)), (2, .ref (gad G 11)), (1, .ref (gad G 0)), (0, .ref bq)] [] := by
  obtain ⟨sn, cntq, rdq, barq, cdq, prq, trq, h⟩ := hli
  refine tw_aload o dL_law_898 2 rfl ?_
  refine tw_arg o (kq := 1) (j0 := 3) (j3 := 0) (by decide) (by omega) rfl rfl dL_law_899 dL_law_900 dL_law_901 dL_law_902 dL_law_903 ?_
  refine tw_arg o (kq := 2) (j0 := 3) (j3 := 0) (by decide) (by omega) rfl rfl dL_law_904 dL_law_905 dL_law_906 dL_law_907 dL_law_908 ?_
  refine tw_callI o (As := [.int (xv (iq + 1)), .int (xv (iq + 2))]) (st := []) (c_X9_least (xl X) G σ rdq barq h.2.2.1 cdq prq trq h.2.2.2.2.1 (σ 29).1 rfl (xv (iq + 1)) (xv (iq + 2))) om_X9_least mw_645 mw_646 mw_644 (by decide) rfl rfl rfl (by decide) rfl rfl (Nat.le_of_ble_eq_true rfl) dL_law_909 (fun rr1 σσ1 hp1 => ?_)
  obtain ⟨e1, k1⟩ := hp1
  have sk := sk_eq k1
  have h1 := LI_mv h sk
  have hp83 : (σσ1 83).1 = (σ 29).1 := by rw [sk.1 83 (by unfold kpL; omega)]; exact h.2.2.2.2.2.2.2.2.2.2.symm
  refine tw_aload o dL_law_912 1 rfl ?_
  refine tw_arg o (kq := 1) (j0 := 3) (j3 := 0) (by decide) (by omega) rfl rfl dL_law_913 dL_law_914 dL_law_915 dL_law_916 dL_law_917 ?_
  refine tw_arg o (kq := 2) (j0 := 3) (j3 := 0) (by decide) (by omega) rfl rfl dL_law_918 dL_law_919 dL_law_920 dL_law_921 dL_law_922 ?_
  refine tw_callI o (As := [.int (xv (iq + 1)), .int (xv (iq + 2))]) (st := [.int rr1]) (c_X10_least (xl X) G σσ1 rdq barq h1.2.2.2.1 cdq prq trq h1.2.2.2.2.2.1 (σ 29).1 hp83 (xv (iq + 1)) (xv (iq + 2))) om_X10_least mw_1007 mw_1008 mw_1006 (by decide) rfl rfl rfl (by decide) rfl rfl (Nat.le_of_ble_eq_true rfl) dL_law_923 (fun rr2 σσ2 hp2 => ?_)
  obtain ⟨e2, k2⟩ := hp2
  have key : rr1 = rr2 ∧ ∃ τq : Sto, LIx τq ∧ ∀ H : Heap, va_P G.1 classes (wld G σσ2) H → va_P G.1 classes (wld G τq) H := by
    refine ⟨?_, σσ2, ⟨_, _, _, _, _, _, _, LI_mv h1 (sk_eq k2)⟩, fun _ q => q⟩
    rw [e1, e2]
  obtain ⟨heq, τq, hx, ht⟩ := key
  exact tw_icmp_eq o (tgt := 1023) dL_law_926 (by decide) (fun _ => tw_sto ht (kk τq hx)) (fun z => absurd heq z)
set_option maxHeartbeats 4000000 in
set_option maxRecDepth 100000 in
theorem cs_truth {X : Cx} {G : Gl} {bq Lq ncq nsq : Nat} {xv : Nat → Int32} {σ : Sto} (o : OkL X G bq Lq xv ncq nsq) {iq : Nat} (hi : iq + 5 ≤ Lq) (hli : LIx σ) (kk : ∀ τq : Sto, LIx τq → WT X G ncq nsq τq 1023 [(3, .int (nI iq)), (2, .ref (gad G 11)), (1, .ref (gad G 0)), (0, .ref bq)] []) : WT X G ncq nsq σ 931 [(3, .int (nI iq)), (2, .ref (gad G 11)), (1, .ref (gad G 0)), (0, .ref bq)] [] := by
  obtain ⟨sn, cntq, rdq, barq, cdq, prq, trq, h⟩ := hli
  refine tw_aload o dL_law_931 2 rfl ?_
  refine tw_arg o (kq := 1) (j0 := 3) (j3 := 0) (by decide) (by omega) rfl rfl dL_law_932 dL_law_933 dL_law_934 dL_law_935 dL_law_936 ?_
  refine tw_callI o (As := [.int (xv (iq + 1))]) (st := []) (c_X9_truth (xl X) G σ  (xv (iq + 1))) om_X9_truth mw_659 mw_660 mw_658 (by decide) rfl rfl rfl (by decide) rfl rfl (Nat.le_of_ble_eq_true rfl) dL_law_937 (fun rr1 σσ1 hp1 => ?_)
  refine tw_aload o dL_law_940 1 rfl ?_
  refine tw_arg o (kq := 1) (j0 := 3) (j3 := 0) (by decide) (by omega) rfl rfl dL_law_941 dL_law_942 dL_law_943 dL_law_944 dL_law_945 ?_
  refine tw_callI o (As := [.int (xv (iq + 1))]) (st := [.int rr1]) (c_X10_truth (xl X) G σσ1  (xv (iq + 1))) om_X10_truth mw_1012 mw_1013 mw_1011 (by decide) rfl rfl rfl (by decide) rfl rfl (Nat.le_of_ble_eq_true rfl) dL_law_946 (fun rr2 σσ2 hp2 => ?_)
  have key : rr1 = rr2 ∧ ∃ τq : Sto, LIx τq ∧ ∀ H : Heap, va_P G.1 classes (wld G σσ2) H → va_P G.1 classes (wld G τq) H := by
    by_cases z1 : inB (nI 0) (nI 1048575) (xv (iq + 1)) = false
    · rw [if_pos z1] at hp1 hp2
      exact ⟨hp1.1.trans hp2.1.symm, σσ2, ⟨_, _, _, _, _, _, _, LI_mv (LI_mv h (sk_eq hp1.2)) (sk_eq hp2.2)⟩, fun _ q => q⟩
    · rw [if_neg z1] at hp1 hp2
      have y1 := nf_t z1
      obtain ⟨e1, k1⟩ := hp1
      obtain ⟨e2, k2⟩ := hp2
      rw [k1] at e2 k2
      refine ⟨?_, σσ2, ?_, fun _ q => q⟩
      · rw [e1, e2, sti_ne (by omega), h.2.2.2.2.1.2.2.2.2.1, h.2.2.2.2.2.1.2.2.2.2.1]
      · rw [k2]
        exact li_x (truth_LI h y1)
  obtain ⟨heq, τq, hx, ht⟩ := key
  exact tw_icmp_eq o (tgt := 1023) dL_law_949 (by decide) (fun _ => tw_sto ht (kk τq hx)) (fun z => absurd heq z)
set_option maxHeartbeats 4000000 in
set_option maxRecDepth 100000 in
theorem cs_good {X : Cx} {G : Gl} {bq Lq ncq nsq : Nat} {xv : Nat → Int32} {σ : Sto} (o : OkL X G bq Lq xv ncq nsq) {iq : Nat} (hi : iq + 5 ≤ Lq) (hli : LIx σ) (kk : ∀ τq : Sto, LIx τq → WT X G ncq nsq τq 1023 [(3, .int (nI iq)), (2, .ref (gad G 11)), (1, .ref (gad G 0)), (0, .ref bq)] []) : WT X G ncq nsq σ 954 [(3, .int (nI iq)), (2, .ref (gad G 11)), (1, .ref (gad G 0)), (0, .ref bq)] [] := by
  obtain ⟨sn, cntq, rdq, barq, cdq, prq, trq, h⟩ := hli
  refine tw_aload o dL_law_954 2 rfl ?_
  refine tw_arg o (kq := 1) (j0 := 3) (j3 := 0) (by decide) (by omega) rfl rfl dL_law_955 dL_law_956 dL_law_957 dL_law_958 dL_law_959 ?_
  refine tw_callI o (As := [.int (xv (iq + 1))]) (st := []) (c_X9_good (xl X) G σ cdq prq trq h.2.2.2.2.1 (σ 29).1 rfl (xv (iq + 1))) om_X9_good mw_663 mw_664 mw_662 (by decide) rfl rfl rfl (by decide) rfl rfl (Nat.le_of_ble_eq_true rfl) dL_law_960 (fun rr1 σσ1 hp1 => ?_)
  obtain ⟨e1, k1⟩ := hp1
  have sk := sk_eq k1
  have h1 := LI_mv h sk
  have hp83 : (σσ1 83).1 = (σ 29).1 := by rw [sk.1 83 (by unfold kpL; omega)]; exact h.2.2.2.2.2.2.2.2.2.2.symm
  refine tw_aload o dL_law_963 1 rfl ?_
  refine tw_arg o (kq := 1) (j0 := 3) (j3 := 0) (by decide) (by omega) rfl rfl dL_law_964 dL_law_965 dL_law_966 dL_law_967 dL_law_968 ?_
  refine tw_callI o (As := [.int (xv (iq + 1))]) (st := [.int rr1]) (c_X10_good (xl X) G σσ1 cdq prq trq h1.2.2.2.2.2.1 (σ 29).1 hp83 (xv (iq + 1))) om_X10_good mw_1016 mw_1017 mw_1015 (by decide) rfl rfl rfl (by decide) rfl rfl (Nat.le_of_ble_eq_true rfl) dL_law_969 (fun rr2 σσ2 hp2 => ?_)
  obtain ⟨e2, k2⟩ := hp2
  have key : rr1 = rr2 ∧ ∃ τq : Sto, LIx τq ∧ ∀ H : Heap, va_P G.1 classes (wld G σσ2) H → va_P G.1 classes (wld G τq) H := by
    refine ⟨?_, σσ2, ⟨_, _, _, _, _, _, _, LI_mv h1 (sk_eq k2)⟩, fun _ q => q⟩
    rw [e1, e2]
  obtain ⟨heq, τq, hx, ht⟩ := key
  exact tw_icmp_eq o (tgt := 1023) dL_law_972 (by decide) (fun _ => tw_sto ht (kk τq hx)) (fun z => absurd heq z)
set_option maxHeartbeats 4000000 in
set_option maxRecDepth 100000 in
theorem cs_best {X : Cx} {G : Gl} {bq Lq ncq nsq : Nat} {xv : Nat → Int32} {σ : Sto} (o : OkL X G bq Lq xv ncq nsq) {iq : Nat} (hi : iq + 5 ≤ Lq) (hli : LIx σ) (kk : ∀ τq : Sto, LIx τq → WT X G ncq nsq τq 1023 [(3, .int (nI iq)), (2, .ref (gad G 11)), (1, .ref (gad G 0)), (0, .ref bq)] []) : WT X G ncq nsq σ 977 [(3, .int (nI iq)), (2, .ref (gad G 11)), (1, .ref (gad G 0)), (0, .ref bq)] [] := by
  obtain ⟨sn, cntq, rdq, barq, cdq, prq, trq, h⟩ := hli
  refine tw_aload o dL_law_977 2 rfl ?_
  refine tw_arg o (kq := 1) (j0 := 3) (j3 := 0) (by decide) (by omega) rfl rfl dL_law_978 dL_law_979 dL_law_980 dL_law_981 dL_law_982 ?_
  refine tw_callI o (As := [.int (xv (iq + 1))]) (st := []) (c_X9_best (xl X) G σ cdq prq trq h.2.2.2.2.1 (σ 29).1 rfl (xv (iq + 1))) om_X9_best mw_672 mw_673 mw_671 (by decide) rfl rfl rfl (by decide) rfl rfl (Nat.le_of_ble_eq_true rfl) dL_law_983 (fun rr1 σσ1 hp1 => ?_)
  obtain ⟨e1, k1⟩ := hp1
  have sk := sk_eq k1
  have h1 := LI_mv h sk
  have hp83 : (σσ1 83).1 = (σ 29).1 := by rw [sk.1 83 (by unfold kpL; omega)]; exact h.2.2.2.2.2.2.2.2.2.2.symm
  refine tw_aload o dL_law_986 1 rfl ?_
  refine tw_arg o (kq := 1) (j0 := 3) (j3 := 0) (by decide) (by omega) rfl rfl dL_law_987 dL_law_988 dL_law_989 dL_law_990 dL_law_991 ?_
  refine tw_callI o (As := [.int (xv (iq + 1))]) (st := [.int rr1]) (c_X10_best (xl X) G σσ1 cdq prq trq h1.2.2.2.2.2.1 (σ 29).1 hp83 (xv (iq + 1))) om_X10_best mw_1025 mw_1026 mw_1024 (by decide) rfl rfl rfl (by decide) rfl rfl (Nat.le_of_ble_eq_true rfl) dL_law_992 (fun rr2 σσ2 hp2 => ?_)
  obtain ⟨e2, k2⟩ := hp2
  have key : rr1 = rr2 ∧ ∃ τq : Sto, LIx τq ∧ ∀ H : Heap, va_P G.1 classes (wld G σσ2) H → va_P G.1 classes (wld G τq) H := by
    refine ⟨?_, σσ2, ⟨_, _, _, _, _, _, _, LI_mv h1 (sk_eq k2)⟩, fun _ q => q⟩
    rw [e1, e2]
  obtain ⟨heq, τq, hx, ht⟩ := key
  exact tw_icmp_eq o (tgt := 1023) dL_law_995 (by decide) (fun _ => tw_sto ht (kk τq hx)) (fun z => absurd heq z)
set_option maxHeartbeats 4000000 in
set_option maxRecDepth 100000 in
theorem cs_told {X : Cx} {G : Gl} {bq Lq ncq nsq : Nat} {xv : Nat → Int32} {σ : Sto} (o : OkL X G bq Lq xv ncq nsq) {iq : Nat} (hi : iq + 5 ≤ Lq) (hli : LIx σ) (kk : ∀ τq : Sto, LIx τq → WT X G ncq nsq τq 1023 [(3, .int (nI iq)), (2, .ref (gad G 11)), (1, .ref (gad G 0)), (0, .ref bq)] []) : WT X G ncq nsq σ 1000 [(3, .int (nI iq)), (2, .ref (gad G 11)), (1, .ref (gad G 0)), (0, .ref bq)] [] := by
  obtain ⟨sn, cntq, rdq, barq, cdq, prq, trq, h⟩ := hli
  refine tw_aload o dL_law_1000 2 rfl ?_
  refine tw_arg o (kq := 1) (j0 := 3) (j3 := 0) (by decide) (by omega) rfl rfl dL_law_1001 dL_law_1002 dL_law_1003 dL_law_1004 dL_law_1005 ?_
  refine tw_callI o (As := [.int (xv (iq + 1))]) (st := []) (c_X9_told (xl X) G σ cntq h.1.1 rdq barq h.2.2.1 cdq prq trq h.2.2.2.2.1 (xv (iq + 1))) om_X9_told mw_681 mw_682 mw_680 (by decide) rfl rfl rfl (by decide) rfl rfl (Nat.le_of_ble_eq_true rfl) dL_law_1006 (fun rr1 σσ1 hp1 => ?_)
  obtain ⟨e1, k1⟩ := hp1
  have sk := sk_eq k1
  have h1 := LI_mv h sk
  refine tw_aload o dL_law_1009 1 rfl ?_
  refine tw_arg o (kq := 1) (j0 := 3) (j3 := 0) (by decide) (by omega) rfl rfl dL_law_1010 dL_law_1011 dL_law_1012 dL_law_1013 dL_law_1014 ?_
  refine tw_callI o (As := [.int (xv (iq + 1))]) (st := [.int rr1]) (c_X10_told (xl X) G σσ1 cntq h1.2.1.1 rdq barq h1.2.2.2.1 cdq prq trq h1.2.2.2.2.2.1 (xv (iq + 1))) om_X10_told mw_1029 mw_1030 mw_1028 (by decide) rfl rfl rfl (by decide) rfl rfl (Nat.le_of_ble_eq_true rfl) dL_law_1015 (fun rr2 σσ2 hp2 => ?_)
  obtain ⟨e2, k2⟩ := hp2
  have key : rr1 = rr2 ∧ ∃ τq : Sto, LIx τq ∧ ∀ H : Heap, va_P G.1 classes (wld G σσ2) H → va_P G.1 classes (wld G τq) H := by
    refine ⟨?_, σσ2, ⟨_, _, _, _, _, _, _, LI_mv h1 (sk_eq k2)⟩, fun _ q => q⟩
    rw [e1, e2]
    by_cases z : inB (nI 0) (nI 5) ((xv (iq + 1)) - nI 10) = true
    · rw [h.2.2.2.2.2.2.1 _ (in5 z), yr_mv (sk.1 71 (by unfold kpL; omega))]
    · rw [if_neg z, if_neg z]
  obtain ⟨heq, τq, hx, ht⟩ := key
  exact tw_icmp_eq o (tgt := 1023) dL_law_1018 (by decide) (fun _ => tw_sto ht (kk τq hx)) (fun z => absurd heq z)
