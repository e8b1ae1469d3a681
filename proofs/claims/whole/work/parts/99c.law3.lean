section
variable {g : EG} {p : Program} {l : Launch} {e : Env} {s : State} {m : MethodId} {args : Array Value} {below : List Frame} {meth : Method} {c : Code} {A : Nat → Prop} {ad am ta : Nat → Nat} {Rr : va_W} {φ0 : Nat} {Q : State → Prop}
set_option maxHeartbeats 4000000 in
set_option maxRecDepth 100000 in
theorem lc_wait (C : Cx g p s m args meth c A 7 cL_law "ForestCourtsLaw") (hl : l.stackTraces = false) {Inv : CS → CS → Prop} {σ τ : CS} {b L ao : Nat} {xs : Nat → Int32} {x4 : Int32} {f : Nat → Int64} {cells slots : Nat} (hX : va_X b L xs s s.heap) (hbl : b < s.heap.size) (hbA : ¬ A b) (h1 : vp_in (x4 + 1) L) (hg : AgT Inv (f_FC_wait (xs (x4 + 1).toNatClampNeg) σ) (f_M_wait (xs (x4 + 1).toNatClampNeg) τ) (fun c0 => c0 = 0 ∨ c0 = 1 ∨ c0 = 2) (fun c0 => (if c0 = 0 then (0 : Int32) else if c0 = 1 then 1 else 2))) (hφ2 : ph σ.2.2 ≤ BB) (hcl : cells + (BB - ph σ.2.2 + 1) ≤ 601024) (hsl : slots + (2 * (BB - ph σ.2.2) + 6) ≤ 7293033)
    (k : ∀ (σ1 τ1 : CS) (ta1 : Nat → Nat) (f1 : Nat → Int64), Inv σ1 τ1 → ph σ.2.2 ≤ ph σ1.2.2 → ph σ1.2.2 ≤ BB → Nw g p l e room_1 s m args below meth c A Q 7 (cw g ad ta1 σ1 ++ (mw g am τ1 ++ [oWl g ao f1])) (cells + (ph σ1.2.2 - ph σ.2.2 + 1)) (slots + (2 * (ph σ1.2.2 - ph σ.2.2) + 6)) [(0, .ref b), (1, .ref (ad 0)), (2, .ref (am 112)), (3, .ref ao), (4, .int x4)] 2867 []) : Nw g p l e room_1 s m args below meth c A Q 7 (cw g ad ta σ ++ (mw g am τ ++ [oWl g ao f])) (cells) (slots) [(0, .ref b), (1, .ref (ad 0)), (2, .ref (am 112)), (3, .ref ao), (4, .int x4)] 220 [] := by
  obtain ⟨c0, v0, σ1, b0, τ1, e1, hc, e2, e3, e4, hI⟩ := hg
  have hc : c0 = 0 ∨ c0 = 1 ∨ c0 = 2 := hc
  have e3 : τ1.1 0 = (if c0 = 0 then (0 : Int32) else if c0 = 1 then 1 else 2) := e3
  refine nw_aload_n C dL_law_220 rfl 1 rfl ?_
  refine nw_aload_n C dL_law_221 rfl 0 rfl ?_
  refine nw_iload C dL_law_222 4 rfl ?_
  refine nw_iconst (v := 1) C dL_law_224 (by decide) ?_
  refine nw_iadd C dL_law_225 ?_
  refine nw_scr C hX hbl hbA h1 dL_law_226 ?_
  refine nw_aload_n C dL_law_227 rfl 3 rfl ?_
  refine nw_callSH (As := [.ref (ad 0)] ++ [.int (xs (x4 + 1).toNatClampNeg)] ++ [.ref ao]) (rest := []) C (z_wait hl e1 hc hφ2) tw_666 tw_667 tw_122 kh_L_wait.1 kh_L_wait.2.1 kh_L_wait.2.2 ⟨Nat.le_of_ble_eq_true rfl, Nat.le_of_ble_eq_true rfl⟩ ⟨hcl, hsl⟩ rfl dL_law_228 rfl (Nat.le_of_ble_eq_true rfl) ?_
  rintro w ws1 ⟨rfl, ⟨ta1, rfl⟩, hp3, hp4⟩
  refine nw_istore (lv' := (5, .int (if c0 = 0 then (0 : Int32) else if c0 = 1 then 1 else 2)) :: [(0, .ref b), (1, .ref (ad 0)), (2, .ref (am 112)), (3, .ref ao), (4, .int x4)]) C dL_law_231 (by decide) rfl ?_
  refine nw_aload_n C dL_law_233 rfl 3 rfl ?_
  refine nw_aload_n C dL_law_234 rfl 1 rfl ?_
  refine nw_iload C dL_law_235 5 rfl ?_
  refine nw_iconst (v := 1) C dL_law_237 (by decide) ?_
  refine nw_iadd C dL_law_238 ?_
  refine nw_scr C hX hbl hbA h1 dL_law_239 ?_
  refine nz_model (As := [.int (xs (x4 + 1).toNatClampNeg)]) (rest := []) C (c_M_wait e2) tw_2259 kv_X12_wait ⟨Nat.le_of_ble_eq_true rfl, Nat.le_of_ble_eq_true rfl⟩ ⟨by show _ ≤ 601024; omega, by show _ ≤ 7293033; omega⟩ rfl dL_law_240 rfl (Nat.le_of_ble_eq_true rfl) ?_
  refine nw_istore (lv' := (6, .int b0) :: (5, .int (if c0 = 0 then (0 : Int32) else if c0 = 1 then 1 else 2)) :: [(0, .ref b), (1, .ref (ad 0)), (2, .ref (am 112)), (3, .ref ao), (4, .int x4)]) C dL_law_243 (by decide) rfl ?_
  refine nw_aload_n C dL_law_245 rfl 4 rfl ?_
  refine nz_model (r1 := τ1.1 0) (τ1 := τ1) (As := []) (rest := []) C (c_M_thrown rfl) tw_1910 kv_X12_thrown ⟨Nat.le_of_ble_eq_true rfl, Nat.le_of_ble_eq_true rfl⟩ ⟨by show _ ≤ 601024; omega, by show _ ≤ 7293033; omega⟩ rfl dL_law_246 rfl (Nat.le_of_ble_eq_true rfl) ?_
  rw [e3]
  refine nw_iload C dL_law_249 1 rfl ?_
  have q1 : (if (if c0 = 0 then (0 : Int32) else if c0 = 1 then 1 else 2) = (if c0 = 0 then (0 : Int32) else if c0 = 1 then 1 else 2) then some 1 else none) = some 1 := if_pos rfl
  refine nw_icmp_eq (tgt := 256) C dL_law_251 (by decide) q1 (fun _ _ => ?_) (fun hn _ => absurd rfl hn)
  refine nw_iload C dL_law_256 1 rfl ?_
  by_cases h0 : c0 = 0
  · subst h0
    have e4 : v0 = b0 := e4 rfl
    subst e4
    have q2 : (if (0 : Int32) = 0 then some 1 else none) = some 1 := rfl
    refine nw_if_ne (tgt := 273) C dL_law_258 (by decide) q2 (fun _ _ => ?_) (fun hn _ => absurd rfl hn)
    refine nw_aload_n C dL_law_261 rfl 5 rfl ?_
    refine nw_iconst (v := 0) C dL_law_262 (by decide) ?_
    refine nw_lald C (60 + (mw g am τ1).length) oW_at dL_law_263 (by unfold vp_in; decide) ?_
    refine nw_iload C dL_law_264 0 rfl ?_
    refine nw_i2l C dL_law_266 ?_
    refine nw_lcmp C dL_law_267 ?_
    refine nw_st (st' := [.int (lg_cmp v0.toInt64 v0.toInt64)]) rfl ?_
    rw [lgc_eq]
    refine nw_if_eq (tgt := 273) C dL_law_268 (by decide) q2 (fun _ _ => ?_) (fun hn _ => absurd rfl hn)
    refine nw_goto (tgt := 2867) C dL_law_273 (by decide) ?_
    exact nw_lv (lv' := [(0, .ref b), (1, .ref (ad 0)), (2, .ref (am 112)), (3, .ref ao), (4, .int x4)]) [2, 3, 4, 5, 6] rfl (k σ1 τ1 ta1 _ hI hp3 hp4)
  · have q2 : (if (if c0 = 0 then (0 : Int32) else if c0 = 1 then 1 else 2) = 0 then none else some 1) = some 1 := if_neg (by rcases hc with rfl | rfl | rfl; exact absurd rfl h0; all_goals decide)
    refine nw_if_ne (tgt := 273) C dL_law_258 (by decide) q2 (fun _ h9 => by cases h9) (fun _ _ => ?_)
    refine nw_goto (tgt := 2867) C dL_law_273 (by decide) ?_
    exact nw_lv (lv' := [(0, .ref b), (1, .ref (ad 0)), (2, .ref (am 112)), (3, .ref ao), (4, .int x4)]) [2, 3, 4, 5, 6] rfl (k σ1 τ1 ta1 _ hI hp3 hp4)
set_option maxHeartbeats 4000000 in
set_option maxRecDepth 100000 in
theorem lc_mark (C : Cx g p s m args meth c A 7 cL_law "ForestCourtsLaw") (hl : l.stackTraces = false) {Inv : CS → CS → Prop} {σ τ : CS} {b L ao : Nat} {xs : Nat → Int32} {x4 : Int32} {f : Nat → Int64} {cells slots : Nat} (hX : va_X b L xs s s.heap) (hbl : b < s.heap.size) (hbA : ¬ A b) (h1 : vp_in (x4 + 1) L) (h2 : vp_in (x4 + 2) L) (h3 : vp_in (x4 + 3) L) (hg : AgT Inv (f_FC_mark (xs (x4 + 1).toNatClampNeg) (xs (x4 + 2).toNatClampNeg) (xs (x4 + 3).toNatClampNeg) σ) (f_M_mark (xs (x4 + 1).toNatClampNeg) (xs (x4 + 2).toNatClampNeg) (xs (x4 + 3).toNatClampNeg) τ) (fun c0 => c0 = 0 ∨ c0 = 1 ∨ c0 = 2) (fun c0 => (if c0 = 0 then (0 : Int32) else if c0 = 1 then 1 else 2))) (hφ2 : ph σ.2.2 ≤ BB) (hcl : cells + (BB - ph σ.2.2 + 1) ≤ 601024) (hsl : slots + (2 * (BB - ph σ.2.2) + 6) ≤ 7293033)
    (k : ∀ (σ1 τ1 : CS) (ta1 : Nat → Nat) (f1 : Nat → Int64), Inv σ1 τ1 → ph σ.2.2 ≤ ph σ1.2.2 → ph σ1.2.2 ≤ BB → Nw g p l e room_1 s m args below meth c A Q 7 (cw g ad ta1 σ1 ++ (mw g am τ1 ++ [oWl g ao f1])) (cells + (ph σ1.2.2 - ph σ.2.2 + 1)) (slots + (2 * (ph σ1.2.2 - ph σ.2.2) + 6)) [(0, .ref b), (1, .ref (ad 0)), (2, .ref (am 112)), (3, .ref ao), (4, .int x4)] 2867 []) : Nw g p l e room_1 s m args below meth c A Q 7 (cw g ad ta σ ++ (mw g am τ ++ [oWl g ao f])) (cells) (slots) [(0, .ref b), (1, .ref (ad 0)), (2, .ref (am 112)), (3, .ref ao), (4, .int x4)] 276 [] := by
  obtain ⟨c0, v0, σ1, b0, τ1, e1, hc, e2, e3, e4, hI⟩ := hg
  have hc : c0 = 0 ∨ c0 = 1 ∨ c0 = 2 := hc
  have e3 : τ1.1 0 = (if c0 = 0 then (0 : Int32) else if c0 = 1 then 1 else 2) := e3
  refine nw_aload_n C dL_law_276 rfl 1 rfl ?_
  refine nw_aload_n C dL_law_277 rfl 0 rfl ?_
  refine nw_iload C dL_law_278 4 rfl ?_
  refine nw_iconst (v := 1) C dL_law_280 (by decide) ?_
  refine nw_iadd C dL_law_281 ?_
  refine nw_scr C hX hbl hbA h1 dL_law_282 ?_
  refine nw_aload_n C dL_law_283 rfl 0 rfl ?_
  refine nw_iload C dL_law_284 4 rfl ?_
  refine nw_iconst (v := 2) C dL_law_286 (by decide) ?_
  refine nw_iadd C dL_law_287 ?_
  refine nw_scr C hX hbl hbA h2 dL_law_288 ?_
  refine nw_aload_n C dL_law_289 rfl 0 rfl ?_
  refine nw_iload C dL_law_290 4 rfl ?_
  refine nw_iconst (v := 3) C dL_law_292 (by decide) ?_
  refine nw_iadd C dL_law_293 ?_
  refine nw_scr C hX hbl hbA h3 dL_law_294 ?_
  refine nw_aload_n C dL_law_295 rfl 3 rfl ?_
  refine nw_callSH (As := [.ref (ad 0)] ++ [.int (xs (x4 + 1).toNatClampNeg), .int (xs (x4 + 2).toNatClampNeg), .int (xs (x4 + 3).toNatClampNeg)] ++ [.ref ao]) (rest := []) C (z_mark hl e1 hc hφ2) tw_912 tw_913 tw_122 kh_L_mark.1 kh_L_mark.2.1 kh_L_mark.2.2 ⟨Nat.le_of_ble_eq_true rfl, Nat.le_of_ble_eq_true rfl⟩ ⟨hcl, hsl⟩ rfl dL_law_296 rfl (Nat.le_of_ble_eq_true rfl) ?_
  rintro w ws1 ⟨rfl, ⟨ta1, rfl⟩, hp3, hp4⟩
  refine nw_istore (lv' := (5, .int (if c0 = 0 then (0 : Int32) else if c0 = 1 then 1 else 2)) :: [(0, .ref b), (1, .ref (ad 0)), (2, .ref (am 112)), (3, .ref ao), (4, .int x4)]) C dL_law_299 (by decide) rfl ?_
  refine nw_aload_n C dL_law_301 rfl 3 rfl ?_
  refine nw_aload_n C dL_law_302 rfl 1 rfl ?_
  refine nw_iload C dL_law_303 5 rfl ?_
  refine nw_iconst (v := 1) C dL_law_305 (by decide) ?_
  refine nw_iadd C dL_law_306 ?_
  refine nw_scr C hX hbl hbA h1 dL_law_307 ?_
  refine nw_aload_n C dL_law_308 rfl 1 rfl ?_
  refine nw_iload C dL_law_309 5 rfl ?_
  refine nw_iconst (v := 2) C dL_law_311 (by decide) ?_
  refine nw_iadd C dL_law_312 ?_
  refine nw_scr C hX hbl hbA h2 dL_law_313 ?_
  refine nw_aload_n C dL_law_314 rfl 1 rfl ?_
  refine nw_iload C dL_law_315 5 rfl ?_
  refine nw_iconst (v := 3) C dL_law_317 (by decide) ?_
  refine nw_iadd C dL_law_318 ?_
  refine nw_scr C hX hbl hbA h3 dL_law_319 ?_
  refine nz_model (As := [.int (xs (x4 + 1).toNatClampNeg), .int (xs (x4 + 2).toNatClampNeg), .int (xs (x4 + 3).toNatClampNeg)]) (rest := []) C (c_M_mark e2) tw_1914 kv_X12_mark ⟨Nat.le_of_ble_eq_true rfl, Nat.le_of_ble_eq_true rfl⟩ ⟨by show _ ≤ 601024; omega, by show _ ≤ 7293033; omega⟩ rfl dL_law_320 rfl (Nat.le_of_ble_eq_true rfl) ?_
  refine nw_istore (lv' := (6, .int b0) :: (5, .int (if c0 = 0 then (0 : Int32) else if c0 = 1 then 1 else 2)) :: [(0, .ref b), (1, .ref (ad 0)), (2, .ref (am 112)), (3, .ref ao), (4, .int x4)]) C dL_law_323 (by decide) rfl ?_
  refine nw_aload_n C dL_law_325 rfl 4 rfl ?_
  refine nz_model (r1 := τ1.1 0) (τ1 := τ1) (As := []) (rest := []) C (c_M_thrown rfl) tw_1910 kv_X12_thrown ⟨Nat.le_of_ble_eq_true rfl, Nat.le_of_ble_eq_true rfl⟩ ⟨by show _ ≤ 601024; omega, by show _ ≤ 7293033; omega⟩ rfl dL_law_326 rfl (Nat.le_of_ble_eq_true rfl) ?_
  rw [e3]
  refine nw_iload C dL_law_329 1 rfl ?_
  have q1 : (if (if c0 = 0 then (0 : Int32) else if c0 = 1 then 1 else 2) = (if c0 = 0 then (0 : Int32) else if c0 = 1 then 1 else 2) then some 1 else none) = some 1 := if_pos rfl
  refine nw_icmp_eq (tgt := 336) C dL_law_331 (by decide) q1 (fun _ _ => ?_) (fun hn _ => absurd rfl hn)
  refine nw_iload C dL_law_336 1 rfl ?_
  by_cases h0 : c0 = 0
  · subst h0
    have e4 : v0 = b0 := e4 rfl
    subst e4
    have q2 : (if (0 : Int32) = 0 then some 1 else none) = some 1 := rfl
    refine nw_if_ne (tgt := 353) C dL_law_338 (by decide) q2 (fun _ _ => ?_) (fun hn _ => absurd rfl hn)
    refine nw_aload_n C dL_law_341 rfl 5 rfl ?_
    refine nw_iconst (v := 0) C dL_law_342 (by decide) ?_
    refine nw_lald C (60 + (mw g am τ1).length) oW_at dL_law_343 (by unfold vp_in; decide) ?_
    refine nw_iload C dL_law_344 0 rfl ?_
    refine nw_i2l C dL_law_346 ?_
    refine nw_lcmp C dL_law_347 ?_
    refine nw_st (st' := [.int (lg_cmp v0.toInt64 v0.toInt64)]) rfl ?_
    rw [lgc_eq]
    refine nw_if_eq (tgt := 353) C dL_law_348 (by decide) q2 (fun _ _ => ?_) (fun hn _ => absurd rfl hn)
    refine nw_goto (tgt := 2867) C dL_law_353 (by decide) ?_
    exact nw_lv (lv' := [(0, .ref b), (1, .ref (ad 0)), (2, .ref (am 112)), (3, .ref ao), (4, .int x4)]) [2, 3, 4, 5, 6] rfl (k σ1 τ1 ta1 _ hI hp3 hp4)
  · have q2 : (if (if c0 = 0 then (0 : Int32) else if c0 = 1 then 1 else 2) = 0 then none else some 1) = some 1 := if_neg (by rcases hc with rfl | rfl | rfl; exact absurd rfl h0; all_goals decide)
    refine nw_if_ne (tgt := 353) C dL_law_338 (by decide) q2 (fun _ h9 => by cases h9) (fun _ _ => ?_)
    refine nw_goto (tgt := 2867) C dL_law_353 (by decide) ?_
    exact nw_lv (lv' := [(0, .ref b), (1, .ref (ad 0)), (2, .ref (am 112)), (3, .ref ao), (4, .int x4)]) [2, 3, 4, 5, 6] rfl (k σ1 τ1 ta1 _ hI hp3 hp4)
set_option maxHeartbeats 4000000 in
set_option maxRecDepth 100000 in
theorem lc_feed (C : Cx g p s m args meth c A 7 cL_law "ForestCourtsLaw") (hl : l.stackTraces = false) {Inv : CS → CS → Prop} {σ τ : CS} {b L ao : Nat} {xs : Nat → Int32} {x4 : Int32} {f : Nat → Int64} {cells slots : Nat} (hX : va_X b L xs s s.heap) (hbl : b < s.heap.size) (hbA : ¬ A b) (h1 : vp_in (x4 + 1) L) (h2 : vp_in (x4 + 2) L) (h3 : vp_in (x4 + 3) L) (h4 : vp_in (x4 + 4) L) (h5 : vp_in (x4 + 5) L) (hg : AgN Inv (f_FC_feed (xs (x4 + 1).toNatClampNeg) (xs (x4 + 2).toNatClampNeg) (xs (x4 + 3).toNatClampNeg) (xs (x4 + 4).toNatClampNeg) (xs (x4 + 5).toNatClampNeg) σ) (f_M_feed (xs (x4 + 1).toNatClampNeg) (xs (x4 + 2).toNatClampNeg) (xs (x4 + 3).toNatClampNeg) (xs (x4 + 4).toNatClampNeg) (xs (x4 + 5).toNatClampNeg) τ)) (hφ2 : ph σ.2.2 ≤ BB) (hcl : cells + (BB - ph σ.2.2 + 1) ≤ 601024) (hsl : slots + (2 * (BB - ph σ.2.2) + 6) ≤ 7293033)
    (k : ∀ (σ1 τ1 : CS) (ta1 : Nat → Nat) (f1 : Nat → Int64), Inv σ1 τ1 → ph σ.2.2 ≤ ph σ1.2.2 → ph σ1.2.2 ≤ BB → Nw g p l e room_1 s m args below meth c A Q 7 (cw g ad ta1 σ1 ++ (mw g am τ1 ++ [oWl g ao f1])) (cells + (ph σ1.2.2 - ph σ.2.2 + 1)) (slots + (2 * (ph σ1.2.2 - ph σ.2.2) + 6)) [(0, .ref b), (1, .ref (ad 0)), (2, .ref (am 112)), (3, .ref ao), (4, .int x4)] 2867 []) : Nw g p l e room_1 s m args below meth c A Q 7 (cw g ad ta σ ++ (mw g am τ ++ [oWl g ao f])) (cells) (slots) [(0, .ref b), (1, .ref (ad 0)), (2, .ref (am 112)), (3, .ref ao), (4, .int x4)] 356 [] := by
  obtain ⟨v0, σ1, τ1, e1, e2, hI⟩ := hg
  refine nw_aload_n C dL_law_356 rfl 1 rfl ?_
  refine nw_aload_n C dL_law_357 rfl 0 rfl ?_
  refine nw_iload C dL_law_358 4 rfl ?_
  refine nw_iconst (v := 1) C dL_law_360 (by decide) ?_
  refine nw_iadd C dL_law_361 ?_
  refine nw_scr C hX hbl hbA h1 dL_law_362 ?_
  refine nw_aload_n C dL_law_363 rfl 0 rfl ?_
  refine nw_iload C dL_law_364 4 rfl ?_
  refine nw_iconst (v := 2) C dL_law_366 (by decide) ?_
  refine nw_iadd C dL_law_367 ?_
  refine nw_scr C hX hbl hbA h2 dL_law_368 ?_
  refine nw_aload_n C dL_law_369 rfl 0 rfl ?_
  refine nw_iload C dL_law_370 4 rfl ?_
  refine nw_iconst (v := 3) C dL_law_372 (by decide) ?_
  refine nw_iadd C dL_law_373 ?_
  refine nw_scr C hX hbl hbA h3 dL_law_374 ?_
  refine nw_aload_n C dL_law_375 rfl 0 rfl ?_
  refine nw_iload C dL_law_376 4 rfl ?_
  refine nw_iconst (v := 4) C dL_law_378 (by decide) ?_
  refine nw_iadd C dL_law_379 ?_
  refine nw_scr C hX hbl hbA h4 dL_law_380 ?_
  refine nw_aload_n C dL_law_381 rfl 0 rfl ?_
  refine nw_iload C dL_law_382 4 rfl ?_
  refine nw_iconst (v := 5) C dL_law_384 (by decide) ?_
  refine nw_iadd C dL_law_385 ?_
  refine nw_scr C hX hbl hbA h5 dL_law_386 ?_
  refine nw_callV (q0 := 0) (As := [.int (xs (x4 + 1).toNatClampNeg), .int (xs (x4 + 2).toNatClampNeg), .int (xs (x4 + 3).toNatClampNeg), .int (xs (x4 + 4).toNatClampNeg), .int (xs (x4 + 5).toNatClampNeg)]) (rest := []) C (c_FC_feed e1 hφ2) tw_541 kv_X11_feed.1 kv_X11_feed.2.1 kv_X11_feed.2.2.1 kv_X11_feed.2.2.2.1 kv_X11_feed.2.2.2.2.1 kv_X11_feed.2.2.2.2.2 cl_FC rfl ⟨Nat.le_of_ble_eq_true rfl, Nat.le_of_ble_eq_true rfl⟩ ⟨by show _ ≤ 601024; omega, by show _ ≤ 7293033; omega⟩ rfl dL_law_387 rfl (Nat.le_of_ble_eq_true rfl) ?_
  rintro w ws1 ⟨rfl, ⟨ta1, rfl⟩, hp3, hp4⟩
  refine nw_aload_n C dL_law_390 rfl 2 rfl ?_
  refine nw_aload_n C dL_law_391 rfl 0 rfl ?_
  refine nw_iload C dL_law_392 4 rfl ?_
  refine nw_iconst (v := 1) C dL_law_394 (by decide) ?_
  refine nw_iadd C dL_law_395 ?_
  refine nw_scr C hX hbl hbA h1 dL_law_396 ?_
  refine nw_aload_n C dL_law_397 rfl 0 rfl ?_
  refine nw_iload C dL_law_398 4 rfl ?_
  refine nw_iconst (v := 2) C dL_law_400 (by decide) ?_
  refine nw_iadd C dL_law_401 ?_
  refine nw_scr C hX hbl hbA h2 dL_law_402 ?_
  refine nw_aload_n C dL_law_403 rfl 0 rfl ?_
  refine nw_iload C dL_law_404 4 rfl ?_
  refine nw_iconst (v := 3) C dL_law_406 (by decide) ?_
  refine nw_iadd C dL_law_407 ?_
  refine nw_scr C hX hbl hbA h3 dL_law_408 ?_
  refine nw_aload_n C dL_law_409 rfl 0 rfl ?_
  refine nw_iload C dL_law_410 4 rfl ?_
  refine nw_iconst (v := 4) C dL_law_412 (by decide) ?_
  refine nw_iadd C dL_law_413 ?_
  refine nw_scr C hX hbl hbA h4 dL_law_414 ?_
  refine nw_aload_n C dL_law_415 rfl 0 rfl ?_
  refine nw_iload C dL_law_416 4 rfl ?_
  refine nw_iconst (v := 5) C dL_law_418 (by decide) ?_
  refine nw_iadd C dL_law_419 ?_
  refine nw_scr C hX hbl hbA h5 dL_law_420 ?_
  refine nz_model (As := [.int (xs (x4 + 1).toNatClampNeg), .int (xs (x4 + 2).toNatClampNeg), .int (xs (x4 + 3).toNatClampNeg), .int (xs (x4 + 4).toNatClampNeg), .int (xs (x4 + 5).toNatClampNeg)]) (rest := [.int v0]) C (c_M_feed e2) tw_1928 kv_X12_feed ⟨Nat.le_of_ble_eq_true rfl, Nat.le_of_ble_eq_true rfl⟩ ⟨by show _ ≤ 601024; omega, by show _ ≤ 7293033; omega⟩ rfl dL_law_421 rfl (Nat.le_of_ble_eq_true rfl) ?_
  have q1 : (if v0 = v0 then some 1 else none) = some 1 := if_pos rfl
  refine nw_icmp_eq (tgt := 2867) C dL_law_424 (by decide) q1 (fun _ _ => ?_) (fun hn _ => absurd rfl hn)
  exact nw_widen (by omega) (by omega) (k σ1 τ1 ta1 _ hI hp3 hp4)
set_option maxHeartbeats 4000000 in
set_option maxRecDepth 100000 in
theorem lc_ring (C : Cx g p s m args meth c A 7 cL_law "ForestCourtsLaw") (hl : l.stackTraces = false) {Inv : CS → CS → Prop} {σ τ : CS} {b L ao : Nat} {xs : Nat → Int32} {x4 : Int32} {f : Nat → Int64} {cells slots : Nat} (hX : va_X b L xs s s.heap) (hbl : b < s.heap.size) (hbA : ¬ A b) (h1 : vp_in (x4 + 1) L) (h2 : vp_in (x4 + 2) L) (hg : AgT Inv (f_FC_ring (xs (x4 + 1).toNatClampNeg) (xs (x4 + 2).toNatClampNeg) σ) (f_M_ring (xs (x4 + 1).toNatClampNeg) (xs (x4 + 2).toNatClampNeg) τ) (fun c0 => c0 = 0 ∨ c0 = 1) (fun c0 => (if c0 = 0 then (0 : Int32) else 1))) (hφ2 : ph σ.2.2 ≤ BB) (hcl : cells + (BB - ph σ.2.2 + 1) ≤ 601024) (hsl : slots + (2 * (BB - ph σ.2.2) + 6) ≤ 7293033)
    (k : ∀ (σ1 τ1 : CS) (ta1 : Nat → Nat) (f1 : Nat → Int64), Inv σ1 τ1 → ph σ.2.2 ≤ ph σ1.2.2 → ph σ1.2.2 ≤ BB → Nw g p l e room_1 s m args below meth c A Q 7 (cw g ad ta1 σ1 ++ (mw g am τ1 ++ [oWl g ao f1])) (cells + (ph σ1.2.2 - ph σ.2.2 + 1)) (slots + (2 * (ph σ1.2.2 - ph σ.2.2) + 6)) [(0, .ref b), (1, .ref (ad 0)), (2, .ref (am 112)), (3, .ref ao), (4, .int x4)] 2867 []) : Nw g p l e room_1 s m args below meth c A Q 7 (cw g ad ta σ ++ (mw g am τ ++ [oWl g ao f])) (cells) (slots) [(0, .ref b), (1, .ref (ad 0)), (2, .ref (am 112)), (3, .ref ao), (4, .int x4)] 429 [] := by
  obtain ⟨c0, v0, σ1, b0, τ1, e1, hc, e2, e3, e4, hI⟩ := hg
  have hc : c0 = 0 ∨ c0 = 1 := hc
  have e3 : τ1.1 0 = (if c0 = 0 then (0 : Int32) else 1) := e3
  refine nw_aload_n C dL_law_429 rfl 1 rfl ?_
  refine nw_aload_n C dL_law_430 rfl 0 rfl ?_
  refine nw_iload C dL_law_431 4 rfl ?_
  refine nw_iconst (v := 1) C dL_law_433 (by decide) ?_
  refine nw_iadd C dL_law_434 ?_
  refine nw_scr C hX hbl hbA h1 dL_law_435 ?_
  refine nw_aload_n C dL_law_436 rfl 0 rfl ?_
  refine nw_iload C dL_law_437 4 rfl ?_
  refine nw_iconst (v := 2) C dL_law_439 (by decide) ?_
  refine nw_iadd C dL_law_440 ?_
  refine nw_scr C hX hbl hbA h2 dL_law_441 ?_
  refine nw_aload_n C dL_law_442 rfl 3 rfl ?_
  refine nw_callSH (As := [.ref (ad 0)] ++ [.int (xs (x4 + 1).toNatClampNeg), .int (xs (x4 + 2).toNatClampNeg)] ++ [.ref ao]) (rest := []) C (z_ring hl e1 hc hφ2) tw_929 tw_930 tw_122 kh_L_ring.1 kh_L_ring.2.1 kh_L_ring.2.2 ⟨Nat.le_of_ble_eq_true rfl, Nat.le_of_ble_eq_true rfl⟩ ⟨hcl, hsl⟩ rfl dL_law_443 rfl (Nat.le_of_ble_eq_true rfl) ?_
  rintro w ws1 ⟨rfl, ⟨ta1, rfl⟩, hp3, hp4⟩
  refine nw_istore (lv' := (5, .int (if c0 = 0 then (0 : Int32) else 1)) :: [(0, .ref b), (1, .ref (ad 0)), (2, .ref (am 112)), (3, .ref ao), (4, .int x4)]) C dL_law_446 (by decide) rfl ?_
  refine nw_aload_n C dL_law_448 rfl 3 rfl ?_
  refine nw_aload_n C dL_law_449 rfl 1 rfl ?_
  refine nw_iload C dL_law_450 5 rfl ?_
  refine nw_iconst (v := 1) C dL_law_452 (by decide) ?_
  refine nw_iadd C dL_law_453 ?_
  refine nw_scr C hX hbl hbA h1 dL_law_454 ?_
  refine nw_aload_n C dL_law_455 rfl 1 rfl ?_
  refine nw_iload C dL_law_456 5 rfl ?_
  refine nw_iconst (v := 2) C dL_law_458 (by decide) ?_
  refine nw_iadd C dL_law_459 ?_
  refine nw_scr C hX hbl hbA h2 dL_law_460 ?_
  refine nz_model (As := [.int (xs (x4 + 1).toNatClampNeg), .int (xs (x4 + 2).toNatClampNeg)]) (rest := []) C (c_M_ring e2) tw_1932 kv_X12_ring ⟨Nat.le_of_ble_eq_true rfl, Nat.le_of_ble_eq_true rfl⟩ ⟨by show _ ≤ 601024; omega, by show _ ≤ 7293033; omega⟩ rfl dL_law_461 rfl (Nat.le_of_ble_eq_true rfl) ?_
  refine nw_istore (lv' := (6, .int b0) :: (5, .int (if c0 = 0 then (0 : Int32) else 1)) :: [(0, .ref b), (1, .ref (ad 0)), (2, .ref (am 112)), (3, .ref ao), (4, .int x4)]) C dL_law_464 (by decide) rfl ?_
  refine nw_aload_n C dL_law_466 rfl 4 rfl ?_
  refine nz_model (r1 := τ1.1 0) (τ1 := τ1) (As := []) (rest := []) C (c_M_thrown rfl) tw_1910 kv_X12_thrown ⟨Nat.le_of_ble_eq_true rfl, Nat.le_of_ble_eq_true rfl⟩ ⟨by show _ ≤ 601024; omega, by show _ ≤ 7293033; omega⟩ rfl dL_law_467 rfl (Nat.le_of_ble_eq_true rfl) ?_
  rw [e3]
  refine nw_iload C dL_law_470 1 rfl ?_
  have q1 : (if (if c0 = 0 then (0 : Int32) else 1) = (if c0 = 0 then (0 : Int32) else 1) then some 1 else none) = some 1 := if_pos rfl
  refine nw_icmp_eq (tgt := 477) C dL_law_472 (by decide) q1 (fun _ _ => ?_) (fun hn _ => absurd rfl hn)
  refine nw_iload C dL_law_477 1 rfl ?_
  by_cases h0 : c0 = 0
  · subst h0
    have e4 : v0 = b0 := e4 rfl
    subst e4
    have q2 : (if (0 : Int32) = 0 then some 1 else none) = some 1 := rfl
    refine nw_if_ne (tgt := 494) C dL_law_479 (by decide) q2 (fun _ _ => ?_) (fun hn _ => absurd rfl hn)
    refine nw_aload_n C dL_law_482 rfl 5 rfl ?_
    refine nw_iconst (v := 0) C dL_law_483 (by decide) ?_
    refine nw_lald C (60 + (mw g am τ1).length) oW_at dL_law_484 (by unfold vp_in; decide) ?_
    refine nw_iload C dL_law_485 0 rfl ?_
    refine nw_i2l C dL_law_487 ?_
    refine nw_lcmp C dL_law_488 ?_
    refine nw_st (st' := [.int (lg_cmp v0.toInt64 v0.toInt64)]) rfl ?_
    rw [lgc_eq]
    refine nw_if_eq (tgt := 494) C dL_law_489 (by decide) q2 (fun _ _ => ?_) (fun hn _ => absurd rfl hn)
    refine nw_goto (tgt := 2867) C dL_law_494 (by decide) ?_
    exact nw_lv (lv' := [(0, .ref b), (1, .ref (ad 0)), (2, .ref (am 112)), (3, .ref ao), (4, .int x4)]) [2, 3, 4, 5, 6] rfl (k σ1 τ1 ta1 _ hI hp3 hp4)
  · have q2 : (if (if c0 = 0 then (0 : Int32) else 1) = 0 then none else some 1) = some 1 := if_neg (by rcases hc with rfl | rfl; exact absurd rfl h0; all_goals decide)
    refine nw_if_ne (tgt := 494) C dL_law_479 (by decide) q2 (fun _ h9 => by cases h9) (fun _ _ => ?_)
    refine nw_goto (tgt := 2867) C dL_law_494 (by decide) ?_
    exact nw_lv (lv' := [(0, .ref b), (1, .ref (ad 0)), (2, .ref (am 112)), (3, .ref ao), (4, .int x4)]) [2, 3, 4, 5, 6] rfl (k σ1 τ1 ta1 _ hI hp3 hp4)
set_option maxHeartbeats 4000000 in
set_option maxRecDepth 100000 in
theorem lc_unring (C : Cx g p s m args meth c A 7 cL_law "ForestCourtsLaw") (hl : l.stackTraces = false) {Inv : CS → CS → Prop} {σ τ : CS} {b L ao : Nat} {xs : Nat → Int32} {x4 : Int32} {f : Nat → Int64} {cells slots : Nat} (hX : va_X b L xs s s.heap) (hbl : b < s.heap.size) (hbA : ¬ A b) (h1 : vp_in (x4 + 1) L) (h2 : vp_in (x4 + 2) L) (hg : AgT Inv (f_FC_unring (xs (x4 + 1).toNatClampNeg) (xs (x4 + 2).toNatClampNeg) σ) (f_M_unring (xs (x4 + 1).toNatClampNeg) (xs (x4 + 2).toNatClampNeg) τ) (fun c0 => c0 = 0 ∨ c0 = 3 ∨ c0 = 1) (fun c0 => (if c0 = 0 then (0 : Int32) else if c0 = 3 then 1 else 2))) (hφ2 : ph σ.2.2 ≤ BB) (hcl : cells + (BB - ph σ.2.2 + 1) ≤ 601024) (hsl : slots + (2 * (BB - ph σ.2.2) + 6) ≤ 7293033)
    (k : ∀ (σ1 τ1 : CS) (ta1 : Nat → Nat) (f1 : Nat → Int64), Inv σ1 τ1 → ph σ.2.2 ≤ ph σ1.2.2 → ph σ1.2.2 ≤ BB → Nw g p l e room_1 s m args below meth c A Q 7 (cw g ad ta1 σ1 ++ (mw g am τ1 ++ [oWl g ao f1])) (cells + (ph σ1.2.2 - ph σ.2.2 + 1)) (slots + (2 * (ph σ1.2.2 - ph σ.2.2) + 6)) [(0, .ref b), (1, .ref (ad 0)), (2, .ref (am 112)), (3, .ref ao), (4, .int x4)] 2867 []) : Nw g p l e room_1 s m args below meth c A Q 7 (cw g ad ta σ ++ (mw g am τ ++ [oWl g ao f])) (cells) (slots) [(0, .ref b), (1, .ref (ad 0)), (2, .ref (am 112)), (3, .ref ao), (4, .int x4)] 497 [] := by
  obtain ⟨c0, v0, σ1, b0, τ1, e1, hc, e2, e3, e4, hI⟩ := hg
  have hc : c0 = 0 ∨ c0 = 3 ∨ c0 = 1 := hc
  have e3 : τ1.1 0 = (if c0 = 0 then (0 : Int32) else if c0 = 3 then 1 else 2) := e3
  refine nw_aload_n C dL_law_497 rfl 1 rfl ?_
  refine nw_aload_n C dL_law_498 rfl 0 rfl ?_
  refine nw_iload C dL_law_499 4 rfl ?_
  refine nw_iconst (v := 1) C dL_law_501 (by decide) ?_
  refine nw_iadd C dL_law_502 ?_
  refine nw_scr C hX hbl hbA h1 dL_law_503 ?_
  refine nw_aload_n C dL_law_504 rfl 0 rfl ?_
  refine nw_iload C dL_law_505 4 rfl ?_
  refine nw_iconst (v := 2) C dL_law_507 (by decide) ?_
  refine nw_iadd C dL_law_508 ?_
  refine nw_scr C hX hbl hbA h2 dL_law_509 ?_
  refine nw_aload_n C dL_law_510 rfl 3 rfl ?_
  refine nw_callSH (As := [.ref (ad 0)] ++ [.int (xs (x4 + 1).toNatClampNeg), .int (xs (x4 + 2).toNatClampNeg)] ++ [.ref ao]) (rest := []) C (z_unring hl e1 hc hφ2) tw_982 tw_983 tw_122 kh_L_unring.1 kh_L_unring.2.1 kh_L_unring.2.2 ⟨Nat.le_of_ble_eq_true rfl, Nat.le_of_ble_eq_true rfl⟩ ⟨hcl, hsl⟩ rfl dL_law_511 rfl (Nat.le_of_ble_eq_true rfl) ?_
  rintro w ws1 ⟨rfl, ⟨ta1, rfl⟩, hp3, hp4⟩
  refine nw_istore (lv' := (5, .int (if c0 = 0 then (0 : Int32) else if c0 = 3 then 1 else 2)) :: [(0, .ref b), (1, .ref (ad 0)), (2, .ref (am 112)), (3, .ref ao), (4, .int x4)]) C dL_law_514 (by decide) rfl ?_
  refine nw_aload_n C dL_law_516 rfl 3 rfl ?_
  refine nw_aload_n C dL_law_517 rfl 1 rfl ?_
  refine nw_iload C dL_law_518 5 rfl ?_
  refine nw_iconst (v := 1) C dL_law_520 (by decide) ?_
  refine nw_iadd C dL_law_521 ?_
  refine nw_scr C hX hbl hbA h1 dL_law_522 ?_
  refine nw_aload_n C dL_law_523 rfl 1 rfl ?_
  refine nw_iload C dL_law_524 5 rfl ?_
  refine nw_iconst (v := 2) C dL_law_526 (by decide) ?_
  refine nw_iadd C dL_law_527 ?_
  refine nw_scr C hX hbl hbA h2 dL_law_528 ?_
  refine nz_model (As := [.int (xs (x4 + 1).toNatClampNeg), .int (xs (x4 + 2).toNatClampNeg)]) (rest := []) C (c_M_unring e2) tw_1966 kv_X12_unring ⟨Nat.le_of_ble_eq_true rfl, Nat.le_of_ble_eq_true rfl⟩ ⟨by show _ ≤ 601024; omega, by show _ ≤ 7293033; omega⟩ rfl dL_law_529 rfl (Nat.le_of_ble_eq_true rfl) ?_
  refine nw_istore (lv' := (6, .int b0) :: (5, .int (if c0 = 0 then (0 : Int32) else if c0 = 3 then 1 else 2)) :: [(0, .ref b), (1, .ref (ad 0)), (2, .ref (am 112)), (3, .ref ao), (4, .int x4)]) C dL_law_532 (by decide) rfl ?_
  refine nw_aload_n C dL_law_534 rfl 4 rfl ?_
  refine nz_model (r1 := τ1.1 0) (τ1 := τ1) (As := []) (rest := []) C (c_M_thrown rfl) tw_1910 kv_X12_thrown ⟨Nat.le_of_ble_eq_true rfl, Nat.le_of_ble_eq_true rfl⟩ ⟨by show _ ≤ 601024; omega, by show _ ≤ 7293033; omega⟩ rfl dL_law_535 rfl (Nat.le_of_ble_eq_true rfl) ?_
  rw [e3]
  refine nw_iload C dL_law_538 1 rfl ?_
  have q1 : (if (if c0 = 0 then (0 : Int32) else if c0 = 3 then 1 else 2) = (if c0 = 0 then (0 : Int32) else if c0 = 3 then 1 else 2) then some 1 else none) = some 1 := if_pos rfl
  refine nw_icmp_eq (tgt := 545) C dL_law_540 (by decide) q1 (fun _ _ => ?_) (fun hn _ => absurd rfl hn)
  refine nw_iload C dL_law_545 1 rfl ?_
  by_cases h0 : c0 = 0
  · subst h0
    have e4 : v0 = b0 := e4 rfl
    subst e4
    have q2 : (if (0 : Int32) = 0 then some 1 else none) = some 1 := rfl
    refine nw_if_ne (tgt := 562) C dL_law_547 (by decide) q2 (fun _ _ => ?_) (fun hn _ => absurd rfl hn)
    refine nw_aload_n C dL_law_550 rfl 5 rfl ?_
    refine nw_iconst (v := 0) C dL_law_551 (by decide) ?_
    refine nw_lald C (60 + (mw g am τ1).length) oW_at dL_law_552 (by unfold vp_in; decide) ?_
    refine nw_iload C dL_law_553 0 rfl ?_
    refine nw_i2l C dL_law_555 ?_
    refine nw_lcmp C dL_law_556 ?_
    refine nw_st (st' := [.int (lg_cmp v0.toInt64 v0.toInt64)]) rfl ?_
    rw [lgc_eq]
    refine nw_if_eq (tgt := 562) C dL_law_557 (by decide) q2 (fun _ _ => ?_) (fun hn _ => absurd rfl hn)
    refine nw_goto (tgt := 2867) C dL_law_562 (by decide) ?_
    exact nw_lv (lv' := [(0, .ref b), (1, .ref (ad 0)), (2, .ref (am 112)), (3, .ref ao), (4, .int x4)]) [2, 3, 4, 5, 6] rfl (k σ1 τ1 ta1 _ hI hp3 hp4)
  · have q2 : (if (if c0 = 0 then (0 : Int32) else if c0 = 3 then 1 else 2) = 0 then none else some 1) = some 1 := if_neg (by rcases hc with rfl | rfl | rfl; exact absurd rfl h0; all_goals decide)
    refine nw_if_ne (tgt := 562) C dL_law_547 (by decide) q2 (fun _ h9 => by cases h9) (fun _ _ => ?_)
    refine nw_goto (tgt := 2867) C dL_law_562 (by decide) ?_
    exact nw_lv (lv' := [(0, .ref b), (1, .ref (ad 0)), (2, .ref (am 112)), (3, .ref ao), (4, .int x4)]) [2, 3, 4, 5, 6] rfl (k σ1 τ1 ta1 _ hI hp3 hp4)
set_option maxHeartbeats 4000000 in
set_option maxRecDepth 100000 in
theorem lc_strip (C : Cx g p s m args meth c A 7 cL_law "ForestCourtsLaw") (hl : l.stackTraces = false) {Inv : CS → CS → Prop} {σ τ : CS} {b L ao : Nat} {xs : Nat → Int32} {x4 : Int32} {f : Nat → Int64} {cells slots : Nat} (hX : va_X b L xs s s.heap) (hbl : b < s.heap.size) (hbA : ¬ A b) (h1 : vp_in (x4 + 1) L) (hg : AgT Inv (f_FC_strip (xs (x4 + 1).toNatClampNeg) σ) (f_M_strip (xs (x4 + 1).toNatClampNeg) τ) (fun c0 => c0 = 0 ∨ c0 = 1) (fun c0 => (if c0 = 0 then (0 : Int32) else 1))) (hφ2 : ph σ.2.2 ≤ BB) (hcl : cells + (BB - ph σ.2.2 + 1) ≤ 601024) (hsl : slots + (2 * (BB - ph σ.2.2) + 6) ≤ 7293033)
    (k : ∀ (σ1 τ1 : CS) (ta1 : Nat → Nat) (f1 : Nat → Int64), Inv σ1 τ1 → ph σ.2.2 ≤ ph σ1.2.2 → ph σ1.2.2 ≤ BB → Nw g p l e room_1 s m args below meth c A Q 7 (cw g ad ta1 σ1 ++ (mw g am τ1 ++ [oWl g ao f1])) (cells + (ph σ1.2.2 - ph σ.2.2 + 1)) (slots + (2 * (ph σ1.2.2 - ph σ.2.2) + 6)) [(0, .ref b), (1, .ref (ad 0)), (2, .ref (am 112)), (3, .ref ao), (4, .int x4)] 2867 []) : Nw g p l e room_1 s m args below meth c A Q 7 (cw g ad ta σ ++ (mw g am τ ++ [oWl g ao f])) (cells) (slots) [(0, .ref b), (1, .ref (ad 0)), (2, .ref (am 112)), (3, .ref ao), (4, .int x4)] 565 [] := by
  obtain ⟨c0, v0, σ1, b0, τ1, e1, hc, e2, e3, e4, hI⟩ := hg
  have hc : c0 = 0 ∨ c0 = 1 := hc
  have e3 : τ1.1 0 = (if c0 = 0 then (0 : Int32) else 1) := e3
  refine nw_aload_n C dL_law_565 rfl 1 rfl ?_
  refine nw_aload_n C dL_law_566 rfl 0 rfl ?_
  refine nw_iload C dL_law_567 4 rfl ?_
  refine nw_iconst (v := 1) C dL_law_569 (by decide) ?_
  refine nw_iadd C dL_law_570 ?_
  refine nw_scr C hX hbl hbA h1 dL_law_571 ?_
  refine nw_aload_n C dL_law_572 rfl 3 rfl ?_
  refine nw_callSH (As := [.ref (ad 0)] ++ [.int (xs (x4 + 1).toNatClampNeg)] ++ [.ref ao]) (rest := []) C (z_strip hl e1 hc hφ2) tw_1014 tw_1015 tw_122 kh_L_strip.1 kh_L_strip.2.1 kh_L_strip.2.2 ⟨Nat.le_of_ble_eq_true rfl, Nat.le_of_ble_eq_true rfl⟩ ⟨hcl, hsl⟩ rfl dL_law_573 rfl (Nat.le_of_ble_eq_true rfl) ?_
  rintro w ws1 ⟨rfl, ⟨ta1, rfl⟩, hp3, hp4⟩
  refine nw_istore (lv' := (5, .int (if c0 = 0 then (0 : Int32) else 1)) :: [(0, .ref b), (1, .ref (ad 0)), (2, .ref (am 112)), (3, .ref ao), (4, .int x4)]) C dL_law_576 (by decide) rfl ?_
  refine nw_aload_n C dL_law_578 rfl 3 rfl ?_
  refine nw_aload_n C dL_law_579 rfl 1 rfl ?_
  refine nw_iload C dL_law_580 5 rfl ?_
  refine nw_iconst (v := 1) C dL_law_582 (by decide) ?_
  refine nw_iadd C dL_law_583 ?_
  refine nw_scr C hX hbl hbA h1 dL_law_584 ?_
  refine nz_model (As := [.int (xs (x4 + 1).toNatClampNeg)]) (rest := []) C (c_M_strip e2) tw_1970 kv_X12_strip ⟨Nat.le_of_ble_eq_true rfl, Nat.le_of_ble_eq_true rfl⟩ ⟨by show _ ≤ 601024; omega, by show _ ≤ 7293033; omega⟩ rfl dL_law_585 rfl (Nat.le_of_ble_eq_true rfl) ?_
  refine nw_istore (lv' := (6, .int b0) :: (5, .int (if c0 = 0 then (0 : Int32) else 1)) :: [(0, .ref b), (1, .ref (ad 0)), (2, .ref (am 112)), (3, .ref ao), (4, .int x4)]) C dL_law_588 (by decide) rfl ?_
  refine nw_aload_n C dL_law_590 rfl 4 rfl ?_
  refine nz_model (r1 := τ1.1 0) (τ1 := τ1) (As := []) (rest := []) C (c_M_thrown rfl) tw_1910 kv_X12_thrown ⟨Nat.le_of_ble_eq_true rfl, Nat.le_of_ble_eq_true rfl⟩ ⟨by show _ ≤ 601024; omega, by show _ ≤ 7293033; omega⟩ rfl dL_law_591 rfl (Nat.le_of_ble_eq_true rfl) ?_
  rw [e3]
  refine nw_iload C dL_law_594 1 rfl ?_
  have q1 : (if (if c0 = 0 then (0 : Int32) else 1) = (if c0 = 0 then (0 : Int32) else 1) then some 1 else none) = some 1 := if_pos rfl
  refine nw_icmp_eq (tgt := 601) C dL_law_596 (by decide) q1 (fun _ _ => ?_) (fun hn _ => absurd rfl hn)
  refine nw_iload C dL_law_601 1 rfl ?_
  by_cases h0 : c0 = 0
  · subst h0
    have e4 : v0 = b0 := e4 rfl
    subst e4
    have q2 : (if (0 : Int32) = 0 then some 1 else none) = some 1 := rfl
    refine nw_if_ne (tgt := 618) C dL_law_603 (by decide) q2 (fun _ _ => ?_) (fun hn _ => absurd rfl hn)
    refine nw_aload_n C dL_law_606 rfl 5 rfl ?_
    refine nw_iconst (v := 0) C dL_law_607 (by decide) ?_
    refine nw_lald C (60 + (mw g am τ1).length) oW_at dL_law_608 (by unfold vp_in; decide) ?_
    refine nw_iload C dL_law_609 0 rfl ?_
    refine nw_i2l C dL_law_611 ?_
    refine nw_lcmp C dL_law_612 ?_
    refine nw_st (st' := [.int (lg_cmp v0.toInt64 v0.toInt64)]) rfl ?_
    rw [lgc_eq]
    refine nw_if_eq (tgt := 618) C dL_law_613 (by decide) q2 (fun _ _ => ?_) (fun hn _ => absurd rfl hn)
    refine nw_goto (tgt := 2867) C dL_law_618 (by decide) ?_
    exact nw_lv (lv' := [(0, .ref b), (1, .ref (ad 0)), (2, .ref (am 112)), (3, .ref ao), (4, .int x4)]) [2, 3, 4, 5, 6] rfl (k σ1 τ1 ta1 _ hI hp3 hp4)
  · have q2 : (if (if c0 = 0 then (0 : Int32) else 1) = 0 then none else some 1) = some 1 := if_neg (by rcases hc with rfl | rfl; exact absurd rfl h0; all_goals decide)
    refine nw_if_ne (tgt := 618) C dL_law_603 (by decide) q2 (fun _ h9 => by cases h9) (fun _ _ => ?_)
    refine nw_goto (tgt := 2867) C dL_law_618 (by decide) ?_
    exact nw_lv (lv' := [(0, .ref b), (1, .ref (ad 0)), (2, .ref (am 112)), (3, .ref ao), (4, .int x4)]) [2, 3, 4, 5, 6] rfl (k σ1 τ1 ta1 _ hI hp3 hp4)
set_option maxHeartbeats 4000000 in
set_option maxRecDepth 100000 in
theorem lc_bounds (C : Cx g p s m args meth c A 7 cL_law "ForestCourtsLaw") (hl : l.stackTraces = false) {Inv : CS → CS → Prop} {σ τ : CS} {b L ao : Nat} {xs : Nat → Int32} {x4 : Int32} {f : Nat → Int64} {cells slots : Nat} (hX : va_X b L xs s s.heap) (hbl : b < s.heap.size) (hbA : ¬ A b) (h1 : vp_in (x4 + 1) L) (hg : AgT Inv (f_FC_bounds (xs (x4 + 1).toNatClampNeg) σ) (f_M_bounds (xs (x4 + 1).toNatClampNeg) τ) (fun c0 => c0 = 0 ∨ c0 = 1) (fun c0 => (if c0 = 0 then (0 : Int32) else 1))) (hφ2 : ph σ.2.2 ≤ BB) (hcl : cells + (BB - ph σ.2.2 + 1) ≤ 601024) (hsl : slots + (2 * (BB - ph σ.2.2) + 6) ≤ 7293033)
    (k : ∀ (σ1 τ1 : CS) (ta1 : Nat → Nat) (f1 : Nat → Int64), Inv σ1 τ1 → ph σ.2.2 ≤ ph σ1.2.2 → ph σ1.2.2 ≤ BB → Nw g p l e room_1 s m args below meth c A Q 7 (cw g ad ta1 σ1 ++ (mw g am τ1 ++ [oWl g ao f1])) (cells + (ph σ1.2.2 - ph σ.2.2 + 1)) (slots + (2 * (ph σ1.2.2 - ph σ.2.2) + 6)) [(0, .ref b), (1, .ref (ad 0)), (2, .ref (am 112)), (3, .ref ao), (4, .int x4)] 2867 []) : Nw g p l e room_1 s m args below meth c A Q 7 (cw g ad ta σ ++ (mw g am τ ++ [oWl g ao f])) (cells) (slots) [(0, .ref b), (1, .ref (ad 0)), (2, .ref (am 112)), (3, .ref ao), (4, .int x4)] 621 [] := by
  obtain ⟨c0, v0, σ1, b0, τ1, e1, hc, e2, e3, e4, hI⟩ := hg
  have hc : c0 = 0 ∨ c0 = 1 := hc
  have e3 : τ1.1 0 = (if c0 = 0 then (0 : Int32) else 1) := e3
  refine nw_aload_n C dL_law_621 rfl 1 rfl ?_
  refine nw_aload_n C dL_law_622 rfl 0 rfl ?_
  refine nw_iload C dL_law_623 4 rfl ?_
  refine nw_iconst (v := 1) C dL_law_625 (by decide) ?_
  refine nw_iadd C dL_law_626 ?_
  refine nw_scr C hX hbl hbA h1 dL_law_627 ?_
  refine nw_aload_n C dL_law_628 rfl 3 rfl ?_
  refine nw_callSH (As := [.ref (ad 0)] ++ [.int (xs (x4 + 1).toNatClampNeg)] ++ [.ref ao]) (rest := []) C (z_bounds hl e1 hc hφ2) tw_1021 tw_1022 tw_122 kh_L_bounds.1 kh_L_bounds.2.1 kh_L_bounds.2.2 ⟨Nat.le_of_ble_eq_true rfl, Nat.le_of_ble_eq_true rfl⟩ ⟨hcl, hsl⟩ rfl dL_law_629 rfl (Nat.le_of_ble_eq_true rfl) ?_
  rintro w ws1 ⟨rfl, ⟨ta1, rfl⟩, hp3, hp4⟩
  refine nw_istore (lv' := (5, .int (if c0 = 0 then (0 : Int32) else 1)) :: [(0, .ref b), (1, .ref (ad 0)), (2, .ref (am 112)), (3, .ref ao), (4, .int x4)]) C dL_law_632 (by decide) rfl ?_
  refine nw_aload_n C dL_law_634 rfl 3 rfl ?_
  refine nw_aload_n C dL_law_635 rfl 1 rfl ?_
  refine nw_iload C dL_law_636 5 rfl ?_
  refine nw_iconst (v := 1) C dL_law_638 (by decide) ?_
  refine nw_iadd C dL_law_639 ?_
  refine nw_scr C hX hbl hbA h1 dL_law_640 ?_
  refine nz_model (As := [.int (xs (x4 + 1).toNatClampNeg)]) (rest := []) C (c_M_bounds e2) tw_1974 kv_X12_bounds ⟨Nat.le_of_ble_eq_true rfl, Nat.le_of_ble_eq_true rfl⟩ ⟨by show _ ≤ 601024; omega, by show _ ≤ 7293033; omega⟩ rfl dL_law_641 rfl (Nat.le_of_ble_eq_true rfl) ?_
  refine nw_istore (lv' := (6, .int b0) :: (5, .int (if c0 = 0 then (0 : Int32) else 1)) :: [(0, .ref b), (1, .ref (ad 0)), (2, .ref (am 112)), (3, .ref ao), (4, .int x4)]) C dL_law_644 (by decide) rfl ?_
  refine nw_aload_n C dL_law_646 rfl 4 rfl ?_
  refine nz_model (r1 := τ1.1 0) (τ1 := τ1) (As := []) (rest := []) C (c_M_thrown rfl) tw_1910 kv_X12_thrown ⟨Nat.le_of_ble_eq_true rfl, Nat.le_of_ble_eq_true rfl⟩ ⟨by show _ ≤ 601024; omega, by show _ ≤ 7293033; omega⟩ rfl dL_law_647 rfl (Nat.le_of_ble_eq_true rfl) ?_
  rw [e3]
  refine nw_iload C dL_law_650 1 rfl ?_
  have q1 : (if (if c0 = 0 then (0 : Int32) else 1) = (if c0 = 0 then (0 : Int32) else 1) then some 1 else none) = some 1 := if_pos rfl
  refine nw_icmp_eq (tgt := 657) C dL_law_652 (by decide) q1 (fun _ _ => ?_) (fun hn _ => absurd rfl hn)
  refine nw_iload C dL_law_657 1 rfl ?_
  by_cases h0 : c0 = 0
  · subst h0
    have e4 : v0 = b0 := e4 rfl
    subst e4
    have q2 : (if (0 : Int32) = 0 then some 1 else none) = some 1 := rfl
    refine nw_if_ne (tgt := 674) C dL_law_659 (by decide) q2 (fun _ _ => ?_) (fun hn _ => absurd rfl hn)
    refine nw_aload_n C dL_law_662 rfl 5 rfl ?_
    refine nw_iconst (v := 0) C dL_law_663 (by decide) ?_
    refine nw_lald C (60 + (mw g am τ1).length) oW_at dL_law_664 (by unfold vp_in; decide) ?_
    refine nw_iload C dL_law_665 0 rfl ?_
    refine nw_i2l C dL_law_667 ?_
    refine nw_lcmp C dL_law_668 ?_
    refine nw_st (st' := [.int (lg_cmp v0.toInt64 v0.toInt64)]) rfl ?_
    rw [lgc_eq]
    refine nw_if_eq (tgt := 674) C dL_law_669 (by decide) q2 (fun _ _ => ?_) (fun hn _ => absurd rfl hn)
    refine nw_goto (tgt := 2867) C dL_law_674 (by decide) ?_
    exact nw_lv (lv' := [(0, .ref b), (1, .ref (ad 0)), (2, .ref (am 112)), (3, .ref ao), (4, .int x4)]) [2, 3, 4, 5, 6] rfl (k σ1 τ1 ta1 _ hI hp3 hp4)
  · have q2 : (if (if c0 = 0 then (0 : Int32) else 1) = 0 then none else some 1) = some 1 := if_neg (by rcases hc with rfl | rfl; exact absurd rfl h0; all_goals decide)
    refine nw_if_ne (tgt := 674) C dL_law_659 (by decide) q2 (fun _ h9 => by cases h9) (fun _ _ => ?_)
    refine nw_goto (tgt := 2867) C dL_law_674 (by decide) ?_
    exact nw_lv (lv' := [(0, .ref b), (1, .ref (ad 0)), (2, .ref (am 112)), (3, .ref ao), (4, .int x4)]) [2, 3, 4, 5, 6] rfl (k σ1 τ1 ta1 _ hI hp3 hp4)
set_option maxHeartbeats 4000000 in
set_option maxRecDepth 100000 in
theorem lc_where (C : Cx g p s m args meth c A 7 cL_law "ForestCourtsLaw") (hl : l.stackTraces = false) {Inv : CS → CS → Prop} {σ τ : CS} {b L ao : Nat} {xs : Nat → Int32} {x4 : Int32} {f : Nat → Int64} {cells slots : Nat} (hX : va_X b L xs s s.heap) (hbl : b < s.heap.size) (hbA : ¬ A b) (h1 : vp_in (x4 + 1) L) (h2 : vp_in (x4 + 2) L) (h3 : vp_in (x4 + 3) L) (hg : AgT Inv (f_FC_where (xs (x4 + 1).toNatClampNeg) (xs (x4 + 2).toNatClampNeg) (xs (x4 + 3).toNatClampNeg) σ) (f_M_where (xs (x4 + 1).toNatClampNeg) (xs (x4 + 2).toNatClampNeg) (xs (x4 + 3).toNatClampNeg) τ) (fun c0 => c0 = 0 ∨ c0 = 1) (fun c0 => (if c0 = 0 then (0 : Int32) else 1))) (hφ2 : ph σ.2.2 ≤ BB) (hcl : cells + (BB - ph σ.2.2 + 1) ≤ 601024) (hsl : slots + (2 * (BB - ph σ.2.2) + 6) ≤ 7293033)
    (k : ∀ (σ1 τ1 : CS) (ta1 : Nat → Nat) (f1 : Nat → Int64), Inv σ1 τ1 → ph σ.2.2 ≤ ph σ1.2.2 → ph σ1.2.2 ≤ BB → Nw g p l e room_1 s m args below meth c A Q 7 (cw g ad ta1 σ1 ++ (mw g am τ1 ++ [oWl g ao f1])) (cells + (ph σ1.2.2 - ph σ.2.2 + 1)) (slots + (2 * (ph σ1.2.2 - ph σ.2.2) + 6)) [(0, .ref b), (1, .ref (ad 0)), (2, .ref (am 112)), (3, .ref ao), (4, .int x4)] 2867 []) : Nw g p l e room_1 s m args below meth c A Q 7 (cw g ad ta σ ++ (mw g am τ ++ [oWl g ao f])) (cells) (slots) [(0, .ref b), (1, .ref (ad 0)), (2, .ref (am 112)), (3, .ref ao), (4, .int x4)] 677 [] := by
  obtain ⟨c0, v0, σ1, b0, τ1, e1, hc, e2, e3, e4, hI⟩ := hg
  have hc : c0 = 0 ∨ c0 = 1 := hc
  have e3 : τ1.1 0 = (if c0 = 0 then (0 : Int32) else 1) := e3
  refine nw_aload_n C dL_law_677 rfl 1 rfl ?_
  refine nw_aload_n C dL_law_678 rfl 0 rfl ?_
  refine nw_iload C dL_law_679 4 rfl ?_
  refine nw_iconst (v := 1) C dL_law_681 (by decide) ?_
  refine nw_iadd C dL_law_682 ?_
  refine nw_scr C hX hbl hbA h1 dL_law_683 ?_
  refine nw_aload_n C dL_law_684 rfl 0 rfl ?_
  refine nw_iload C dL_law_685 4 rfl ?_
  refine nw_iconst (v := 2) C dL_law_687 (by decide) ?_
  refine nw_iadd C dL_law_688 ?_
  refine nw_scr C hX hbl hbA h2 dL_law_689 ?_
  refine nw_aload_n C dL_law_690 rfl 0 rfl ?_
  refine nw_iload C dL_law_691 4 rfl ?_
  refine nw_iconst (v := 3) C dL_law_693 (by decide) ?_
  refine nw_iadd C dL_law_694 ?_
  refine nw_scr C hX hbl hbA h3 dL_law_695 ?_
  refine nw_aload_n C dL_law_696 rfl 3 rfl ?_
  refine nw_callSH (As := [.ref (ad 0)] ++ [.int (xs (x4 + 1).toNatClampNeg), .int (xs (x4 + 2).toNatClampNeg), .int (xs (x4 + 3).toNatClampNeg)] ++ [.ref ao]) (rest := []) C (z_where hl e1 hc hφ2) tw_1029 tw_1030 tw_122 kh_L_where.1 kh_L_where.2.1 kh_L_where.2.2 ⟨Nat.le_of_ble_eq_true rfl, Nat.le_of_ble_eq_true rfl⟩ ⟨hcl, hsl⟩ rfl dL_law_697 rfl (Nat.le_of_ble_eq_true rfl) ?_
  rintro w ws1 ⟨rfl, ⟨ta1, rfl⟩, hp3, hp4⟩
  refine nw_istore (lv' := (5, .int (if c0 = 0 then (0 : Int32) else 1)) :: [(0, .ref b), (1, .ref (ad 0)), (2, .ref (am 112)), (3, .ref ao), (4, .int x4)]) C dL_law_700 (by decide) rfl ?_
  refine nw_aload_n C dL_law_702 rfl 3 rfl ?_
  refine nw_aload_n C dL_law_703 rfl 1 rfl ?_
  refine nw_iload C dL_law_704 5 rfl ?_
  refine nw_iconst (v := 1) C dL_law_706 (by decide) ?_
  refine nw_iadd C dL_law_707 ?_
  refine nw_scr C hX hbl hbA h1 dL_law_708 ?_
  refine nw_aload_n C dL_law_709 rfl 1 rfl ?_
  refine nw_iload C dL_law_710 5 rfl ?_
  refine nw_iconst (v := 2) C dL_law_712 (by decide) ?_
  refine nw_iadd C dL_law_713 ?_
  refine nw_scr C hX hbl hbA h2 dL_law_714 ?_
  refine nw_aload_n C dL_law_715 rfl 1 rfl ?_
  refine nw_iload C dL_law_716 5 rfl ?_
  refine nw_iconst (v := 3) C dL_law_718 (by decide) ?_
  refine nw_iadd C dL_law_719 ?_
  refine nw_scr C hX hbl hbA h3 dL_law_720 ?_
  refine nz_model (As := [.int (xs (x4 + 1).toNatClampNeg), .int (xs (x4 + 2).toNatClampNeg), .int (xs (x4 + 3).toNatClampNeg)]) (rest := []) C (c_M_where e2) tw_1982 kv_X12_where ⟨Nat.le_of_ble_eq_true rfl, Nat.le_of_ble_eq_true rfl⟩ ⟨by show _ ≤ 601024; omega, by show _ ≤ 7293033; omega⟩ rfl dL_law_721 rfl (Nat.le_of_ble_eq_true rfl) ?_
  refine nw_istore (lv' := (6, .int b0) :: (5, .int (if c0 = 0 then (0 : Int32) else 1)) :: [(0, .ref b), (1, .ref (ad 0)), (2, .ref (am 112)), (3, .ref ao), (4, .int x4)]) C dL_law_724 (by decide) rfl ?_
  refine nw_aload_n C dL_law_726 rfl 4 rfl ?_
  refine nz_model (r1 := τ1.1 0) (τ1 := τ1) (As := []) (rest := []) C (c_M_thrown rfl) tw_1910 kv_X12_thrown ⟨Nat.le_of_ble_eq_true rfl, Nat.le_of_ble_eq_true rfl⟩ ⟨by show _ ≤ 601024; omega, by show _ ≤ 7293033; omega⟩ rfl dL_law_727 rfl (Nat.le_of_ble_eq_true rfl) ?_
  rw [e3]
  refine nw_iload C dL_law_730 1 rfl ?_
  have q1 : (if (if c0 = 0 then (0 : Int32) else 1) = (if c0 = 0 then (0 : Int32) else 1) then some 1 else none) = some 1 := if_pos rfl
  refine nw_icmp_eq (tgt := 737) C dL_law_732 (by decide) q1 (fun _ _ => ?_) (fun hn _ => absurd rfl hn)
  refine nw_iload C dL_law_737 1 rfl ?_
  by_cases h0 : c0 = 0
  · subst h0
    have e4 : v0 = b0 := e4 rfl
    subst e4
    have q2 : (if (0 : Int32) = 0 then some 1 else none) = some 1 := rfl
    refine nw_if_ne (tgt := 754) C dL_law_739 (by decide) q2 (fun _ _ => ?_) (fun hn _ => absurd rfl hn)
    refine nw_aload_n C dL_law_742 rfl 5 rfl ?_
    refine nw_iconst (v := 0) C dL_law_743 (by decide) ?_
    refine nw_lald C (60 + (mw g am τ1).length) oW_at dL_law_744 (by unfold vp_in; decide) ?_
    refine nw_iload C dL_law_745 0 rfl ?_
    refine nw_i2l C dL_law_747 ?_
    refine nw_lcmp C dL_law_748 ?_
    refine nw_st (st' := [.int (lg_cmp v0.toInt64 v0.toInt64)]) rfl ?_
    rw [lgc_eq]
    refine nw_if_eq (tgt := 754) C dL_law_749 (by decide) q2 (fun _ _ => ?_) (fun hn _ => absurd rfl hn)
    refine nw_goto (tgt := 2867) C dL_law_754 (by decide) ?_
    exact nw_lv (lv' := [(0, .ref b), (1, .ref (ad 0)), (2, .ref (am 112)), (3, .ref ao), (4, .int x4)]) [2, 3, 4, 5, 6] rfl (k σ1 τ1 ta1 _ hI hp3 hp4)
  · have q2 : (if (if c0 = 0 then (0 : Int32) else 1) = 0 then none else some 1) = some 1 := if_neg (by rcases hc with rfl | rfl; exact absurd rfl h0; all_goals decide)
    refine nw_if_ne (tgt := 754) C dL_law_739 (by decide) q2 (fun _ h9 => by cases h9) (fun _ _ => ?_)
    refine nw_goto (tgt := 2867) C dL_law_754 (by decide) ?_
    exact nw_lv (lv' := [(0, .ref b), (1, .ref (ad 0)), (2, .ref (am 112)), (3, .ref ao), (4, .int x4)]) [2, 3, 4, 5, 6] rfl (k σ1 τ1 ta1 _ hI hp3 hp4)
set_option maxHeartbeats 4000000 in
set_option maxRecDepth 100000 in
theorem lc_walk (C : Cx g p s m args meth c A 7 cL_law "ForestCourtsLaw") (hl : l.stackTraces = false) {Inv : CS → CS → Prop} {σ τ : CS} {b L ao : Nat} {xs : Nat → Int32} {x4 : Int32} {f : Nat → Int64} {cells slots : Nat} (hX : va_X b L xs s s.heap) (hbl : b < s.heap.size) (hbA : ¬ A b) (h1 : vp_in (x4 + 1) L) (hg : AgT Inv (f_FC_walk (xs (x4 + 1).toNatClampNeg) σ) (f_M_walk (xs (x4 + 1).toNatClampNeg) τ) (fun c0 => c0 = 0 ∨ c0 = 1) (fun c0 => (if c0 = 0 then (0 : Int32) else 1))) (hφ2 : ph σ.2.2 ≤ BB) (hcl : cells + (BB - ph σ.2.2 + 1) ≤ 601024) (hsl : slots + (2 * (BB - ph σ.2.2) + 6) ≤ 7293033)
    (k : ∀ (σ1 τ1 : CS) (ta1 : Nat → Nat) (f1 : Nat → Int64), Inv σ1 τ1 → ph σ.2.2 ≤ ph σ1.2.2 → ph σ1.2.2 ≤ BB → Nw g p l e room_1 s m args below meth c A Q 7 (cw g ad ta1 σ1 ++ (mw g am τ1 ++ [oWl g ao f1])) (cells + (ph σ1.2.2 - ph σ.2.2 + 1)) (slots + (2 * (ph σ1.2.2 - ph σ.2.2) + 6)) [(0, .ref b), (1, .ref (ad 0)), (2, .ref (am 112)), (3, .ref ao), (4, .int x4)] 2867 []) : Nw g p l e room_1 s m args below meth c A Q 7 (cw g ad ta σ ++ (mw g am τ ++ [oWl g ao f])) (cells) (slots) [(0, .ref b), (1, .ref (ad 0)), (2, .ref (am 112)), (3, .ref ao), (4, .int x4)] 757 [] := by
  obtain ⟨c0, v0, σ1, b0, τ1, e1, hc, e2, e3, e4, hI⟩ := hg
  have hc : c0 = 0 ∨ c0 = 1 := hc
  have e3 : τ1.1 0 = (if c0 = 0 then (0 : Int32) else 1) := e3
  refine nw_aload_n C dL_law_757 rfl 1 rfl ?_
  refine nw_aload_n C dL_law_758 rfl 0 rfl ?_
  refine nw_iload C dL_law_759 4 rfl ?_
  refine nw_iconst (v := 1) C dL_law_761 (by decide) ?_
  refine nw_iadd C dL_law_762 ?_
  refine nw_scr C hX hbl hbA h1 dL_law_763 ?_
  refine nw_aload_n C dL_law_764 rfl 3 rfl ?_
  refine nw_callSH (As := [.ref (ad 0)] ++ [.int (xs (x4 + 1).toNatClampNeg)] ++ [.ref ao]) (rest := []) C (z_walk hl e1 hc hφ2) tw_1037 tw_1038 tw_122 kh_L_walk.1 kh_L_walk.2.1 kh_L_walk.2.2 ⟨Nat.le_of_ble_eq_true rfl, Nat.le_of_ble_eq_true rfl⟩ ⟨hcl, hsl⟩ rfl dL_law_765 rfl (Nat.le_of_ble_eq_true rfl) ?_
  rintro w ws1 ⟨rfl, ⟨ta1, rfl⟩, hp3, hp4⟩
  refine nw_istore (lv' := (5, .int (if c0 = 0 then (0 : Int32) else 1)) :: [(0, .ref b), (1, .ref (ad 0)), (2, .ref (am 112)), (3, .ref ao), (4, .int x4)]) C dL_law_768 (by decide) rfl ?_
  refine nw_aload_n C dL_law_770 rfl 3 rfl ?_
  refine nw_aload_n C dL_law_771 rfl 1 rfl ?_
  refine nw_iload C dL_law_772 5 rfl ?_
  refine nw_iconst (v := 1) C dL_law_774 (by decide) ?_
  refine nw_iadd C dL_law_775 ?_
  refine nw_scr C hX hbl hbA h1 dL_law_776 ?_
  refine nz_model (As := [.int (xs (x4 + 1).toNatClampNeg)]) (rest := []) C (c_M_walk e2) tw_1994 kv_X12_walk ⟨Nat.le_of_ble_eq_true rfl, Nat.le_of_ble_eq_true rfl⟩ ⟨by show _ ≤ 601024; omega, by show _ ≤ 7293033; omega⟩ rfl dL_law_777 rfl (Nat.le_of_ble_eq_true rfl) ?_
  refine nw_istore (lv' := (6, .int b0) :: (5, .int (if c0 = 0 then (0 : Int32) else 1)) :: [(0, .ref b), (1, .ref (ad 0)), (2, .ref (am 112)), (3, .ref ao), (4, .int x4)]) C dL_law_780 (by decide) rfl ?_
  refine nw_aload_n C dL_law_782 rfl 4 rfl ?_
  refine nz_model (r1 := τ1.1 0) (τ1 := τ1) (As := []) (rest := []) C (c_M_thrown rfl) tw_1910 kv_X12_thrown ⟨Nat.le_of_ble_eq_true rfl, Nat.le_of_ble_eq_true rfl⟩ ⟨by show _ ≤ 601024; omega, by show _ ≤ 7293033; omega⟩ rfl dL_law_783 rfl (Nat.le_of_ble_eq_true rfl) ?_
  rw [e3]
  refine nw_iload C dL_law_786 1 rfl ?_
  have q1 : (if (if c0 = 0 then (0 : Int32) else 1) = (if c0 = 0 then (0 : Int32) else 1) then some 1 else none) = some 1 := if_pos rfl
  refine nw_icmp_eq (tgt := 793) C dL_law_788 (by decide) q1 (fun _ _ => ?_) (fun hn _ => absurd rfl hn)
  refine nw_iload C dL_law_793 1 rfl ?_
  by_cases h0 : c0 = 0
  · subst h0
    have e4 : v0 = b0 := e4 rfl
    subst e4
    have q2 : (if (0 : Int32) = 0 then some 1 else none) = some 1 := rfl
    refine nw_if_ne (tgt := 810) C dL_law_795 (by decide) q2 (fun _ _ => ?_) (fun hn _ => absurd rfl hn)
    refine nw_aload_n C dL_law_798 rfl 5 rfl ?_
    refine nw_iconst (v := 0) C dL_law_799 (by decide) ?_
    refine nw_lald C (60 + (mw g am τ1).length) oW_at dL_law_800 (by unfold vp_in; decide) ?_
    refine nw_iload C dL_law_801 0 rfl ?_
    refine nw_i2l C dL_law_803 ?_
    refine nw_lcmp C dL_law_804 ?_
    refine nw_st (st' := [.int (lg_cmp v0.toInt64 v0.toInt64)]) rfl ?_
    rw [lgc_eq]
    refine nw_if_eq (tgt := 810) C dL_law_805 (by decide) q2 (fun _ _ => ?_) (fun hn _ => absurd rfl hn)
    refine nw_goto (tgt := 2867) C dL_law_810 (by decide) ?_
    exact nw_lv (lv' := [(0, .ref b), (1, .ref (ad 0)), (2, .ref (am 112)), (3, .ref ao), (4, .int x4)]) [2, 3, 4, 5, 6] rfl (k σ1 τ1 ta1 _ hI hp3 hp4)
  · have q2 : (if (if c0 = 0 then (0 : Int32) else 1) = 0 then none else some 1) = some 1 := if_neg (by rcases hc with rfl | rfl; exact absurd rfl h0; all_goals decide)
    refine nw_if_ne (tgt := 810) C dL_law_795 (by decide) q2 (fun _ h9 => by cases h9) (fun _ _ => ?_)
    refine nw_goto (tgt := 2867) C dL_law_810 (by decide) ?_
    exact nw_lv (lv' := [(0, .ref b), (1, .ref (ad 0)), (2, .ref (am 112)), (3, .ref ao), (4, .int x4)]) [2, 3, 4, 5, 6] rfl (k σ1 τ1 ta1 _ hI hp3 hp4)
set_option maxHeartbeats 4000000 in
set_option maxRecDepth 100000 in
theorem lc_walked (C : Cx g p s m args meth c A 7 cL_law "ForestCourtsLaw") (hl : l.stackTraces = false) {Inv : CS → CS → Prop} {σ τ : CS} {b L ao : Nat} {xs : Nat → Int32} {x4 : Int32} {f : Nat → Int64} {cells slots : Nat} (hX : va_X b L xs s s.heap) (hbl : b < s.heap.size) (hbA : ¬ A b) (h1 : vp_in (x4 + 1) L) (hg : AgN Inv (f_FC_walked (xs (x4 + 1).toNatClampNeg) σ) (f_M_walked (xs (x4 + 1).toNatClampNeg) τ)) (hφ2 : ph σ.2.2 ≤ BB) (hcl : cells + (BB - ph σ.2.2 + 1) ≤ 601024) (hsl : slots + (2 * (BB - ph σ.2.2) + 6) ≤ 7293033)
    (k : ∀ (σ1 τ1 : CS) (ta1 : Nat → Nat) (f1 : Nat → Int64), Inv σ1 τ1 → ph σ.2.2 ≤ ph σ1.2.2 → ph σ1.2.2 ≤ BB → Nw g p l e room_1 s m args below meth c A Q 7 (cw g ad ta1 σ1 ++ (mw g am τ1 ++ [oWl g ao f1])) (cells + (ph σ1.2.2 - ph σ.2.2 + 1)) (slots + (2 * (ph σ1.2.2 - ph σ.2.2) + 6)) [(0, .ref b), (1, .ref (ad 0)), (2, .ref (am 112)), (3, .ref ao), (4, .int x4)] 2867 []) : Nw g p l e room_1 s m args below meth c A Q 7 (cw g ad ta σ ++ (mw g am τ ++ [oWl g ao f])) (cells) (slots) [(0, .ref b), (1, .ref (ad 0)), (2, .ref (am 112)), (3, .ref ao), (4, .int x4)] 813 [] := by
  obtain ⟨v0, σ1, τ1, e1, e2, hI⟩ := hg
  refine nw_aload_n C dL_law_813 rfl 1 rfl ?_
  refine nw_aload_n C dL_law_814 rfl 0 rfl ?_
  refine nw_iload C dL_law_815 4 rfl ?_
  refine nw_iconst (v := 1) C dL_law_817 (by decide) ?_
  refine nw_iadd C dL_law_818 ?_
  refine nw_scr C hX hbl hbA h1 dL_law_819 ?_
  refine nw_callV (q0 := 0) (As := [.int (xs (x4 + 1).toNatClampNeg)]) (rest := []) C (c_FC_walked e1 hφ2) tw_555 kv_X11_walked.1 kv_X11_walked.2.1 kv_X11_walked.2.2.1 kv_X11_walked.2.2.2.1 kv_X11_walked.2.2.2.2.1 kv_X11_walked.2.2.2.2.2 cl_FC rfl ⟨Nat.le_of_ble_eq_true rfl, Nat.le_of_ble_eq_true rfl⟩ ⟨by show _ ≤ 601024; omega, by show _ ≤ 7293033; omega⟩ rfl dL_law_820 rfl (Nat.le_of_ble_eq_true rfl) ?_
  rintro w ws1 ⟨rfl, ⟨ta1, rfl⟩, hp3, hp4⟩
  refine nw_aload_n C dL_law_823 rfl 2 rfl ?_
  refine nw_aload_n C dL_law_824 rfl 0 rfl ?_
  refine nw_iload C dL_law_825 4 rfl ?_
  refine nw_iconst (v := 1) C dL_law_827 (by decide) ?_
  refine nw_iadd C dL_law_828 ?_
  refine nw_scr C hX hbl hbA h1 dL_law_829 ?_
  refine nz_model (As := [.int (xs (x4 + 1).toNatClampNeg)]) (rest := [.int v0]) C (c_M_walked e2) tw_2009 kv_X12_walked ⟨Nat.le_of_ble_eq_true rfl, Nat.le_of_ble_eq_true rfl⟩ ⟨by show _ ≤ 601024; omega, by show _ ≤ 7293033; omega⟩ rfl dL_law_830 rfl (Nat.le_of_ble_eq_true rfl) ?_
  have q1 : (if v0 = v0 then some 1 else none) = some 1 := if_pos rfl
  refine nw_icmp_eq (tgt := 2867) C dL_law_833 (by decide) q1 (fun _ _ => ?_) (fun hn _ => absurd rfl hn)
  exact nw_widen (by omega) (by omega) (k σ1 τ1 ta1 _ hI hp3 hp4)
set_option maxHeartbeats 4000000 in
set_option maxRecDepth 100000 in
theorem lc_rivals (C : Cx g p s m args meth c A 7 cL_law "ForestCourtsLaw") (hl : l.stackTraces = false) {Inv : CS → CS → Prop} {σ τ : CS} {b L ao : Nat} {xs : Nat → Int32} {x4 : Int32} {f : Nat → Int64} {cells slots : Nat} (hX : va_X b L xs s s.heap) (hbl : b < s.heap.size) (hbA : ¬ A b)  (hg : AgN Inv (f_FC_rivals  σ) (f_M_rivals  τ)) (hφ2 : ph σ.2.2 ≤ BB) (hcl : cells + (BB - ph σ.2.2 + 1) ≤ 601024) (hsl : slots + (2 * (BB - ph σ.2.2) + 6) ≤ 7293033)
    (k : ∀ (σ1 τ1 : CS) (ta1 : Nat → Nat) (f1 : Nat → Int64), Inv σ1 τ1 → ph σ.2.2 ≤ ph σ1.2.2 → ph σ1.2.2 ≤ BB → Nw g p l e room_1 s m args below meth c A Q 7 (cw g ad ta1 σ1 ++ (mw g am τ1 ++ [oWl g ao f1])) (cells + (ph σ1.2.2 - ph σ.2.2 + 1)) (slots + (2 * (ph σ1.2.2 - ph σ.2.2) + 6)) [(0, .ref b), (1, .ref (ad 0)), (2, .ref (am 112)), (3, .ref ao), (4, .int x4)] 2867 []) : Nw g p l e room_1 s m args below meth c A Q 7 (cw g ad ta σ ++ (mw g am τ ++ [oWl g ao f])) (cells) (slots) [(0, .ref b), (1, .ref (ad 0)), (2, .ref (am 112)), (3, .ref ao), (4, .int x4)] 838 [] := by
  obtain ⟨v0, σ1, τ1, e1, e2, hI⟩ := hg
  refine nw_aload_n C dL_law_838 rfl 1 rfl ?_
  refine nw_callV (q0 := 0) (As := []) (rest := []) C (c_FC_rivals e1 hφ2) tw_563 kv_X11_rivals.1 kv_X11_rivals.2.1 kv_X11_rivals.2.2.1 kv_X11_rivals.2.2.2.1 kv_X11_rivals.2.2.2.2.1 kv_X11_rivals.2.2.2.2.2 cl_FC rfl ⟨Nat.le_of_ble_eq_true rfl, Nat.le_of_ble_eq_true rfl⟩ ⟨by show _ ≤ 601024; omega, by show _ ≤ 7293033; omega⟩ rfl dL_law_839 rfl (Nat.le_of_ble_eq_true rfl) ?_
  rintro w ws1 ⟨rfl, ⟨ta1, rfl⟩, hp3, hp4⟩
  refine nw_aload_n C dL_law_842 rfl 2 rfl ?_
  refine nz_model (As := []) (rest := [.int v0]) C (c_M_rivals e2) tw_2013 kv_X12_rivals ⟨Nat.le_of_ble_eq_true rfl, Nat.le_of_ble_eq_true rfl⟩ ⟨by show _ ≤ 601024; omega, by show _ ≤ 7293033; omega⟩ rfl dL_law_843 rfl (Nat.le_of_ble_eq_true rfl) ?_
  have q1 : (if v0 = v0 then some 1 else none) = some 1 := if_pos rfl
  refine nw_icmp_eq (tgt := 2867) C dL_law_846 (by decide) q1 (fun _ _ => ?_) (fun hn _ => absurd rfl hn)
  exact nw_widen (by omega) (by omega) (k σ1 τ1 ta1 _ hI hp3 hp4)
set_option maxHeartbeats 4000000 in
set_option maxRecDepth 100000 in
theorem lc_text (C : Cx g p s m args meth c A 7 cL_law "ForestCourtsLaw") (hl : l.stackTraces = false) {Inv : CS → CS → Prop} {σ τ : CS} {b L ao : Nat} {xs : Nat → Int32} {x4 : Int32} {f : Nat → Int64} {cells slots : Nat} (hX : va_X b L xs s s.heap) (hbl : b < s.heap.size) (hbA : ¬ A b) (h1 : vp_in (x4 + 1) L) (h2 : vp_in (x4 + 2) L) (hg : AgT Inv (f_FC_text (xs (x4 + 1).toNatClampNeg) (xs (x4 + 2).toNatClampNeg) σ) (f_M_text (xs (x4 + 1).toNatClampNeg) (xs (x4 + 2).toNatClampNeg) τ) (fun c0 => c0 = 0 ∨ c0 = 1) (fun c0 => (if c0 = 0 then (0 : Int32) else 1))) (hφ2 : ph σ.2.2 ≤ BB) (hcl : cells + (BB - ph σ.2.2 + 1) ≤ 601024) (hsl : slots + (2 * (BB - ph σ.2.2) + 6) ≤ 7293033)
    (k : ∀ (σ1 τ1 : CS) (ta1 : Nat → Nat) (f1 : Nat → Int64), Inv σ1 τ1 → ph σ.2.2 ≤ ph σ1.2.2 → ph σ1.2.2 ≤ BB → Nw g p l e room_1 s m args below meth c A Q 7 (cw g ad ta1 σ1 ++ (mw g am τ1 ++ [oWl g ao f1])) (cells + (ph σ1.2.2 - ph σ.2.2 + 1)) (slots + (2 * (ph σ1.2.2 - ph σ.2.2) + 6)) [(0, .ref b), (1, .ref (ad 0)), (2, .ref (am 112)), (3, .ref ao), (4, .int x4)] 2867 []) : Nw g p l e room_1 s m args below meth c A Q 7 (cw g ad ta σ ++ (mw g am τ ++ [oWl g ao f])) (cells) (slots) [(0, .ref b), (1, .ref (ad 0)), (2, .ref (am 112)), (3, .ref ao), (4, .int x4)] 851 [] := by
  obtain ⟨c0, v0, σ1, b0, τ1, e1, hc, e2, e3, e4, hI⟩ := hg
  have hc : c0 = 0 ∨ c0 = 1 := hc
  have e3 : τ1.1 0 = (if c0 = 0 then (0 : Int32) else 1) := e3
  refine nw_aload_n C dL_law_851 rfl 1 rfl ?_
  refine nw_aload_n C dL_law_852 rfl 0 rfl ?_
  refine nw_iload C dL_law_853 4 rfl ?_
  refine nw_iconst (v := 1) C dL_law_855 (by decide) ?_
  refine nw_iadd C dL_law_856 ?_
  refine nw_scr C hX hbl hbA h1 dL_law_857 ?_
  refine nw_aload_n C dL_law_858 rfl 0 rfl ?_
  refine nw_iload C dL_law_859 4 rfl ?_
  refine nw_iconst (v := 2) C dL_law_861 (by decide) ?_
  refine nw_iadd C dL_law_862 ?_
  refine nw_scr C hX hbl hbA h2 dL_law_863 ?_
  refine nw_aload_n C dL_law_864 rfl 3 rfl ?_
  refine nw_callSH (As := [.ref (ad 0)] ++ [.int (xs (x4 + 1).toNatClampNeg), .int (xs (x4 + 2).toNatClampNeg)] ++ [.ref ao]) (rest := []) C (z_text hl e1 hc hφ2) tw_1065 tw_1066 tw_122 kh_L_text.1 kh_L_text.2.1 kh_L_text.2.2 ⟨Nat.le_of_ble_eq_true rfl, Nat.le_of_ble_eq_true rfl⟩ ⟨hcl, hsl⟩ rfl dL_law_865 rfl (Nat.le_of_ble_eq_true rfl) ?_
  rintro w ws1 ⟨rfl, ⟨ta1, rfl⟩, hp3, hp4⟩
  refine nw_istore (lv' := (5, .int (if c0 = 0 then (0 : Int32) else 1)) :: [(0, .ref b), (1, .ref (ad 0)), (2, .ref (am 112)), (3, .ref ao), (4, .int x4)]) C dL_law_868 (by decide) rfl ?_
  refine nw_aload_n C dL_law_870 rfl 3 rfl ?_
  refine nw_aload_n C dL_law_871 rfl 1 rfl ?_
  refine nw_iload C dL_law_872 5 rfl ?_
  refine nw_iconst (v := 1) C dL_law_874 (by decide) ?_
  refine nw_iadd C dL_law_875 ?_
  refine nw_scr C hX hbl hbA h1 dL_law_876 ?_
  refine nw_aload_n C dL_law_877 rfl 1 rfl ?_
  refine nw_iload C dL_law_878 5 rfl ?_
  refine nw_iconst (v := 2) C dL_law_880 (by decide) ?_
  refine nw_iadd C dL_law_881 ?_
  refine nw_scr C hX hbl hbA h2 dL_law_882 ?_
  refine nz_model (As := [.int (xs (x4 + 1).toNatClampNeg), .int (xs (x4 + 2).toNatClampNeg)]) (rest := []) C (c_M_text e2) tw_2017 kv_X12_text ⟨Nat.le_of_ble_eq_true rfl, Nat.le_of_ble_eq_true rfl⟩ ⟨by show _ ≤ 601024; omega, by show _ ≤ 7293033; omega⟩ rfl dL_law_883 rfl (Nat.le_of_ble_eq_true rfl) ?_
  refine nw_istore (lv' := (6, .int b0) :: (5, .int (if c0 = 0 then (0 : Int32) else 1)) :: [(0, .ref b), (1, .ref (ad 0)), (2, .ref (am 112)), (3, .ref ao), (4, .int x4)]) C dL_law_886 (by decide) rfl ?_
  refine nw_aload_n C dL_law_888 rfl 4 rfl ?_
  refine nz_model (r1 := τ1.1 0) (τ1 := τ1) (As := []) (rest := []) C (c_M_thrown rfl) tw_1910 kv_X12_thrown ⟨Nat.le_of_ble_eq_true rfl, Nat.le_of_ble_eq_true rfl⟩ ⟨by show _ ≤ 601024; omega, by show _ ≤ 7293033; omega⟩ rfl dL_law_889 rfl (Nat.le_of_ble_eq_true rfl) ?_
  rw [e3]
  refine nw_iload C dL_law_892 1 rfl ?_
  have q1 : (if (if c0 = 0 then (0 : Int32) else 1) = (if c0 = 0 then (0 : Int32) else 1) then some 1 else none) = some 1 := if_pos rfl
  refine nw_icmp_eq (tgt := 899) C dL_law_894 (by decide) q1 (fun _ _ => ?_) (fun hn _ => absurd rfl hn)
  refine nw_iload C dL_law_899 1 rfl ?_
  by_cases h0 : c0 = 0
  · subst h0
    have e4 : v0 = b0 := e4 rfl
    subst e4
    have q2 : (if (0 : Int32) = 0 then some 1 else none) = some 1 := rfl
    refine nw_if_ne (tgt := 916) C dL_law_901 (by decide) q2 (fun _ _ => ?_) (fun hn _ => absurd rfl hn)
    refine nw_aload_n C dL_law_904 rfl 5 rfl ?_
    refine nw_iconst (v := 0) C dL_law_905 (by decide) ?_
    refine nw_lald C (60 + (mw g am τ1).length) oW_at dL_law_906 (by unfold vp_in; decide) ?_
    refine nw_iload C dL_law_907 0 rfl ?_
    refine nw_i2l C dL_law_909 ?_
    refine nw_lcmp C dL_law_910 ?_
    refine nw_st (st' := [.int (lg_cmp v0.toInt64 v0.toInt64)]) rfl ?_
    rw [lgc_eq]
    refine nw_if_eq (tgt := 916) C dL_law_911 (by decide) q2 (fun _ _ => ?_) (fun hn _ => absurd rfl hn)
    refine nw_goto (tgt := 2867) C dL_law_916 (by decide) ?_
    exact nw_lv (lv' := [(0, .ref b), (1, .ref (ad 0)), (2, .ref (am 112)), (3, .ref ao), (4, .int x4)]) [2, 3, 4, 5, 6] rfl (k σ1 τ1 ta1 _ hI hp3 hp4)
  · have q2 : (if (if c0 = 0 then (0 : Int32) else 1) = 0 then none else some 1) = some 1 := if_neg (by rcases hc with rfl | rfl; exact absurd rfl h0; all_goals decide)
    refine nw_if_ne (tgt := 916) C dL_law_901 (by decide) q2 (fun _ h9 => by cases h9) (fun _ _ => ?_)
    refine nw_goto (tgt := 2867) C dL_law_916 (by decide) ?_
    exact nw_lv (lv' := [(0, .ref b), (1, .ref (ad 0)), (2, .ref (am 112)), (3, .ref ao), (4, .int x4)]) [2, 3, 4, 5, 6] rfl (k σ1 τ1 ta1 _ hI hp3 hp4)
set_option maxHeartbeats 4000000 in
set_option maxRecDepth 100000 in
theorem lc_fault (C : Cx g p s m args meth c A 7 cL_law "ForestCourtsLaw") (hl : l.stackTraces = false) {Inv : CS → CS → Prop} {σ τ : CS} {b L ao : Nat} {xs : Nat → Int32} {x4 : Int32} {f : Nat → Int64} {cells slots : Nat} (hX : va_X b L xs s s.heap) (hbl : b < s.heap.size) (hbA : ¬ A b)  (hg : AgN Inv (f_FC_fault  σ) (f_M_fault  τ)) (hφ2 : ph σ.2.2 ≤ BB) (hcl : cells + (BB - ph σ.2.2 + 1) ≤ 601024) (hsl : slots + (2 * (BB - ph σ.2.2) + 6) ≤ 7293033)
    (k : ∀ (σ1 τ1 : CS) (ta1 : Nat → Nat) (f1 : Nat → Int64), Inv σ1 τ1 → ph σ.2.2 ≤ ph σ1.2.2 → ph σ1.2.2 ≤ BB → Nw g p l e room_1 s m args below meth c A Q 7 (cw g ad ta1 σ1 ++ (mw g am τ1 ++ [oWl g ao f1])) (cells + (ph σ1.2.2 - ph σ.2.2 + 1)) (slots + (2 * (ph σ1.2.2 - ph σ.2.2) + 6)) [(0, .ref b), (1, .ref (ad 0)), (2, .ref (am 112)), (3, .ref ao), (4, .int x4)] 2867 []) : Nw g p l e room_1 s m args below meth c A Q 7 (cw g ad ta σ ++ (mw g am τ ++ [oWl g ao f])) (cells) (slots) [(0, .ref b), (1, .ref (ad 0)), (2, .ref (am 112)), (3, .ref ao), (4, .int x4)] 919 [] := by
  obtain ⟨v0, σ1, τ1, e1, e2, hI⟩ := hg
  refine nw_aload_n C dL_law_919 rfl 1 rfl ?_
  refine nw_callV (q0 := 0) (As := []) (rest := []) C (c_FC_fault e1 hφ2) tw_567 kv_X11_fault.1 kv_X11_fault.2.1 kv_X11_fault.2.2.1 kv_X11_fault.2.2.2.1 kv_X11_fault.2.2.2.2.1 kv_X11_fault.2.2.2.2.2 cl_FC rfl ⟨Nat.le_of_ble_eq_true rfl, Nat.le_of_ble_eq_true rfl⟩ ⟨by show _ ≤ 601024; omega, by show _ ≤ 7293033; omega⟩ rfl dL_law_920 rfl (Nat.le_of_ble_eq_true rfl) ?_
  rintro w ws1 ⟨rfl, ⟨ta1, rfl⟩, hp3, hp4⟩
  refine nw_aload_n C dL_law_923 rfl 2 rfl ?_
  refine nz_model (As := []) (rest := [.int v0]) C (c_M_fault e2) tw_2139 kv_X12_fault ⟨Nat.le_of_ble_eq_true rfl, Nat.le_of_ble_eq_true rfl⟩ ⟨by show _ ≤ 601024; omega, by show _ ≤ 7293033; omega⟩ rfl dL_law_924 rfl (Nat.le_of_ble_eq_true rfl) ?_
  have q1 : (if v0 = v0 then some 1 else none) = some 1 := if_pos rfl
  refine nw_icmp_eq (tgt := 2867) C dL_law_927 (by decide) q1 (fun _ _ => ?_) (fun hn _ => absurd rfl hn)
  exact nw_widen (by omega) (by omega) (k σ1 τ1 ta1 _ hI hp3 hp4)
set_option maxHeartbeats 4000000 in
set_option maxRecDepth 100000 in
theorem lc_force (C : Cx g p s m args meth c A 7 cL_law "ForestCourtsLaw") (hl : l.stackTraces = false) {Inv : CS → CS → Prop} {σ τ : CS} {b L ao : Nat} {xs : Nat → Int32} {x4 : Int32} {f : Nat → Int64} {cells slots : Nat} (hX : va_X b L xs s s.heap) (hbl : b < s.heap.size) (hbA : ¬ A b) (h1 : vp_in (x4 + 1) L) (h2 : vp_in (x4 + 2) L) (hg : AgT Inv (f_FC_force (xs (x4 + 1).toNatClampNeg) (xs (x4 + 2).toNatClampNeg) σ) (f_M_force (xs (x4 + 1).toNatClampNeg) (xs (x4 + 2).toNatClampNeg) τ) (fun c0 => c0 = 0 ∨ c0 = 3 ∨ c0 = 1) (fun c0 => (if c0 = 0 then (0 : Int32) else if c0 = 3 then 1 else 2))) (hφ2 : ph σ.2.2 ≤ BB) (hcl : cells + (BB - ph σ.2.2 + 1) ≤ 601024) (hsl : slots + (2 * (BB - ph σ.2.2) + 6) ≤ 7293033)
    (k : ∀ (σ1 τ1 : CS) (ta1 : Nat → Nat) (f1 : Nat → Int64), Inv σ1 τ1 → ph σ.2.2 ≤ ph σ1.2.2 → ph σ1.2.2 ≤ BB → Nw g p l e room_1 s m args below meth c A Q 7 (cw g ad ta1 σ1 ++ (mw g am τ1 ++ [oWl g ao f1])) (cells + (ph σ1.2.2 - ph σ.2.2 + 1)) (slots + (2 * (ph σ1.2.2 - ph σ.2.2) + 6)) [(0, .ref b), (1, .ref (ad 0)), (2, .ref (am 112)), (3, .ref ao), (4, .int x4)] 2867 []) : Nw g p l e room_1 s m args below meth c A Q 7 (cw g ad ta σ ++ (mw g am τ ++ [oWl g ao f])) (cells) (slots) [(0, .ref b), (1, .ref (ad 0)), (2, .ref (am 112)), (3, .ref ao), (4, .int x4)] 932 [] := by
  obtain ⟨c0, v0, σ1, b0, τ1, e1, hc, e2, e3, e4, hI⟩ := hg
  have hc : c0 = 0 ∨ c0 = 3 ∨ c0 = 1 := hc
  have e3 : τ1.1 0 = (if c0 = 0 then (0 : Int32) else if c0 = 3 then 1 else 2) := e3
  refine nw_aload_n C dL_law_932 rfl 1 rfl ?_
  refine nw_aload_n C dL_law_933 rfl 0 rfl ?_
  refine nw_iload C dL_law_934 4 rfl ?_
  refine nw_iconst (v := 1) C dL_law_936 (by decide) ?_
  refine nw_iadd C dL_law_937 ?_
  refine nw_scr C hX hbl hbA h1 dL_law_938 ?_
  refine nw_aload_n C dL_law_939 rfl 0 rfl ?_
  refine nw_iload C dL_law_940 4 rfl ?_
  refine nw_iconst (v := 2) C dL_law_942 (by decide) ?_
  refine nw_iadd C dL_law_943 ?_
  refine nw_scr C hX hbl hbA h2 dL_law_944 ?_
  refine nw_aload_n C dL_law_945 rfl 3 rfl ?_
  refine nw_callSH (As := [.ref (ad 0)] ++ [.int (xs (x4 + 1).toNatClampNeg), .int (xs (x4 + 2).toNatClampNeg)] ++ [.ref ao]) (rest := []) C (z_force hl e1 hc hφ2) tw_1245 tw_1246 tw_122 kh_L_force.1 kh_L_force.2.1 kh_L_force.2.2 ⟨Nat.le_of_ble_eq_true rfl, Nat.le_of_ble_eq_true rfl⟩ ⟨hcl, hsl⟩ rfl dL_law_946 rfl (Nat.le_of_ble_eq_true rfl) ?_
  rintro w ws1 ⟨rfl, ⟨ta1, rfl⟩, hp3, hp4⟩
  refine nw_istore (lv' := (5, .int (if c0 = 0 then (0 : Int32) else if c0 = 3 then 1 else 2)) :: [(0, .ref b), (1, .ref (ad 0)), (2, .ref (am 112)), (3, .ref ao), (4, .int x4)]) C dL_law_949 (by decide) rfl ?_
  refine nw_aload_n C dL_law_951 rfl 3 rfl ?_
  refine nw_aload_n C dL_law_952 rfl 1 rfl ?_
  refine nw_iload C dL_law_953 5 rfl ?_
  refine nw_iconst (v := 1) C dL_law_955 (by decide) ?_
  refine nw_iadd C dL_law_956 ?_
  refine nw_scr C hX hbl hbA h1 dL_law_957 ?_
  refine nw_aload_n C dL_law_958 rfl 1 rfl ?_
  refine nw_iload C dL_law_959 5 rfl ?_
  refine nw_iconst (v := 2) C dL_law_961 (by decide) ?_
  refine nw_iadd C dL_law_962 ?_
  refine nw_scr C hX hbl hbA h2 dL_law_963 ?_
  refine nz_model (As := [.int (xs (x4 + 1).toNatClampNeg), .int (xs (x4 + 2).toNatClampNeg)]) (rest := []) C (c_M_force e2) tw_2143 kv_X12_force ⟨Nat.le_of_ble_eq_true rfl, Nat.le_of_ble_eq_true rfl⟩ ⟨by show _ ≤ 601024; omega, by show _ ≤ 7293033; omega⟩ rfl dL_law_964 rfl (Nat.le_of_ble_eq_true rfl) ?_
  refine nw_istore (lv' := (6, .int b0) :: (5, .int (if c0 = 0 then (0 : Int32) else if c0 = 3 then 1 else 2)) :: [(0, .ref b), (1, .ref (ad 0)), (2, .ref (am 112)), (3, .ref ao), (4, .int x4)]) C dL_law_967 (by decide) rfl ?_
  refine nw_aload_n C dL_law_969 rfl 4 rfl ?_
  refine nz_model (r1 := τ1.1 0) (τ1 := τ1) (As := []) (rest := []) C (c_M_thrown rfl) tw_1910 kv_X12_thrown ⟨Nat.le_of_ble_eq_true rfl, Nat.le_of_ble_eq_true rfl⟩ ⟨by show _ ≤ 601024; omega, by show _ ≤ 7293033; omega⟩ rfl dL_law_970 rfl (Nat.le_of_ble_eq_true rfl) ?_
  rw [e3]
  refine nw_iload C dL_law_973 1 rfl ?_
  have q1 : (if (if c0 = 0 then (0 : Int32) else if c0 = 3 then 1 else 2) = (if c0 = 0 then (0 : Int32) else if c0 = 3 then 1 else 2) then some 1 else none) = some 1 := if_pos rfl
  refine nw_icmp_eq (tgt := 980) C dL_law_975 (by decide) q1 (fun _ _ => ?_) (fun hn _ => absurd rfl hn)
  refine nw_iload C dL_law_980 1 rfl ?_
  by_cases h0 : c0 = 0
  · subst h0
    have e4 : v0 = b0 := e4 rfl
    subst e4
    have q2 : (if (0 : Int32) = 0 then some 1 else none) = some 1 := rfl
    refine nw_if_ne (tgt := 1004) C dL_law_982 (by decide) q2 (fun _ _ => ?_) (fun hn _ => absurd rfl hn)
    refine nw_aload_n C dL_law_985 rfl 5 rfl ?_
    refine nw_iconst (v := 0) C dL_law_986 (by decide) ?_
    refine nw_lald C (60 + (mw g am τ1).length) oW_at dL_law_987 (by unfold vp_in; decide) ?_
    refine nw_iload C dL_law_988 0 rfl ?_
    have q3 : (if v0 = 0 then some 1 else some 2) = some (if v0 = 0 then 1 else 2) := by split <;> rfl
    refine nw_if_eq (tgt := 997) C dL_law_990 (by decide) q3 (fun hv _ => ?_) (fun hv _ => ?_)
    · refine nw_lconst (v := 0) C dL_law_997 (by decide) ?_
      refine nw_lcmp C dL_law_998 ?_
      refine nw_st (st' := [.int (lg_cmp (if v0 = 0 then 0 else 1) 0)]) rfl ?_
      rw [if_pos hv, lgc_eq]
      refine nw_if_eq (tgt := 1004) C dL_law_999 (by decide) q2 (fun _ _ => ?_) (fun hn _ => absurd rfl hn)
      refine nw_goto (tgt := 2867) C dL_law_1004 (by decide) ?_
      exact nw_lv (lv' := [(0, .ref b), (1, .ref (ad 0)), (2, .ref (am 112)), (3, .ref ao), (4, .int x4)]) [2, 3, 4, 5, 6] rfl (k σ1 τ1 ta1 _ hI hp3 hp4)
    · refine nw_lconst (v := 1) C dL_law_993 (by decide) ?_
      refine nw_goto (tgt := 998) C dL_law_994 (by decide) ?_
      refine nw_lcmp C dL_law_998 ?_
      refine nw_st (st' := [.int (lg_cmp (if v0 = 0 then 0 else 1) 1)]) rfl ?_
      rw [if_neg hv, lgc_eq]
      refine nw_if_eq (tgt := 1004) C dL_law_999 (by decide) q2 (fun _ _ => ?_) (fun hn _ => absurd rfl hn)
      refine nw_goto (tgt := 2867) C dL_law_1004 (by decide) ?_
      exact nw_lv (lv' := [(0, .ref b), (1, .ref (ad 0)), (2, .ref (am 112)), (3, .ref ao), (4, .int x4)]) [2, 3, 4, 5, 6] rfl (k σ1 τ1 ta1 _ hI hp3 hp4)
  · have q2 : (if (if c0 = 0 then (0 : Int32) else if c0 = 3 then 1 else 2) = 0 then none else some 1) = some 1 := if_neg (by rcases hc with rfl | rfl | rfl; exact absurd rfl h0; all_goals decide)
    refine nw_if_ne (tgt := 1004) C dL_law_982 (by decide) q2 (fun _ h9 => by cases h9) (fun _ _ => ?_)
    refine nw_goto (tgt := 2867) C dL_law_1004 (by decide) ?_
    exact nw_lv (lv' := [(0, .ref b), (1, .ref (ad 0)), (2, .ref (am 112)), (3, .ref ao), (4, .int x4)]) [2, 3, 4, 5, 6] rfl (k σ1 τ1 ta1 _ hI hp3 hp4)
set_option maxHeartbeats 4000000 in
set_option maxRecDepth 100000 in
theorem lc_rule (C : Cx g p s m args meth c A 7 cL_law "ForestCourtsLaw") (hl : l.stackTraces = false) {Inv : CS → CS → Prop} {σ τ : CS} {b L ao : Nat} {xs : Nat → Int32} {x4 : Int32} {f : Nat → Int64} {cells slots : Nat} (hX : va_X b L xs s s.heap) (hbl : b < s.heap.size) (hbA : ¬ A b) (h1 : vp_in (x4 + 1) L) (h2 : vp_in (x4 + 2) L) (hg : AgT Inv (f_FC_rule (xs (x4 + 1).toNatClampNeg) (xs (x4 + 2).toNatClampNeg) σ) (f_M_rule (xs (x4 + 1).toNatClampNeg) (xs (x4 + 2).toNatClampNeg) τ) (fun c0 => c0 = 0 ∨ c0 = 1) (fun c0 => (if c0 = 0 then (0 : Int32) else 1))) (hφ2 : ph σ.2.2 ≤ BB) (hcl : cells + (BB - ph σ.2.2 + 1) ≤ 601024) (hsl : slots + (2 * (BB - ph σ.2.2) + 6) ≤ 7293033)
    (k : ∀ (σ1 τ1 : CS) (ta1 : Nat → Nat) (f1 : Nat → Int64), Inv σ1 τ1 → ph σ.2.2 ≤ ph σ1.2.2 → ph σ1.2.2 ≤ BB → Nw g p l e room_1 s m args below meth c A Q 7 (cw g ad ta1 σ1 ++ (mw g am τ1 ++ [oWl g ao f1])) (cells + (ph σ1.2.2 - ph σ.2.2 + 1)) (slots + (2 * (ph σ1.2.2 - ph σ.2.2) + 6)) [(0, .ref b), (1, .ref (ad 0)), (2, .ref (am 112)), (3, .ref ao), (4, .int x4)] 2867 []) : Nw g p l e room_1 s m args below meth c A Q 7 (cw g ad ta σ ++ (mw g am τ ++ [oWl g ao f])) (cells) (slots) [(0, .ref b), (1, .ref (ad 0)), (2, .ref (am 112)), (3, .ref ao), (4, .int x4)] 1007 [] := by
  obtain ⟨c0, v0, σ1, b0, τ1, e1, hc, e2, e3, e4, hI⟩ := hg
  have hc : c0 = 0 ∨ c0 = 1 := hc
  have e3 : τ1.1 0 = (if c0 = 0 then (0 : Int32) else 1) := e3
  refine nw_aload_n C dL_law_1007 rfl 1 rfl ?_
  refine nw_aload_n C dL_law_1008 rfl 0 rfl ?_
  refine nw_iload C dL_law_1009 4 rfl ?_
  refine nw_iconst (v := 1) C dL_law_1011 (by decide) ?_
  refine nw_iadd C dL_law_1012 ?_
  refine nw_scr C hX hbl hbA h1 dL_law_1013 ?_
  refine nw_aload_n C dL_law_1014 rfl 0 rfl ?_
  refine nw_iload C dL_law_1015 4 rfl ?_
  refine nw_iconst (v := 2) C dL_law_1017 (by decide) ?_
  refine nw_iadd C dL_law_1018 ?_
  refine nw_scr C hX hbl hbA h2 dL_law_1019 ?_
  refine nw_aload_n C dL_law_1020 rfl 3 rfl ?_
  refine nw_callSH (As := [.ref (ad 0)] ++ [.int (xs (x4 + 1).toNatClampNeg), .int (xs (x4 + 2).toNatClampNeg)] ++ [.ref ao]) (rest := []) C (z_rule hl e1 hc hφ2) tw_1253 tw_1254 tw_122 kh_L_rule.1 kh_L_rule.2.1 kh_L_rule.2.2 ⟨Nat.le_of_ble_eq_true rfl, Nat.le_of_ble_eq_true rfl⟩ ⟨hcl, hsl⟩ rfl dL_law_1021 rfl (Nat.le_of_ble_eq_true rfl) ?_
  rintro w ws1 ⟨rfl, ⟨ta1, rfl⟩, hp3, hp4⟩
  refine nw_istore (lv' := (5, .int (if c0 = 0 then (0 : Int32) else 1)) :: [(0, .ref b), (1, .ref (ad 0)), (2, .ref (am 112)), (3, .ref ao), (4, .int x4)]) C dL_law_1024 (by decide) rfl ?_
  refine nw_aload_n C dL_law_1026 rfl 3 rfl ?_
  refine nw_aload_n C dL_law_1027 rfl 1 rfl ?_
  refine nw_iload C dL_law_1028 5 rfl ?_
  refine nw_iconst (v := 1) C dL_law_1030 (by decide) ?_
  refine nw_iadd C dL_law_1031 ?_
  refine nw_scr C hX hbl hbA h1 dL_law_1032 ?_
  refine nw_aload_n C dL_law_1033 rfl 1 rfl ?_
  refine nw_iload C dL_law_1034 5 rfl ?_
  refine nw_iconst (v := 2) C dL_law_1036 (by decide) ?_
  refine nw_iadd C dL_law_1037 ?_
  refine nw_scr C hX hbl hbA h2 dL_law_1038 ?_
  refine nz_model (As := [.int (xs (x4 + 1).toNatClampNeg), .int (xs (x4 + 2).toNatClampNeg)]) (rest := []) C (c_M_rule e2) tw_2155 kv_X12_rule ⟨Nat.le_of_ble_eq_true rfl, Nat.le_of_ble_eq_true rfl⟩ ⟨by show _ ≤ 601024; omega, by show _ ≤ 7293033; omega⟩ rfl dL_law_1039 rfl (Nat.le_of_ble_eq_true rfl) ?_
  refine nw_istore (lv' := (6, .int b0) :: (5, .int (if c0 = 0 then (0 : Int32) else 1)) :: [(0, .ref b), (1, .ref (ad 0)), (2, .ref (am 112)), (3, .ref ao), (4, .int x4)]) C dL_law_1042 (by decide) rfl ?_
  refine nw_aload_n C dL_law_1044 rfl 4 rfl ?_
  refine nz_model (r1 := τ1.1 0) (τ1 := τ1) (As := []) (rest := []) C (c_M_thrown rfl) tw_1910 kv_X12_thrown ⟨Nat.le_of_ble_eq_true rfl, Nat.le_of_ble_eq_true rfl⟩ ⟨by show _ ≤ 601024; omega, by show _ ≤ 7293033; omega⟩ rfl dL_law_1045 rfl (Nat.le_of_ble_eq_true rfl) ?_
  rw [e3]
  refine nw_iload C dL_law_1048 1 rfl ?_
  have q1 : (if (if c0 = 0 then (0 : Int32) else 1) = (if c0 = 0 then (0 : Int32) else 1) then some 1 else none) = some 1 := if_pos rfl
  refine nw_icmp_eq (tgt := 1055) C dL_law_1050 (by decide) q1 (fun _ _ => ?_) (fun hn _ => absurd rfl hn)
  refine nw_iload C dL_law_1055 1 rfl ?_
  by_cases h0 : c0 = 0
  · subst h0
    have e4 : v0 = b0 := e4 rfl
    subst e4
    have q2 : (if (0 : Int32) = 0 then some 1 else none) = some 1 := rfl
    refine nw_if_ne (tgt := 1072) C dL_law_1057 (by decide) q2 (fun _ _ => ?_) (fun hn _ => absurd rfl hn)
    refine nw_aload_n C dL_law_1060 rfl 5 rfl ?_
    refine nw_iconst (v := 0) C dL_law_1061 (by decide) ?_
    refine nw_lald C (60 + (mw g am τ1).length) oW_at dL_law_1062 (by unfold vp_in; decide) ?_
    refine nw_iload C dL_law_1063 0 rfl ?_
    refine nw_i2l C dL_law_1065 ?_
    refine nw_lcmp C dL_law_1066 ?_
    refine nw_st (st' := [.int (lg_cmp v0.toInt64 v0.toInt64)]) rfl ?_
    rw [lgc_eq]
    refine nw_if_eq (tgt := 1072) C dL_law_1067 (by decide) q2 (fun _ _ => ?_) (fun hn _ => absurd rfl hn)
    refine nw_goto (tgt := 2867) C dL_law_1072 (by decide) ?_
    exact nw_lv (lv' := [(0, .ref b), (1, .ref (ad 0)), (2, .ref (am 112)), (3, .ref ao), (4, .int x4)]) [2, 3, 4, 5, 6] rfl (k σ1 τ1 ta1 _ hI hp3 hp4)
  · have q2 : (if (if c0 = 0 then (0 : Int32) else 1) = 0 then none else some 1) = some 1 := if_neg (by rcases hc with rfl | rfl; exact absurd rfl h0; all_goals decide)
    refine nw_if_ne (tgt := 1072) C dL_law_1057 (by decide) q2 (fun _ h9 => by cases h9) (fun _ _ => ?_)
    refine nw_goto (tgt := 2867) C dL_law_1072 (by decide) ?_
    exact nw_lv (lv' := [(0, .ref b), (1, .ref (ad 0)), (2, .ref (am 112)), (3, .ref ao), (4, .int x4)]) [2, 3, 4, 5, 6] rfl (k σ1 τ1 ta1 _ hI hp3 hp4)
set_option maxHeartbeats 4000000 in
set_option maxRecDepth 100000 in
theorem lc_person (C : Cx g p s m args meth c A 7 cL_law "ForestCourtsLaw") (hl : l.stackTraces = false) {Inv : CS → CS → Prop} {σ τ : CS} {b L ao : Nat} {xs : Nat → Int32} {x4 : Int32} {f : Nat → Int64} {cells slots : Nat} (hX : va_X b L xs s s.heap) (hbl : b < s.heap.size) (hbA : ¬ A b) (h1 : vp_in (x4 + 1) L) (h2 : vp_in (x4 + 2) L) (hg : AgT Inv (f_FC_person (xs (x4 + 1).toNatClampNeg) (xs (x4 + 2).toNatClampNeg) σ) (f_M_person (xs (x4 + 1).toNatClampNeg) (xs (x4 + 2).toNatClampNeg) τ) (fun c0 => c0 = 0 ∨ c0 = 1 ∨ c0 = 2) (fun c0 => (if c0 = 0 then (0 : Int32) else if c0 = 1 then 1 else 2))) (hφ2 : ph σ.2.2 ≤ BB) (hcl : cells + (BB - ph σ.2.2 + 1) ≤ 601024) (hsl : slots + (2 * (BB - ph σ.2.2) + 6) ≤ 7293033)
    (k : ∀ (σ1 τ1 : CS) (ta1 : Nat → Nat) (f1 : Nat → Int64), Inv σ1 τ1 → ph σ.2.2 ≤ ph σ1.2.2 → ph σ1.2.2 ≤ BB → Nw g p l e room_1 s m args below meth c A Q 7 (cw g ad ta1 σ1 ++ (mw g am τ1 ++ [oWl g ao f1])) (cells + (ph σ1.2.2 - ph σ.2.2 + 1)) (slots + (2 * (ph σ1.2.2 - ph σ.2.2) + 6)) [(0, .ref b), (1, .ref (ad 0)), (2, .ref (am 112)), (3, .ref ao), (4, .int x4)] 2867 []) : Nw g p l e room_1 s m args below meth c A Q 7 (cw g ad ta σ ++ (mw g am τ ++ [oWl g ao f])) (cells) (slots) [(0, .ref b), (1, .ref (ad 0)), (2, .ref (am 112)), (3, .ref ao), (4, .int x4)] 1075 [] := by
  obtain ⟨c0, v0, σ1, b0, τ1, e1, hc, e2, e3, e4, hI⟩ := hg
  have hc : c0 = 0 ∨ c0 = 1 ∨ c0 = 2 := hc
  have e3 : τ1.1 0 = (if c0 = 0 then (0 : Int32) else if c0 = 1 then 1 else 2) := e3
  refine nw_aload_n C dL_law_1075 rfl 1 rfl ?_
  refine nw_aload_n C dL_law_1076 rfl 0 rfl ?_
  refine nw_iload C dL_law_1077 4 rfl ?_
  refine nw_iconst (v := 1) C dL_law_1079 (by decide) ?_
  refine nw_iadd C dL_law_1080 ?_
  refine nw_scr C hX hbl hbA h1 dL_law_1081 ?_
  refine nw_aload_n C dL_law_1082 rfl 0 rfl ?_
  refine nw_iload C dL_law_1083 4 rfl ?_
  refine nw_iconst (v := 2) C dL_law_1085 (by decide) ?_
  refine nw_iadd C dL_law_1086 ?_
  refine nw_scr C hX hbl hbA h2 dL_law_1087 ?_
  refine nw_aload_n C dL_law_1088 rfl 3 rfl ?_
  refine nw_callSH (As := [.ref (ad 0)] ++ [.int (xs (x4 + 1).toNatClampNeg), .int (xs (x4 + 2).toNatClampNeg)] ++ [.ref ao]) (rest := []) C (z_person hl e1 hc hφ2) tw_1261 tw_1262 tw_122 kh_L_person.1 kh_L_person.2.1 kh_L_person.2.2 ⟨Nat.le_of_ble_eq_true rfl, Nat.le_of_ble_eq_true rfl⟩ ⟨hcl, hsl⟩ rfl dL_law_1089 rfl (Nat.le_of_ble_eq_true rfl) ?_
  rintro w ws1 ⟨rfl, ⟨ta1, rfl⟩, hp3, hp4⟩
  refine nw_istore (lv' := (5, .int (if c0 = 0 then (0 : Int32) else if c0 = 1 then 1 else 2)) :: [(0, .ref b), (1, .ref (ad 0)), (2, .ref (am 112)), (3, .ref ao), (4, .int x4)]) C dL_law_1092 (by decide) rfl ?_
  refine nw_aload_n C dL_law_1094 rfl 3 rfl ?_
  refine nw_aload_n C dL_law_1095 rfl 1 rfl ?_
  refine nw_iload C dL_law_1096 5 rfl ?_
  refine nw_iconst (v := 1) C dL_law_1098 (by decide) ?_
  refine nw_iadd C dL_law_1099 ?_
  refine nw_scr C hX hbl hbA h1 dL_law_1100 ?_
  refine nw_aload_n C dL_law_1101 rfl 1 rfl ?_
  refine nw_iload C dL_law_1102 5 rfl ?_
  refine nw_iconst (v := 2) C dL_law_1104 (by decide) ?_
  refine nw_iadd C dL_law_1105 ?_
  refine nw_scr C hX hbl hbA h2 dL_law_1106 ?_
  refine nz_model (As := [.int (xs (x4 + 1).toNatClampNeg), .int (xs (x4 + 2).toNatClampNeg)]) (rest := []) C (c_M_person e2) tw_2163 kv_X12_person ⟨Nat.le_of_ble_eq_true rfl, Nat.le_of_ble_eq_true rfl⟩ ⟨by show _ ≤ 601024; omega, by show _ ≤ 7293033; omega⟩ rfl dL_law_1107 rfl (Nat.le_of_ble_eq_true rfl) ?_
  refine nw_istore (lv' := (6, .int b0) :: (5, .int (if c0 = 0 then (0 : Int32) else if c0 = 1 then 1 else 2)) :: [(0, .ref b), (1, .ref (ad 0)), (2, .ref (am 112)), (3, .ref ao), (4, .int x4)]) C dL_law_1110 (by decide) rfl ?_
  refine nw_aload_n C dL_law_1112 rfl 4 rfl ?_
  refine nz_model (r1 := τ1.1 0) (τ1 := τ1) (As := []) (rest := []) C (c_M_thrown rfl) tw_1910 kv_X12_thrown ⟨Nat.le_of_ble_eq_true rfl, Nat.le_of_ble_eq_true rfl⟩ ⟨by show _ ≤ 601024; omega, by show _ ≤ 7293033; omega⟩ rfl dL_law_1113 rfl (Nat.le_of_ble_eq_true rfl) ?_
  rw [e3]
  refine nw_iload C dL_law_1116 1 rfl ?_
  have q1 : (if (if c0 = 0 then (0 : Int32) else if c0 = 1 then 1 else 2) = (if c0 = 0 then (0 : Int32) else if c0 = 1 then 1 else 2) then some 1 else none) = some 1 := if_pos rfl
  refine nw_icmp_eq (tgt := 1123) C dL_law_1118 (by decide) q1 (fun _ _ => ?_) (fun hn _ => absurd rfl hn)
  refine nw_iload C dL_law_1123 1 rfl ?_
  by_cases h0 : c0 = 0
  · subst h0
    have e4 : v0 = b0 := e4 rfl
    subst e4
    have q2 : (if (0 : Int32) = 0 then some 1 else none) = some 1 := rfl
    refine nw_if_ne (tgt := 1140) C dL_law_1125 (by decide) q2 (fun _ _ => ?_) (fun hn _ => absurd rfl hn)
    refine nw_aload_n C dL_law_1128 rfl 5 rfl ?_
    refine nw_iconst (v := 0) C dL_law_1129 (by decide) ?_
    refine nw_lald C (60 + (mw g am τ1).length) oW_at dL_law_1130 (by unfold vp_in; decide) ?_
    refine nw_iload C dL_law_1131 0 rfl ?_
    refine nw_i2l C dL_law_1133 ?_
    refine nw_lcmp C dL_law_1134 ?_
    refine nw_st (st' := [.int (lg_cmp v0.toInt64 v0.toInt64)]) rfl ?_
    rw [lgc_eq]
    refine nw_if_eq (tgt := 1140) C dL_law_1135 (by decide) q2 (fun _ _ => ?_) (fun hn _ => absurd rfl hn)
    refine nw_goto (tgt := 2867) C dL_law_1140 (by decide) ?_
    exact nw_lv (lv' := [(0, .ref b), (1, .ref (ad 0)), (2, .ref (am 112)), (3, .ref ao), (4, .int x4)]) [2, 3, 4, 5, 6] rfl (k σ1 τ1 ta1 _ hI hp3 hp4)
  · have q2 : (if (if c0 = 0 then (0 : Int32) else if c0 = 1 then 1 else 2) = 0 then none else some 1) = some 1 := if_neg (by rcases hc with rfl | rfl | rfl; exact absurd rfl h0; all_goals decide)
    refine nw_if_ne (tgt := 1140) C dL_law_1125 (by decide) q2 (fun _ h9 => by cases h9) (fun _ _ => ?_)
    refine nw_goto (tgt := 2867) C dL_law_1140 (by decide) ?_
    exact nw_lv (lv' := [(0, .ref b), (1, .ref (ad 0)), (2, .ref (am 112)), (3, .ref ao), (4, .int x4)]) [2, 3, 4, 5, 6] rfl (k σ1 τ1 ta1 _ hI hp3 hp4)
set_option maxHeartbeats 4000000 in
set_option maxRecDepth 100000 in
theorem lc_heir (C : Cx g p s m args meth c A 7 cL_law "ForestCourtsLaw") (hl : l.stackTraces = false) {Inv : CS → CS → Prop} {σ τ : CS} {b L ao : Nat} {xs : Nat → Int32} {x4 : Int32} {f : Nat → Int64} {cells slots : Nat} (hX : va_X b L xs s s.heap) (hbl : b < s.heap.size) (hbA : ¬ A b) (h1 : vp_in (x4 + 1) L) (h2 : vp_in (x4 + 2) L) (hg : AgT Inv (f_FC_heir (xs (x4 + 1).toNatClampNeg) (xs (x4 + 2).toNatClampNeg) σ) (f_M_heir (xs (x4 + 1).toNatClampNeg) (xs (x4 + 2).toNatClampNeg) τ) (fun c0 => c0 = 0 ∨ c0 = 3 ∨ c0 = 1) (fun c0 => (if c0 = 0 then (0 : Int32) else if c0 = 3 then 1 else 2))) (hφ2 : ph σ.2.2 ≤ BB) (hcl : cells + (BB - ph σ.2.2 + 1) ≤ 601024) (hsl : slots + (2 * (BB - ph σ.2.2) + 6) ≤ 7293033)
    (k : ∀ (σ1 τ1 : CS) (ta1 : Nat → Nat) (f1 : Nat → Int64), Inv σ1 τ1 → ph σ.2.2 ≤ ph σ1.2.2 → ph σ1.2.2 ≤ BB → Nw g p l e room_1 s m args below meth c A Q 7 (cw g ad ta1 σ1 ++ (mw g am τ1 ++ [oWl g ao f1])) (cells + (ph σ1.2.2 - ph σ.2.2 + 1)) (slots + (2 * (ph σ1.2.2 - ph σ.2.2) + 6)) [(0, .ref b), (1, .ref (ad 0)), (2, .ref (am 112)), (3, .ref ao), (4, .int x4)] 2867 []) : Nw g p l e room_1 s m args below meth c A Q 7 (cw g ad ta σ ++ (mw g am τ ++ [oWl g ao f])) (cells) (slots) [(0, .ref b), (1, .ref (ad 0)), (2, .ref (am 112)), (3, .ref ao), (4, .int x4)] 1143 [] := by
  obtain ⟨c0, v0, σ1, b0, τ1, e1, hc, e2, e3, e4, hI⟩ := hg
  have hc : c0 = 0 ∨ c0 = 3 ∨ c0 = 1 := hc
  have e3 : τ1.1 0 = (if c0 = 0 then (0 : Int32) else if c0 = 3 then 1 else 2) := e3
  refine nw_aload_n C dL_law_1143 rfl 1 rfl ?_
  refine nw_aload_n C dL_law_1144 rfl 0 rfl ?_
  refine nw_iload C dL_law_1145 4 rfl ?_
  refine nw_iconst (v := 1) C dL_law_1147 (by decide) ?_
  refine nw_iadd C dL_law_1148 ?_
  refine nw_scr C hX hbl hbA h1 dL_law_1149 ?_
  refine nw_aload_n C dL_law_1150 rfl 0 rfl ?_
  refine nw_iload C dL_law_1151 4 rfl ?_
  refine nw_iconst (v := 2) C dL_law_1153 (by decide) ?_
  refine nw_iadd C dL_law_1154 ?_
  refine nw_scr C hX hbl hbA h2 dL_law_1155 ?_
  refine nw_aload_n C dL_law_1156 rfl 3 rfl ?_
  refine nw_callSH (As := [.ref (ad 0)] ++ [.int (xs (x4 + 1).toNatClampNeg), .int (xs (x4 + 2).toNatClampNeg)] ++ [.ref ao]) (rest := []) C (z_heir hl e1 hc hφ2) tw_1274 tw_1275 tw_122 kh_L_heir.1 kh_L_heir.2.1 kh_L_heir.2.2 ⟨Nat.le_of_ble_eq_true rfl, Nat.le_of_ble_eq_true rfl⟩ ⟨hcl, hsl⟩ rfl dL_law_1157 rfl (Nat.le_of_ble_eq_true rfl) ?_
  rintro w ws1 ⟨rfl, ⟨ta1, rfl⟩, hp3, hp4⟩
  refine nw_istore (lv' := (5, .int (if c0 = 0 then (0 : Int32) else if c0 = 3 then 1 else 2)) :: [(0, .ref b), (1, .ref (ad 0)), (2, .ref (am 112)), (3, .ref ao), (4, .int x4)]) C dL_law_1160 (by decide) rfl ?_
  refine nw_aload_n C dL_law_1162 rfl 3 rfl ?_
  refine nw_aload_n C dL_law_1163 rfl 1 rfl ?_
  refine nw_iload C dL_law_1164 5 rfl ?_
  refine nw_iconst (v := 1) C dL_law_1166 (by decide) ?_
  refine nw_iadd C dL_law_1167 ?_
  refine nw_scr C hX hbl hbA h1 dL_law_1168 ?_
  refine nw_aload_n C dL_law_1169 rfl 1 rfl ?_
  refine nw_iload C dL_law_1170 5 rfl ?_
  refine nw_iconst (v := 2) C dL_law_1172 (by decide) ?_
  refine nw_iadd C dL_law_1173 ?_
  refine nw_scr C hX hbl hbA h2 dL_law_1174 ?_
  refine nz_model (As := [.int (xs (x4 + 1).toNatClampNeg), .int (xs (x4 + 2).toNatClampNeg)]) (rest := []) C (c_M_heir e2) tw_2168 kv_X12_heir ⟨Nat.le_of_ble_eq_true rfl, Nat.le_of_ble_eq_true rfl⟩ ⟨by show _ ≤ 601024; omega, by show _ ≤ 7293033; omega⟩ rfl dL_law_1175 rfl (Nat.le_of_ble_eq_true rfl) ?_
  refine nw_istore (lv' := (6, .int b0) :: (5, .int (if c0 = 0 then (0 : Int32) else if c0 = 3 then 1 else 2)) :: [(0, .ref b), (1, .ref (ad 0)), (2, .ref (am 112)), (3, .ref ao), (4, .int x4)]) C dL_law_1178 (by decide) rfl ?_
  refine nw_aload_n C dL_law_1180 rfl 4 rfl ?_
  refine nz_model (r1 := τ1.1 0) (τ1 := τ1) (As := []) (rest := []) C (c_M_thrown rfl) tw_1910 kv_X12_thrown ⟨Nat.le_of_ble_eq_true rfl, Nat.le_of_ble_eq_true rfl⟩ ⟨by show _ ≤ 601024; omega, by show _ ≤ 7293033; omega⟩ rfl dL_law_1181 rfl (Nat.le_of_ble_eq_true rfl) ?_
  rw [e3]
  refine nw_iload C dL_law_1184 1 rfl ?_
  have q1 : (if (if c0 = 0 then (0 : Int32) else if c0 = 3 then 1 else 2) = (if c0 = 0 then (0 : Int32) else if c0 = 3 then 1 else 2) then some 1 else none) = some 1 := if_pos rfl
  refine nw_icmp_eq (tgt := 1191) C dL_law_1186 (by decide) q1 (fun _ _ => ?_) (fun hn _ => absurd rfl hn)
  refine nw_iload C dL_law_1191 1 rfl ?_
  by_cases h0 : c0 = 0
  · subst h0
    have e4 : v0 = b0 := e4 rfl
    subst e4
    have q2 : (if (0 : Int32) = 0 then some 1 else none) = some 1 := rfl
    refine nw_if_ne (tgt := 1208) C dL_law_1193 (by decide) q2 (fun _ _ => ?_) (fun hn _ => absurd rfl hn)
    refine nw_aload_n C dL_law_1196 rfl 5 rfl ?_
    refine nw_iconst (v := 0) C dL_law_1197 (by decide) ?_
    refine nw_lald C (60 + (mw g am τ1).length) oW_at dL_law_1198 (by unfold vp_in; decide) ?_
    refine nw_iload C dL_law_1199 0 rfl ?_
    refine nw_i2l C dL_law_1201 ?_
    refine nw_lcmp C dL_law_1202 ?_
    refine nw_st (st' := [.int (lg_cmp v0.toInt64 v0.toInt64)]) rfl ?_
    rw [lgc_eq]
    refine nw_if_eq (tgt := 1208) C dL_law_1203 (by decide) q2 (fun _ _ => ?_) (fun hn _ => absurd rfl hn)
    refine nw_goto (tgt := 2867) C dL_law_1208 (by decide) ?_
    exact nw_lv (lv' := [(0, .ref b), (1, .ref (ad 0)), (2, .ref (am 112)), (3, .ref ao), (4, .int x4)]) [2, 3, 4, 5, 6] rfl (k σ1 τ1 ta1 _ hI hp3 hp4)
  · have q2 : (if (if c0 = 0 then (0 : Int32) else if c0 = 3 then 1 else 2) = 0 then none else some 1) = some 1 := if_neg (by rcases hc with rfl | rfl | rfl; exact absurd rfl h0; all_goals decide)
    refine nw_if_ne (tgt := 1208) C dL_law_1193 (by decide) q2 (fun _ h9 => by cases h9) (fun _ _ => ?_)
    refine nw_goto (tgt := 2867) C dL_law_1208 (by decide) ?_
    exact nw_lv (lv' := [(0, .ref b), (1, .ref (ad 0)), (2, .ref (am 112)), (3, .ref ao), (4, .int x4)]) [2, 3, 4, 5, 6] rfl (k σ1 τ1 ta1 _ hI hp3 hp4)
set_option maxHeartbeats 4000000 in
set_option maxRecDepth 100000 in
theorem lc_die (C : Cx g p s m args meth c A 7 cL_law "ForestCourtsLaw") (hl : l.stackTraces = false) {Inv : CS → CS → Prop} {σ τ : CS} {b L ao : Nat} {xs : Nat → Int32} {x4 : Int32} {f : Nat → Int64} {cells slots : Nat} (hX : va_X b L xs s s.heap) (hbl : b < s.heap.size) (hbA : ¬ A b) (h1 : vp_in (x4 + 1) L) (hg : AgT Inv (f_FC_die (xs (x4 + 1).toNatClampNeg) σ) (f_M_die (xs (x4 + 1).toNatClampNeg) τ) (fun c0 => c0 = 0 ∨ c0 = 3) (fun c0 => (if c0 = 0 then (0 : Int32) else 1))) (hφ2 : ph σ.2.2 ≤ BB) (hcl : cells + (BB - ph σ.2.2 + 1) ≤ 601024) (hsl : slots + (2 * (BB - ph σ.2.2) + 6) ≤ 7293033)
    (k : ∀ (σ1 τ1 : CS) (ta1 : Nat → Nat) (f1 : Nat → Int64), Inv σ1 τ1 → ph σ.2.2 ≤ ph σ1.2.2 → ph σ1.2.2 ≤ BB → Nw g p l e room_1 s m args below meth c A Q 7 (cw g ad ta1 σ1 ++ (mw g am τ1 ++ [oWl g ao f1])) (cells + (ph σ1.2.2 - ph σ.2.2 + 1)) (slots + (2 * (ph σ1.2.2 - ph σ.2.2) + 6)) [(0, .ref b), (1, .ref (ad 0)), (2, .ref (am 112)), (3, .ref ao), (4, .int x4)] 2867 []) : Nw g p l e room_1 s m args below meth c A Q 7 (cw g ad ta σ ++ (mw g am τ ++ [oWl g ao f])) (cells) (slots) [(0, .ref b), (1, .ref (ad 0)), (2, .ref (am 112)), (3, .ref ao), (4, .int x4)] 1211 [] := by
  obtain ⟨c0, v0, σ1, b0, τ1, e1, hc, e2, e3, e4, hI⟩ := hg
  have hc : c0 = 0 ∨ c0 = 3 := hc
  have e3 : τ1.1 0 = (if c0 = 0 then (0 : Int32) else 1) := e3
  refine nw_aload_n C dL_law_1211 rfl 1 rfl ?_
  refine nw_aload_n C dL_law_1212 rfl 0 rfl ?_
  refine nw_iload C dL_law_1213 4 rfl ?_
  refine nw_iconst (v := 1) C dL_law_1215 (by decide) ?_
  refine nw_iadd C dL_law_1216 ?_
  refine nw_scr C hX hbl hbA h1 dL_law_1217 ?_
  refine nw_aload_n C dL_law_1218 rfl 3 rfl ?_
  refine nw_callSH (As := [.ref (ad 0)] ++ [.int (xs (x4 + 1).toNatClampNeg)] ++ [.ref ao]) (rest := []) C (z_die hl e1 hc hφ2) tw_1281 tw_1282 tw_122 kh_L_die.1 kh_L_die.2.1 kh_L_die.2.2 ⟨Nat.le_of_ble_eq_true rfl, Nat.le_of_ble_eq_true rfl⟩ ⟨hcl, hsl⟩ rfl dL_law_1219 rfl (Nat.le_of_ble_eq_true rfl) ?_
  rintro w ws1 ⟨rfl, ⟨ta1, rfl⟩, hp3, hp4⟩
  refine nw_istore (lv' := (5, .int (if c0 = 0 then (0 : Int32) else 1)) :: [(0, .ref b), (1, .ref (ad 0)), (2, .ref (am 112)), (3, .ref ao), (4, .int x4)]) C dL_law_1222 (by decide) rfl ?_
  refine nw_aload_n C dL_law_1224 rfl 3 rfl ?_
  refine nw_aload_n C dL_law_1225 rfl 1 rfl ?_
  refine nw_iload C dL_law_1226 5 rfl ?_
  refine nw_iconst (v := 1) C dL_law_1228 (by decide) ?_
  refine nw_iadd C dL_law_1229 ?_
  refine nw_scr C hX hbl hbA h1 dL_law_1230 ?_
  refine nz_model (As := [.int (xs (x4 + 1).toNatClampNeg)]) (rest := []) C (c_M_die e2) tw_2176 kv_X12_die ⟨Nat.le_of_ble_eq_true rfl, Nat.le_of_ble_eq_true rfl⟩ ⟨by show _ ≤ 601024; omega, by show _ ≤ 7293033; omega⟩ rfl dL_law_1231 rfl (Nat.le_of_ble_eq_true rfl) ?_
  refine nw_istore (lv' := (6, .int b0) :: (5, .int (if c0 = 0 then (0 : Int32) else 1)) :: [(0, .ref b), (1, .ref (ad 0)), (2, .ref (am 112)), (3, .ref ao), (4, .int x4)]) C dL_law_1234 (by decide) rfl ?_
  refine nw_aload_n C dL_law_1236 rfl 4 rfl ?_
  refine nz_model (r1 := τ1.1 0) (τ1 := τ1) (As := []) (rest := []) C (c_M_thrown rfl) tw_1910 kv_X12_thrown ⟨Nat.le_of_ble_eq_true rfl, Nat.le_of_ble_eq_true rfl⟩ ⟨by show _ ≤ 601024; omega, by show _ ≤ 7293033; omega⟩ rfl dL_law_1237 rfl (Nat.le_of_ble_eq_true rfl) ?_
  rw [e3]
  refine nw_iload C dL_law_1240 1 rfl ?_
  have q1 : (if (if c0 = 0 then (0 : Int32) else 1) = (if c0 = 0 then (0 : Int32) else 1) then some 1 else none) = some 1 := if_pos rfl
  refine nw_icmp_eq (tgt := 1247) C dL_law_1242 (by decide) q1 (fun _ _ => ?_) (fun hn _ => absurd rfl hn)
  refine nw_iload C dL_law_1247 1 rfl ?_
  by_cases h0 : c0 = 0
  · subst h0
    have e4 : v0 = b0 := e4 rfl
    subst e4
    have q2 : (if (0 : Int32) = 0 then some 1 else none) = some 1 := rfl
    refine nw_if_ne (tgt := 1264) C dL_law_1249 (by decide) q2 (fun _ _ => ?_) (fun hn _ => absurd rfl hn)
    refine nw_aload_n C dL_law_1252 rfl 5 rfl ?_
    refine nw_iconst (v := 0) C dL_law_1253 (by decide) ?_
    refine nw_lald C (60 + (mw g am τ1).length) oW_at dL_law_1254 (by unfold vp_in; decide) ?_
    refine nw_iload C dL_law_1255 0 rfl ?_
    refine nw_i2l C dL_law_1257 ?_
    refine nw_lcmp C dL_law_1258 ?_
    refine nw_st (st' := [.int (lg_cmp v0.toInt64 v0.toInt64)]) rfl ?_
    rw [lgc_eq]
    refine nw_if_eq (tgt := 1264) C dL_law_1259 (by decide) q2 (fun _ _ => ?_) (fun hn _ => absurd rfl hn)
    refine nw_goto (tgt := 2867) C dL_law_1264 (by decide) ?_
    exact nw_lv (lv' := [(0, .ref b), (1, .ref (ad 0)), (2, .ref (am 112)), (3, .ref ao), (4, .int x4)]) [2, 3, 4, 5, 6] rfl (k σ1 τ1 ta1 _ hI hp3 hp4)
  · have q2 : (if (if c0 = 0 then (0 : Int32) else 1) = 0 then none else some 1) = some 1 := if_neg (by rcases hc with rfl | rfl; exact absurd rfl h0; all_goals decide)
    refine nw_if_ne (tgt := 1264) C dL_law_1249 (by decide) q2 (fun _ h9 => by cases h9) (fun _ _ => ?_)
    refine nw_goto (tgt := 2867) C dL_law_1264 (by decide) ?_
    exact nw_lv (lv' := [(0, .ref b), (1, .ref (ad 0)), (2, .ref (am 112)), (3, .ref ao), (4, .int x4)]) [2, 3, 4, 5, 6] rfl (k σ1 τ1 ta1 _ hI hp3 hp4)
set_option maxHeartbeats 4000000 in
set_option maxRecDepth 100000 in
theorem lc_told (C : Cx g p s m args meth c A 7 cL_law "ForestCourtsLaw") (hl : l.stackTraces = false) {Inv : CS → CS → Prop} {σ τ : CS} {b L ao : Nat} {xs : Nat → Int32} {x4 : Int32} {f : Nat → Int64} {cells slots : Nat} (hX : va_X b L xs s s.heap) (hbl : b < s.heap.size) (hbA : ¬ A b) (h1 : vp_in (x4 + 1) L) (h2 : vp_in (x4 + 2) L) (hg : AgT Inv (f_FC_told (xs (x4 + 1).toNatClampNeg) (xs (x4 + 2).toNatClampNeg) σ) (f_M_told (xs (x4 + 1).toNatClampNeg) (xs (x4 + 2).toNatClampNeg) τ) (fun c0 => c0 = 0 ∨ c0 = 3 ∨ c0 = 1) (fun c0 => (if c0 = 0 then (0 : Int32) else if c0 = 3 then 1 else 2))) (hφ2 : ph σ.2.2 ≤ BB) (hcl : cells + (BB - ph σ.2.2 + 1) ≤ 601024) (hsl : slots + (2 * (BB - ph σ.2.2) + 6) ≤ 7293033)
    (k : ∀ (σ1 τ1 : CS) (ta1 : Nat → Nat) (f1 : Nat → Int64), Inv σ1 τ1 → ph σ.2.2 ≤ ph σ1.2.2 → ph σ1.2.2 ≤ BB → Nw g p l e room_1 s m args below meth c A Q 7 (cw g ad ta1 σ1 ++ (mw g am τ1 ++ [oWl g ao f1])) (cells + (ph σ1.2.2 - ph σ.2.2 + 1)) (slots + (2 * (ph σ1.2.2 - ph σ.2.2) + 6)) [(0, .ref b), (1, .ref (ad 0)), (2, .ref (am 112)), (3, .ref ao), (4, .int x4)] 2867 []) : Nw g p l e room_1 s m args below meth c A Q 7 (cw g ad ta σ ++ (mw g am τ ++ [oWl g ao f])) (cells) (slots) [(0, .ref b), (1, .ref (ad 0)), (2, .ref (am 112)), (3, .ref ao), (4, .int x4)] 1267 [] := by
  obtain ⟨c0, v0, σ1, b0, τ1, e1, hc, e2, e3, e4, hI⟩ := hg
  have hc : c0 = 0 ∨ c0 = 3 ∨ c0 = 1 := hc
  have e3 : τ1.1 0 = (if c0 = 0 then (0 : Int32) else if c0 = 3 then 1 else 2) := e3
  refine nw_aload_n C dL_law_1267 rfl 1 rfl ?_
  refine nw_aload_n C dL_law_1268 rfl 0 rfl ?_
  refine nw_iload C dL_law_1269 4 rfl ?_
  refine nw_iconst (v := 1) C dL_law_1271 (by decide) ?_
  refine nw_iadd C dL_law_1272 ?_
  refine nw_scr C hX hbl hbA h1 dL_law_1273 ?_
  refine nw_aload_n C dL_law_1274 rfl 0 rfl ?_
  refine nw_iload C dL_law_1275 4 rfl ?_
  refine nw_iconst (v := 2) C dL_law_1277 (by decide) ?_
  refine nw_iadd C dL_law_1278 ?_
  refine nw_scr C hX hbl hbA h2 dL_law_1279 ?_
  refine nw_aload_n C dL_law_1280 rfl 3 rfl ?_
  refine nw_callSH (As := [.ref (ad 0)] ++ [.int (xs (x4 + 1).toNatClampNeg), .int (xs (x4 + 2).toNatClampNeg)] ++ [.ref ao]) (rest := []) C (z_told hl e1 hc hφ2) tw_1289 tw_1290 tw_122 kh_L_told.1 kh_L_told.2.1 kh_L_told.2.2 ⟨Nat.le_of_ble_eq_true rfl, Nat.le_of_ble_eq_true rfl⟩ ⟨hcl, hsl⟩ rfl dL_law_1281 rfl (Nat.le_of_ble_eq_true rfl) ?_
  rintro w ws1 ⟨rfl, ⟨ta1, rfl⟩, hp3, hp4⟩
  refine nw_istore (lv' := (5, .int (if c0 = 0 then (0 : Int32) else if c0 = 3 then 1 else 2)) :: [(0, .ref b), (1, .ref (ad 0)), (2, .ref (am 112)), (3, .ref ao), (4, .int x4)]) C dL_law_1284 (by decide) rfl ?_
  refine nw_aload_n C dL_law_1286 rfl 3 rfl ?_
  refine nw_aload_n C dL_law_1287 rfl 1 rfl ?_
  refine nw_iload C dL_law_1288 5 rfl ?_
  refine nw_iconst (v := 1) C dL_law_1290 (by decide) ?_
  refine nw_iadd C dL_law_1291 ?_
  refine nw_scr C hX hbl hbA h1 dL_law_1292 ?_
  refine nw_aload_n C dL_law_1293 rfl 1 rfl ?_
  refine nw_iload C dL_law_1294 5 rfl ?_
  refine nw_iconst (v := 2) C dL_law_1296 (by decide) ?_
  refine nw_iadd C dL_law_1297 ?_
  refine nw_scr C hX hbl hbA h2 dL_law_1298 ?_
  refine nz_model (As := [.int (xs (x4 + 1).toNatClampNeg), .int (xs (x4 + 2).toNatClampNeg)]) (rest := []) C (c_M_told e2) tw_2184 kv_X12_told ⟨Nat.le_of_ble_eq_true rfl, Nat.le_of_ble_eq_true rfl⟩ ⟨by show _ ≤ 601024; omega, by show _ ≤ 7293033; omega⟩ rfl dL_law_1299 rfl (Nat.le_of_ble_eq_true rfl) ?_
  refine nw_istore (lv' := (6, .int b0) :: (5, .int (if c0 = 0 then (0 : Int32) else if c0 = 3 then 1 else 2)) :: [(0, .ref b), (1, .ref (ad 0)), (2, .ref (am 112)), (3, .ref ao), (4, .int x4)]) C dL_law_1302 (by decide) rfl ?_
  refine nw_aload_n C dL_law_1304 rfl 4 rfl ?_
  refine nz_model (r1 := τ1.1 0) (τ1 := τ1) (As := []) (rest := []) C (c_M_thrown rfl) tw_1910 kv_X12_thrown ⟨Nat.le_of_ble_eq_true rfl, Nat.le_of_ble_eq_true rfl⟩ ⟨by show _ ≤ 601024; omega, by show _ ≤ 7293033; omega⟩ rfl dL_law_1305 rfl (Nat.le_of_ble_eq_true rfl) ?_
  rw [e3]
  refine nw_iload C dL_law_1308 1 rfl ?_
  have q1 : (if (if c0 = 0 then (0 : Int32) else if c0 = 3 then 1 else 2) = (if c0 = 0 then (0 : Int32) else if c0 = 3 then 1 else 2) then some 1 else none) = some 1 := if_pos rfl
  refine nw_icmp_eq (tgt := 1315) C dL_law_1310 (by decide) q1 (fun _ _ => ?_) (fun hn _ => absurd rfl hn)
  refine nw_iload C dL_law_1315 1 rfl ?_
  by_cases h0 : c0 = 0
  · subst h0
    have e4 : v0 = b0 := e4 rfl
    subst e4
    have q2 : (if (0 : Int32) = 0 then some 1 else none) = some 1 := rfl
    refine nw_if_ne (tgt := 1332) C dL_law_1317 (by decide) q2 (fun _ _ => ?_) (fun hn _ => absurd rfl hn)
    refine nw_aload_n C dL_law_1320 rfl 5 rfl ?_
    refine nw_iconst (v := 0) C dL_law_1321 (by decide) ?_
    refine nw_lald C (60 + (mw g am τ1).length) oW_at dL_law_1322 (by unfold vp_in; decide) ?_
    refine nw_iload C dL_law_1323 0 rfl ?_
    refine nw_i2l C dL_law_1325 ?_
    refine nw_lcmp C dL_law_1326 ?_
    refine nw_st (st' := [.int (lg_cmp v0.toInt64 v0.toInt64)]) rfl ?_
    rw [lgc_eq]
    refine nw_if_eq (tgt := 1332) C dL_law_1327 (by decide) q2 (fun _ _ => ?_) (fun hn _ => absurd rfl hn)
    refine nw_goto (tgt := 2867) C dL_law_1332 (by decide) ?_
    exact nw_lv (lv' := [(0, .ref b), (1, .ref (ad 0)), (2, .ref (am 112)), (3, .ref ao), (4, .int x4)]) [2, 3, 4, 5, 6] rfl (k σ1 τ1 ta1 _ hI hp3 hp4)
  · have q2 : (if (if c0 = 0 then (0 : Int32) else if c0 = 3 then 1 else 2) = 0 then none else some 1) = some 1 := if_neg (by rcases hc with rfl | rfl | rfl; exact absurd rfl h0; all_goals decide)
    refine nw_if_ne (tgt := 1332) C dL_law_1317 (by decide) q2 (fun _ h9 => by cases h9) (fun _ _ => ?_)
    refine nw_goto (tgt := 2867) C dL_law_1332 (by decide) ?_
    exact nw_lv (lv' := [(0, .ref b), (1, .ref (ad 0)), (2, .ref (am 112)), (3, .ref ao), (4, .int x4)]) [2, 3, 4, 5, 6] rfl (k σ1 τ1 ta1 _ hI hp3 hp4)
set_option maxHeartbeats 4000000 in
set_option maxRecDepth 100000 in
theorem lc_warden (C : Cx g p s m args meth c A 7 cL_law "ForestCourtsLaw") (hl : l.stackTraces = false) {Inv : CS → CS → Prop} {σ τ : CS} {b L ao : Nat} {xs : Nat → Int32} {x4 : Int32} {f : Nat → Int64} {cells slots : Nat} (hX : va_X b L xs s s.heap) (hbl : b < s.heap.size) (hbA : ¬ A b) (h1 : vp_in (x4 + 1) L) (h2 : vp_in (x4 + 2) L) (h3 : vp_in (x4 + 3) L) (hg : AgT Inv (f_FC_warden (xs (x4 + 1).toNatClampNeg) (xs (x4 + 2).toNatClampNeg) (xs (x4 + 3).toNatClampNeg) σ) (f_M_warden (xs (x4 + 1).toNatClampNeg) (xs (x4 + 2).toNatClampNeg) (xs (x4 + 3).toNatClampNeg) τ) (fun c0 => c0 = 0 ∨ c0 = 3 ∨ c0 = 1) (fun c0 => (if c0 = 0 then (0 : Int32) else if c0 = 3 then 1 else 2))) (hφ2 : ph σ.2.2 ≤ BB) (hcl : cells + (BB - ph σ.2.2 + 1) ≤ 601024) (hsl : slots + (2 * (BB - ph σ.2.2) + 6) ≤ 7293033)
    (k : ∀ (σ1 τ1 : CS) (ta1 : Nat → Nat) (f1 : Nat → Int64), Inv σ1 τ1 → ph σ.2.2 ≤ ph σ1.2.2 → ph σ1.2.2 ≤ BB → Nw g p l e room_1 s m args below meth c A Q 7 (cw g ad ta1 σ1 ++ (mw g am τ1 ++ [oWl g ao f1])) (cells + (ph σ1.2.2 - ph σ.2.2 + 1)) (slots + (2 * (ph σ1.2.2 - ph σ.2.2) + 6)) [(0, .ref b), (1, .ref (ad 0)), (2, .ref (am 112)), (3, .ref ao), (4, .int x4)] 2867 []) : Nw g p l e room_1 s m args below meth c A Q 7 (cw g ad ta σ ++ (mw g am τ ++ [oWl g ao f])) (cells) (slots) [(0, .ref b), (1, .ref (ad 0)), (2, .ref (am 112)), (3, .ref ao), (4, .int x4)] 1335 [] := by
  obtain ⟨c0, v0, σ1, b0, τ1, e1, hc, e2, e3, e4, hI⟩ := hg
  have hc : c0 = 0 ∨ c0 = 3 ∨ c0 = 1 := hc
  have e3 : τ1.1 0 = (if c0 = 0 then (0 : Int32) else if c0 = 3 then 1 else 2) := e3
  refine nw_aload_n C dL_law_1335 rfl 1 rfl ?_
  refine nw_aload_n C dL_law_1336 rfl 0 rfl ?_
  refine nw_iload C dL_law_1337 4 rfl ?_
  refine nw_iconst (v := 1) C dL_law_1339 (by decide) ?_
  refine nw_iadd C dL_law_1340 ?_
  refine nw_scr C hX hbl hbA h1 dL_law_1341 ?_
  refine nw_aload_n C dL_law_1342 rfl 0 rfl ?_
  refine nw_iload C dL_law_1343 4 rfl ?_
  refine nw_iconst (v := 2) C dL_law_1345 (by decide) ?_
  refine nw_iadd C dL_law_1346 ?_
  refine nw_scr C hX hbl hbA h2 dL_law_1347 ?_
  refine nw_aload_n C dL_law_1348 rfl 0 rfl ?_
  refine nw_iload C dL_law_1349 4 rfl ?_
  refine nw_iconst (v := 3) C dL_law_1351 (by decide) ?_
  refine nw_iadd C dL_law_1352 ?_
  refine nw_scr C hX hbl hbA h3 dL_law_1353 ?_
  refine nw_aload_n C dL_law_1354 rfl 3 rfl ?_
  refine nw_callSH (As := [.ref (ad 0)] ++ [.int (xs (x4 + 1).toNatClampNeg), .int (xs (x4 + 2).toNatClampNeg), .int (xs (x4 + 3).toNatClampNeg)] ++ [.ref ao]) (rest := []) C (z_warden hl e1 hc hφ2) tw_1298 tw_1299 tw_122 kh_L_warden.1 kh_L_warden.2.1 kh_L_warden.2.2 ⟨Nat.le_of_ble_eq_true rfl, Nat.le_of_ble_eq_true rfl⟩ ⟨hcl, hsl⟩ rfl dL_law_1355 rfl (Nat.le_of_ble_eq_true rfl) ?_
  rintro w ws1 ⟨rfl, ⟨ta1, rfl⟩, hp3, hp4⟩
  refine nw_istore (lv' := (5, .int (if c0 = 0 then (0 : Int32) else if c0 = 3 then 1 else 2)) :: [(0, .ref b), (1, .ref (ad 0)), (2, .ref (am 112)), (3, .ref ao), (4, .int x4)]) C dL_law_1358 (by decide) rfl ?_
  refine nw_aload_n C dL_law_1360 rfl 3 rfl ?_
  refine nw_aload_n C dL_law_1361 rfl 1 rfl ?_
  refine nw_iload C dL_law_1362 5 rfl ?_
  refine nw_iconst (v := 1) C dL_law_1364 (by decide) ?_
  refine nw_iadd C dL_law_1365 ?_
  refine nw_scr C hX hbl hbA h1 dL_law_1366 ?_
  refine nw_aload_n C dL_law_1367 rfl 1 rfl ?_
  refine nw_iload C dL_law_1368 5 rfl ?_
  refine nw_iconst (v := 2) C dL_law_1370 (by decide) ?_
  refine nw_iadd C dL_law_1371 ?_
  refine nw_scr C hX hbl hbA h2 dL_law_1372 ?_
  refine nw_aload_n C dL_law_1373 rfl 1 rfl ?_
  refine nw_iload C dL_law_1374 5 rfl ?_
  refine nw_iconst (v := 3) C dL_law_1376 (by decide) ?_
  refine nw_iadd C dL_law_1377 ?_
  refine nw_scr C hX hbl hbA h3 dL_law_1378 ?_
  refine nz_model (As := [.int (xs (x4 + 1).toNatClampNeg), .int (xs (x4 + 2).toNatClampNeg), .int (xs (x4 + 3).toNatClampNeg)]) (rest := []) C (c_M_warden e2) tw_2192 kv_X12_warden ⟨Nat.le_of_ble_eq_true rfl, Nat.le_of_ble_eq_true rfl⟩ ⟨by show _ ≤ 601024; omega, by show _ ≤ 7293033; omega⟩ rfl dL_law_1379 rfl (Nat.le_of_ble_eq_true rfl) ?_
  refine nw_istore (lv' := (6, .int b0) :: (5, .int (if c0 = 0 then (0 : Int32) else if c0 = 3 then 1 else 2)) :: [(0, .ref b), (1, .ref (ad 0)), (2, .ref (am 112)), (3, .ref ao), (4, .int x4)]) C dL_law_1382 (by decide) rfl ?_
  refine nw_aload_n C dL_law_1384 rfl 4 rfl ?_
  refine nz_model (r1 := τ1.1 0) (τ1 := τ1) (As := []) (rest := []) C (c_M_thrown rfl) tw_1910 kv_X12_thrown ⟨Nat.le_of_ble_eq_true rfl, Nat.le_of_ble_eq_true rfl⟩ ⟨by show _ ≤ 601024; omega, by show _ ≤ 7293033; omega⟩ rfl dL_law_1385 rfl (Nat.le_of_ble_eq_true rfl) ?_
  rw [e3]
  refine nw_iload C dL_law_1388 1 rfl ?_
  have q1 : (if (if c0 = 0 then (0 : Int32) else if c0 = 3 then 1 else 2) = (if c0 = 0 then (0 : Int32) else if c0 = 3 then 1 else 2) then some 1 else none) = some 1 := if_pos rfl
  refine nw_icmp_eq (tgt := 1395) C dL_law_1390 (by decide) q1 (fun _ _ => ?_) (fun hn _ => absurd rfl hn)
  refine nw_iload C dL_law_1395 1 rfl ?_
  by_cases h0 : c0 = 0
  · subst h0
    have e4 : v0 = b0 := e4 rfl
    subst e4
    have q2 : (if (0 : Int32) = 0 then some 1 else none) = some 1 := rfl
    refine nw_if_ne (tgt := 1412) C dL_law_1397 (by decide) q2 (fun _ _ => ?_) (fun hn _ => absurd rfl hn)
    refine nw_aload_n C dL_law_1400 rfl 5 rfl ?_
    refine nw_iconst (v := 0) C dL_law_1401 (by decide) ?_
    refine nw_lald C (60 + (mw g am τ1).length) oW_at dL_law_1402 (by unfold vp_in; decide) ?_
    refine nw_iload C dL_law_1403 0 rfl ?_
    refine nw_i2l C dL_law_1405 ?_
    refine nw_lcmp C dL_law_1406 ?_
    refine nw_st (st' := [.int (lg_cmp v0.toInt64 v0.toInt64)]) rfl ?_
    rw [lgc_eq]
    refine nw_if_eq (tgt := 1412) C dL_law_1407 (by decide) q2 (fun _ _ => ?_) (fun hn _ => absurd rfl hn)
    refine nw_goto (tgt := 2867) C dL_law_1412 (by decide) ?_
    exact nw_lv (lv' := [(0, .ref b), (1, .ref (ad 0)), (2, .ref (am 112)), (3, .ref ao), (4, .int x4)]) [2, 3, 4, 5, 6] rfl (k σ1 τ1 ta1 _ hI hp3 hp4)
  · have q2 : (if (if c0 = 0 then (0 : Int32) else if c0 = 3 then 1 else 2) = 0 then none else some 1) = some 1 := if_neg (by rcases hc with rfl | rfl | rfl; exact absurd rfl h0; all_goals decide)
    refine nw_if_ne (tgt := 1412) C dL_law_1397 (by decide) q2 (fun _ h9 => by cases h9) (fun _ _ => ?_)
    refine nw_goto (tgt := 2867) C dL_law_1412 (by decide) ?_
    exact nw_lv (lv' := [(0, .ref b), (1, .ref (ad 0)), (2, .ref (am 112)), (3, .ref ao), (4, .int x4)]) [2, 3, 4, 5, 6] rfl (k σ1 τ1 ta1 _ hI hp3 hp4)
set_option maxHeartbeats 4000000 in
set_option maxRecDepth 100000 in
theorem lc_deed (C : Cx g p s m args meth c A 7 cL_law "ForestCourtsLaw") (hl : l.stackTraces = false) {Inv : CS → CS → Prop} {σ τ : CS} {b L ao : Nat} {xs : Nat → Int32} {x4 : Int32} {f : Nat → Int64} {cells slots : Nat} (hX : va_X b L xs s s.heap) (hbl : b < s.heap.size) (hbA : ¬ A b) (h1 : vp_in (x4 + 1) L) (h2 : vp_in (x4 + 2) L) (h3 : vp_in (x4 + 3) L) (h4 : vp_in (x4 + 4) L) (h5 : vp_in (x4 + 5) L) (h6 : vp_in (x4 + 6) L) (hg : AgT Inv (f_FC_deed (xs (x4 + 1).toNatClampNeg) (xs (x4 + 2).toNatClampNeg) (xs (x4 + 3).toNatClampNeg) (xs (x4 + 4).toNatClampNeg) (xs (x4 + 5).toNatClampNeg) (xs (x4 + 6).toNatClampNeg) σ) (f_M_deed (xs (x4 + 1).toNatClampNeg) (xs (x4 + 2).toNatClampNeg) (xs (x4 + 3).toNatClampNeg) (xs (x4 + 4).toNatClampNeg) (xs (x4 + 5).toNatClampNeg) (xs (x4 + 6).toNatClampNeg) τ) (fun c0 => c0 = 0 ∨ c0 = 3 ∨ c0 = 1) (fun c0 => (if c0 = 0 then (0 : Int32) else if c0 = 3 then 1 else 2))) (hφ2 : ph σ.2.2 ≤ BB) (hcl : cells + (BB - ph σ.2.2 + 1) ≤ 601024) (hsl : slots + (2 * (BB - ph σ.2.2) + 6) ≤ 7293033)
    (k : ∀ (σ1 τ1 : CS) (ta1 : Nat → Nat) (f1 : Nat → Int64), Inv σ1 τ1 → ph σ.2.2 ≤ ph σ1.2.2 → ph σ1.2.2 ≤ BB → Nw g p l e room_1 s m args below meth c A Q 7 (cw g ad ta1 σ1 ++ (mw g am τ1 ++ [oWl g ao f1])) (cells + (ph σ1.2.2 - ph σ.2.2 + 1)) (slots + (2 * (ph σ1.2.2 - ph σ.2.2) + 6)) [(0, .ref b), (1, .ref (ad 0)), (2, .ref (am 112)), (3, .ref ao), (4, .int x4)] 2867 []) : Nw g p l e room_1 s m args below meth c A Q 7 (cw g ad ta σ ++ (mw g am τ ++ [oWl g ao f])) (cells) (slots) [(0, .ref b), (1, .ref (ad 0)), (2, .ref (am 112)), (3, .ref ao), (4, .int x4)] 1415 [] := by
  obtain ⟨c0, v0, σ1, b0, τ1, e1, hc, e2, e3, e4, hI⟩ := hg
  have hc : c0 = 0 ∨ c0 = 3 ∨ c0 = 1 := hc
  have e3 : τ1.1 0 = (if c0 = 0 then (0 : Int32) else if c0 = 3 then 1 else 2) := e3
  refine nw_aload_n C dL_law_1415 rfl 1 rfl ?_
  refine nw_aload_n C dL_law_1416 rfl 0 rfl ?_
  refine nw_iload C dL_law_1417 4 rfl ?_
  refine nw_iconst (v := 1) C dL_law_1419 (by decide) ?_
  refine nw_iadd C dL_law_1420 ?_
  refine nw_scr C hX hbl hbA h1 dL_law_1421 ?_
  refine nw_aload_n C dL_law_1422 rfl 0 rfl ?_
  refine nw_iload C dL_law_1423 4 rfl ?_
  refine nw_iconst (v := 2) C dL_law_1425 (by decide) ?_
  refine nw_iadd C dL_law_1426 ?_
  refine nw_scr C hX hbl hbA h2 dL_law_1427 ?_
  refine nw_aload_n C dL_law_1428 rfl 0 rfl ?_
  refine nw_iload C dL_law_1429 4 rfl ?_
  refine nw_iconst (v := 3) C dL_law_1431 (by decide) ?_
  refine nw_iadd C dL_law_1432 ?_
  refine nw_scr C hX hbl hbA h3 dL_law_1433 ?_
  refine nw_aload_n C dL_law_1434 rfl 0 rfl ?_
  refine nw_iload C dL_law_1435 4 rfl ?_
  refine nw_iconst (v := 4) C dL_law_1437 (by decide) ?_
  refine nw_iadd C dL_law_1438 ?_
  refine nw_scr C hX hbl hbA h4 dL_law_1439 ?_
  refine nw_aload_n C dL_law_1440 rfl 0 rfl ?_
  refine nw_iload C dL_law_1441 4 rfl ?_
  refine nw_iconst (v := 5) C dL_law_1443 (by decide) ?_
  refine nw_iadd C dL_law_1444 ?_
  refine nw_scr C hX hbl hbA h5 dL_law_1445 ?_
  refine nw_aload_n C dL_law_1446 rfl 0 rfl ?_
  refine nw_iload C dL_law_1447 4 rfl ?_
  refine nw_bipush (v := 6) C dL_law_1449 (by decide) ?_
  refine nw_iadd C dL_law_1451 ?_
  refine nw_scr C hX hbl hbA h6 dL_law_1452 ?_
  refine nw_aload_n C dL_law_1453 rfl 3 rfl ?_
  refine nw_callSH (As := [.ref (ad 0)] ++ [.int (xs (x4 + 1).toNatClampNeg), .int (xs (x4 + 2).toNatClampNeg), .int (xs (x4 + 3).toNatClampNeg), .int (xs (x4 + 4).toNatClampNeg), .int (xs (x4 + 5).toNatClampNeg), .int (xs (x4 + 6).toNatClampNeg)] ++ [.ref ao]) (rest := []) C (z_deed hl e1 hc hφ2) tw_1309 tw_1310 tw_122 kh_L_deed.1 kh_L_deed.2.1 kh_L_deed.2.2 ⟨Nat.le_of_ble_eq_true rfl, Nat.le_of_ble_eq_true rfl⟩ ⟨hcl, hsl⟩ rfl dL_law_1454 rfl (Nat.le_of_ble_eq_true rfl) ?_
  rintro w ws1 ⟨rfl, ⟨ta1, rfl⟩, hp3, hp4⟩
  refine nw_istore (lv' := (5, .int (if c0 = 0 then (0 : Int32) else if c0 = 3 then 1 else 2)) :: [(0, .ref b), (1, .ref (ad 0)), (2, .ref (am 112)), (3, .ref ao), (4, .int x4)]) C dL_law_1457 (by decide) rfl ?_
  refine nw_aload_n C dL_law_1459 rfl 3 rfl ?_
  refine nw_aload_n C dL_law_1460 rfl 1 rfl ?_
  refine nw_iload C dL_law_1461 5 rfl ?_
  refine nw_iconst (v := 1) C dL_law_1463 (by decide) ?_
  refine nw_iadd C dL_law_1464 ?_
  refine nw_scr C hX hbl hbA h1 dL_law_1465 ?_
  refine nw_aload_n C dL_law_1466 rfl 1 rfl ?_
  refine nw_iload C dL_law_1467 5 rfl ?_
  refine nw_iconst (v := 2) C dL_law_1469 (by decide) ?_
  refine nw_iadd C dL_law_1470 ?_
  refine nw_scr C hX hbl hbA h2 dL_law_1471 ?_
  refine nw_aload_n C dL_law_1472 rfl 1 rfl ?_
  refine nw_iload C dL_law_1473 5 rfl ?_
  refine nw_iconst (v := 3) C dL_law_1475 (by decide) ?_
  refine nw_iadd C dL_law_1476 ?_
  refine nw_scr C hX hbl hbA h3 dL_law_1477 ?_
  refine nw_aload_n C dL_law_1478 rfl 1 rfl ?_
  refine nw_iload C dL_law_1479 5 rfl ?_
  refine nw_iconst (v := 4) C dL_law_1481 (by decide) ?_
  refine nw_iadd C dL_law_1482 ?_
  refine nw_scr C hX hbl hbA h4 dL_law_1483 ?_
  refine nw_aload_n C dL_law_1484 rfl 1 rfl ?_
  refine nw_iload C dL_law_1485 5 rfl ?_
  refine nw_iconst (v := 5) C dL_law_1487 (by decide) ?_
  refine nw_iadd C dL_law_1488 ?_
  refine nw_scr C hX hbl hbA h5 dL_law_1489 ?_
  refine nw_aload_n C dL_law_1490 rfl 1 rfl ?_
  refine nw_iload C dL_law_1491 5 rfl ?_
  refine nw_bipush (v := 6) C dL_law_1493 (by decide) ?_
  refine nw_iadd C dL_law_1495 ?_
  refine nw_scr C hX hbl hbA h6 dL_law_1496 ?_
  refine nz_model (As := [.int (xs (x4 + 1).toNatClampNeg), .int (xs (x4 + 2).toNatClampNeg), .int (xs (x4 + 3).toNatClampNeg), .int (xs (x4 + 4).toNatClampNeg), .int (xs (x4 + 5).toNatClampNeg), .int (xs (x4 + 6).toNatClampNeg)]) (rest := []) C (c_M_deed e2) tw_2196 kv_X12_deed ⟨Nat.le_of_ble_eq_true rfl, Nat.le_of_ble_eq_true rfl⟩ ⟨by show _ ≤ 601024; omega, by show _ ≤ 7293033; omega⟩ rfl dL_law_1497 rfl (Nat.le_of_ble_eq_true rfl) ?_
  refine nw_istore (lv' := (6, .int b0) :: (5, .int (if c0 = 0 then (0 : Int32) else if c0 = 3 then 1 else 2)) :: [(0, .ref b), (1, .ref (ad 0)), (2, .ref (am 112)), (3, .ref ao), (4, .int x4)]) C dL_law_1500 (by decide) rfl ?_
  refine nw_aload_n C dL_law_1502 rfl 4 rfl ?_
  refine nz_model (r1 := τ1.1 0) (τ1 := τ1) (As := []) (rest := []) C (c_M_thrown rfl) tw_1910 kv_X12_thrown ⟨Nat.le_of_ble_eq_true rfl, Nat.le_of_ble_eq_true rfl⟩ ⟨by show _ ≤ 601024; omega, by show _ ≤ 7293033; omega⟩ rfl dL_law_1503 rfl (Nat.le_of_ble_eq_true rfl) ?_
  rw [e3]
  refine nw_iload C dL_law_1506 1 rfl ?_
  have q1 : (if (if c0 = 0 then (0 : Int32) else if c0 = 3 then 1 else 2) = (if c0 = 0 then (0 : Int32) else if c0 = 3 then 1 else 2) then some 1 else none) = some 1 := if_pos rfl
  refine nw_icmp_eq (tgt := 1513) C dL_law_1508 (by decide) q1 (fun _ _ => ?_) (fun hn _ => absurd rfl hn)
  refine nw_iload C dL_law_1513 1 rfl ?_
  by_cases h0 : c0 = 0
  · subst h0
    have e4 : v0 = b0 := e4 rfl
    subst e4
    have q2 : (if (0 : Int32) = 0 then some 1 else none) = some 1 := rfl
    refine nw_if_ne (tgt := 1530) C dL_law_1515 (by decide) q2 (fun _ _ => ?_) (fun hn _ => absurd rfl hn)
    refine nw_aload_n C dL_law_1518 rfl 5 rfl ?_
    refine nw_iconst (v := 0) C dL_law_1519 (by decide) ?_
    refine nw_lald C (60 + (mw g am τ1).length) oW_at dL_law_1520 (by unfold vp_in; decide) ?_
    refine nw_iload C dL_law_1521 0 rfl ?_
    refine nw_i2l C dL_law_1523 ?_
    refine nw_lcmp C dL_law_1524 ?_
    refine nw_st (st' := [.int (lg_cmp v0.toInt64 v0.toInt64)]) rfl ?_
    rw [lgc_eq]
    refine nw_if_eq (tgt := 1530) C dL_law_1525 (by decide) q2 (fun _ _ => ?_) (fun hn _ => absurd rfl hn)
    refine nw_goto (tgt := 2867) C dL_law_1530 (by decide) ?_
    exact nw_lv (lv' := [(0, .ref b), (1, .ref (ad 0)), (2, .ref (am 112)), (3, .ref ao), (4, .int x4)]) [2, 3, 4, 5, 6] rfl (k σ1 τ1 ta1 _ hI hp3 hp4)
  · have q2 : (if (if c0 = 0 then (0 : Int32) else if c0 = 3 then 1 else 2) = 0 then none else some 1) = some 1 := if_neg (by rcases hc with rfl | rfl | rfl; exact absurd rfl h0; all_goals decide)
    refine nw_if_ne (tgt := 1530) C dL_law_1515 (by decide) q2 (fun _ h9 => by cases h9) (fun _ _ => ?_)
    refine nw_goto (tgt := 2867) C dL_law_1530 (by decide) ?_
    exact nw_lv (lv' := [(0, .ref b), (1, .ref (ad 0)), (2, .ref (am 112)), (3, .ref ao), (4, .int x4)]) [2, 3, 4, 5, 6] rfl (k σ1 τ1 ta1 _ hI hp3 hp4)
set_option maxHeartbeats 4000000 in
set_option maxRecDepth 100000 in
theorem lc_barred (C : Cx g p s m args meth c A 7 cL_law "ForestCourtsLaw") (hl : l.stackTraces = false) {Inv : CS → CS → Prop} {σ τ : CS} {b L ao : Nat} {xs : Nat → Int32} {x4 : Int32} {f : Nat → Int64} {cells slots : Nat} (hX : va_X b L xs s s.heap) (hbl : b < s.heap.size) (hbA : ¬ A b) (h1 : vp_in (x4 + 1) L) (hg : AgT Inv (f_FC_barred (xs (x4 + 1).toNatClampNeg) σ) (f_M_barred (xs (x4 + 1).toNatClampNeg) τ) (fun c0 => c0 = 0 ∨ c0 = 3) (fun c0 => (if c0 = 0 then (0 : Int32) else 1))) (hφ2 : ph σ.2.2 ≤ BB) (hcl : cells + (BB - ph σ.2.2 + 1) ≤ 601024) (hsl : slots + (2 * (BB - ph σ.2.2) + 6) ≤ 7293033)
    (k : ∀ (σ1 τ1 : CS) (ta1 : Nat → Nat) (f1 : Nat → Int64), Inv σ1 τ1 → ph σ.2.2 ≤ ph σ1.2.2 → ph σ1.2.2 ≤ BB → Nw g p l e room_1 s m args below meth c A Q 7 (cw g ad ta1 σ1 ++ (mw g am τ1 ++ [oWl g ao f1])) (cells + (ph σ1.2.2 - ph σ.2.2 + 1)) (slots + (2 * (ph σ1.2.2 - ph σ.2.2) + 6)) [(0, .ref b), (1, .ref (ad 0)), (2, .ref (am 112)), (3, .ref ao), (4, .int x4)] 2867 []) : Nw g p l e room_1 s m args below meth c A Q 7 (cw g ad ta σ ++ (mw g am τ ++ [oWl g ao f])) (cells) (slots) [(0, .ref b), (1, .ref (ad 0)), (2, .ref (am 112)), (3, .ref ao), (4, .int x4)] 1533 [] := by
  obtain ⟨c0, v0, σ1, b0, τ1, e1, hc, e2, e3, e4, hI⟩ := hg
  have hc : c0 = 0 ∨ c0 = 3 := hc
  have e3 : τ1.1 0 = (if c0 = 0 then (0 : Int32) else 1) := e3
  refine nw_aload_n C dL_law_1533 rfl 1 rfl ?_
  refine nw_aload_n C dL_law_1534 rfl 0 rfl ?_
  refine nw_iload C dL_law_1535 4 rfl ?_
  refine nw_iconst (v := 1) C dL_law_1537 (by decide) ?_
  refine nw_iadd C dL_law_1538 ?_
  refine nw_scr C hX hbl hbA h1 dL_law_1539 ?_
  refine nw_aload_n C dL_law_1540 rfl 3 rfl ?_
  refine nw_callSH (As := [.ref (ad 0)] ++ [.int (xs (x4 + 1).toNatClampNeg)] ++ [.ref ao]) (rest := []) C (z_barred hl e1 hc hφ2) tw_1323 tw_1324 tw_122 kh_L_barred.1 kh_L_barred.2.1 kh_L_barred.2.2 ⟨Nat.le_of_ble_eq_true rfl, Nat.le_of_ble_eq_true rfl⟩ ⟨hcl, hsl⟩ rfl dL_law_1541 rfl (Nat.le_of_ble_eq_true rfl) ?_
  rintro w ws1 ⟨rfl, ⟨ta1, rfl⟩, hp3, hp4⟩
  refine nw_istore (lv' := (5, .int (if c0 = 0 then (0 : Int32) else 1)) :: [(0, .ref b), (1, .ref (ad 0)), (2, .ref (am 112)), (3, .ref ao), (4, .int x4)]) C dL_law_1544 (by decide) rfl ?_
  refine nw_aload_n C dL_law_1546 rfl 3 rfl ?_
  refine nw_aload_n C dL_law_1547 rfl 1 rfl ?_
  refine nw_iload C dL_law_1548 5 rfl ?_
  refine nw_iconst (v := 1) C dL_law_1550 (by decide) ?_
  refine nw_iadd C dL_law_1551 ?_
  refine nw_scr C hX hbl hbA h1 dL_law_1552 ?_
  refine nz_model (As := [.int (xs (x4 + 1).toNatClampNeg)]) (rest := []) C (c_M_barred e2) tw_2200 kv_X12_barred ⟨Nat.le_of_ble_eq_true rfl, Nat.le_of_ble_eq_true rfl⟩ ⟨by show _ ≤ 601024; omega, by show _ ≤ 7293033; omega⟩ rfl dL_law_1553 rfl (Nat.le_of_ble_eq_true rfl) ?_
  refine nw_istore (lv' := (6, .int b0) :: (5, .int (if c0 = 0 then (0 : Int32) else 1)) :: [(0, .ref b), (1, .ref (ad 0)), (2, .ref (am 112)), (3, .ref ao), (4, .int x4)]) C dL_law_1556 (by decide) rfl ?_
  refine nw_aload_n C dL_law_1558 rfl 4 rfl ?_
  refine nz_model (r1 := τ1.1 0) (τ1 := τ1) (As := []) (rest := []) C (c_M_thrown rfl) tw_1910 kv_X12_thrown ⟨Nat.le_of_ble_eq_true rfl, Nat.le_of_ble_eq_true rfl⟩ ⟨by show _ ≤ 601024; omega, by show _ ≤ 7293033; omega⟩ rfl dL_law_1559 rfl (Nat.le_of_ble_eq_true rfl) ?_
  rw [e3]
  refine nw_iload C dL_law_1562 1 rfl ?_
  have q1 : (if (if c0 = 0 then (0 : Int32) else 1) = (if c0 = 0 then (0 : Int32) else 1) then some 1 else none) = some 1 := if_pos rfl
  refine nw_icmp_eq (tgt := 1569) C dL_law_1564 (by decide) q1 (fun _ _ => ?_) (fun hn _ => absurd rfl hn)
  refine nw_iload C dL_law_1569 1 rfl ?_
  by_cases h0 : c0 = 0
  · subst h0
    have e4 : v0 = b0 := e4 rfl
    subst e4
    have q2 : (if (0 : Int32) = 0 then some 1 else none) = some 1 := rfl
    refine nw_if_ne (tgt := 1593) C dL_law_1571 (by decide) q2 (fun _ _ => ?_) (fun hn _ => absurd rfl hn)
    refine nw_aload_n C dL_law_1574 rfl 5 rfl ?_
    refine nw_iconst (v := 0) C dL_law_1575 (by decide) ?_
    refine nw_lald C (60 + (mw g am τ1).length) oW_at dL_law_1576 (by unfold vp_in; decide) ?_
    refine nw_iload C dL_law_1577 0 rfl ?_
    have q3 : (if v0 = 0 then some 1 else some 2) = some (if v0 = 0 then 1 else 2) := by split <;> rfl
    refine nw_if_eq (tgt := 1586) C dL_law_1579 (by decide) q3 (fun hv _ => ?_) (fun hv _ => ?_)
    · refine nw_lconst (v := 0) C dL_law_1586 (by decide) ?_
      refine nw_lcmp C dL_law_1587 ?_
      refine nw_st (st' := [.int (lg_cmp (if v0 = 0 then 0 else 1) 0)]) rfl ?_
      rw [if_pos hv, lgc_eq]
      refine nw_if_eq (tgt := 1593) C dL_law_1588 (by decide) q2 (fun _ _ => ?_) (fun hn _ => absurd rfl hn)
      refine nw_goto (tgt := 2867) C dL_law_1593 (by decide) ?_
      exact nw_lv (lv' := [(0, .ref b), (1, .ref (ad 0)), (2, .ref (am 112)), (3, .ref ao), (4, .int x4)]) [2, 3, 4, 5, 6] rfl (k σ1 τ1 ta1 _ hI hp3 hp4)
    · refine nw_lconst (v := 1) C dL_law_1582 (by decide) ?_
      refine nw_goto (tgt := 1587) C dL_law_1583 (by decide) ?_
      refine nw_lcmp C dL_law_1587 ?_
      refine nw_st (st' := [.int (lg_cmp (if v0 = 0 then 0 else 1) 1)]) rfl ?_
      rw [if_neg hv, lgc_eq]
      refine nw_if_eq (tgt := 1593) C dL_law_1588 (by decide) q2 (fun _ _ => ?_) (fun hn _ => absurd rfl hn)
      refine nw_goto (tgt := 2867) C dL_law_1593 (by decide) ?_
      exact nw_lv (lv' := [(0, .ref b), (1, .ref (ad 0)), (2, .ref (am 112)), (3, .ref ao), (4, .int x4)]) [2, 3, 4, 5, 6] rfl (k σ1 τ1 ta1 _ hI hp3 hp4)
  · have q2 : (if (if c0 = 0 then (0 : Int32) else 1) = 0 then none else some 1) = some 1 := if_neg (by rcases hc with rfl | rfl; exact absurd rfl h0; all_goals decide)
    refine nw_if_ne (tgt := 1593) C dL_law_1571 (by decide) q2 (fun _ h9 => by cases h9) (fun _ _ => ?_)
    refine nw_goto (tgt := 2867) C dL_law_1593 (by decide) ?_
    exact nw_lv (lv' := [(0, .ref b), (1, .ref (ad 0)), (2, .ref (am 112)), (3, .ref ao), (4, .int x4)]) [2, 3, 4, 5, 6] rfl (k σ1 τ1 ta1 _ hI hp3 hp4)
set_option maxHeartbeats 4000000 in
set_option maxRecDepth 100000 in
theorem lc_why (C : Cx g p s m args meth c A 7 cL_law "ForestCourtsLaw") (hl : l.stackTraces = false) {Inv : CS → CS → Prop} {σ τ : CS} {b L ao : Nat} {xs : Nat → Int32} {x4 : Int32} {f : Nat → Int64} {cells slots : Nat} (hX : va_X b L xs s s.heap) (hbl : b < s.heap.size) (hbA : ¬ A b) (h1 : vp_in (x4 + 1) L) (hg : AgT Inv (f_FC_why (xs (x4 + 1).toNatClampNeg) σ) (f_M_why (xs (x4 + 1).toNatClampNeg) τ) (fun c0 => c0 = 0 ∨ c0 = 3) (fun c0 => (if c0 = 0 then (0 : Int32) else 1))) (hφ2 : ph σ.2.2 ≤ BB) (hcl : cells + (BB - ph σ.2.2 + 1) ≤ 601024) (hsl : slots + (2 * (BB - ph σ.2.2) + 6) ≤ 7293033)
    (k : ∀ (σ1 τ1 : CS) (ta1 : Nat → Nat) (f1 : Nat → Int64), Inv σ1 τ1 → ph σ.2.2 ≤ ph σ1.2.2 → ph σ1.2.2 ≤ BB → Nw g p l e room_1 s m args below meth c A Q 7 (cw g ad ta1 σ1 ++ (mw g am τ1 ++ [oWl g ao f1])) (cells + (ph σ1.2.2 - ph σ.2.2 + 1)) (slots + (2 * (ph σ1.2.2 - ph σ.2.2) + 6)) [(0, .ref b), (1, .ref (ad 0)), (2, .ref (am 112)), (3, .ref ao), (4, .int x4)] 2867 []) : Nw g p l e room_1 s m args below meth c A Q 7 (cw g ad ta σ ++ (mw g am τ ++ [oWl g ao f])) (cells) (slots) [(0, .ref b), (1, .ref (ad 0)), (2, .ref (am 112)), (3, .ref ao), (4, .int x4)] 1596 [] := by
  obtain ⟨c0, v0, σ1, b0, τ1, e1, hc, e2, e3, e4, hI⟩ := hg
  have hc : c0 = 0 ∨ c0 = 3 := hc
  have e3 : τ1.1 0 = (if c0 = 0 then (0 : Int32) else 1) := e3
  refine nw_aload_n C dL_law_1596 rfl 1 rfl ?_
  refine nw_aload_n C dL_law_1597 rfl 0 rfl ?_
  refine nw_iload C dL_law_1598 4 rfl ?_
  refine nw_iconst (v := 1) C dL_law_1600 (by decide) ?_
  refine nw_iadd C dL_law_1601 ?_
  refine nw_scr C hX hbl hbA h1 dL_law_1602 ?_
  refine nw_aload_n C dL_law_1603 rfl 3 rfl ?_
  refine nw_callSH (As := [.ref (ad 0)] ++ [.int (xs (x4 + 1).toNatClampNeg)] ++ [.ref ao]) (rest := []) C (z_why hl e1 hc hφ2) tw_1362 tw_1363 tw_122 kh_L_why.1 kh_L_why.2.1 kh_L_why.2.2 ⟨Nat.le_of_ble_eq_true rfl, Nat.le_of_ble_eq_true rfl⟩ ⟨hcl, hsl⟩ rfl dL_law_1604 rfl (Nat.le_of_ble_eq_true rfl) ?_
  rintro w ws1 ⟨rfl, ⟨ta1, rfl⟩, hp3, hp4⟩
  refine nw_istore (lv' := (5, .int (if c0 = 0 then (0 : Int32) else 1)) :: [(0, .ref b), (1, .ref (ad 0)), (2, .ref (am 112)), (3, .ref ao), (4, .int x4)]) C dL_law_1607 (by decide) rfl ?_
  refine nw_aload_n C dL_law_1609 rfl 3 rfl ?_
  refine nw_aload_n C dL_law_1610 rfl 1 rfl ?_
  refine nw_iload C dL_law_1611 5 rfl ?_
  refine nw_iconst (v := 1) C dL_law_1613 (by decide) ?_
  refine nw_iadd C dL_law_1614 ?_
  refine nw_scr C hX hbl hbA h1 dL_law_1615 ?_
  refine nz_model (As := [.int (xs (x4 + 1).toNatClampNeg)]) (rest := []) C (c_M_why e2) tw_2235 kv_X12_why ⟨Nat.le_of_ble_eq_true rfl, Nat.le_of_ble_eq_true rfl⟩ ⟨by show _ ≤ 601024; omega, by show _ ≤ 7293033; omega⟩ rfl dL_law_1616 rfl (Nat.le_of_ble_eq_true rfl) ?_
  refine nw_istore (lv' := (6, .int b0) :: (5, .int (if c0 = 0 then (0 : Int32) else 1)) :: [(0, .ref b), (1, .ref (ad 0)), (2, .ref (am 112)), (3, .ref ao), (4, .int x4)]) C dL_law_1619 (by decide) rfl ?_
  refine nw_aload_n C dL_law_1621 rfl 4 rfl ?_
  refine nz_model (r1 := τ1.1 0) (τ1 := τ1) (As := []) (rest := []) C (c_M_thrown rfl) tw_1910 kv_X12_thrown ⟨Nat.le_of_ble_eq_true rfl, Nat.le_of_ble_eq_true rfl⟩ ⟨by show _ ≤ 601024; omega, by show _ ≤ 7293033; omega⟩ rfl dL_law_1622 rfl (Nat.le_of_ble_eq_true rfl) ?_
  rw [e3]
  refine nw_iload C dL_law_1625 1 rfl ?_
  have q1 : (if (if c0 = 0 then (0 : Int32) else 1) = (if c0 = 0 then (0 : Int32) else 1) then some 1 else none) = some 1 := if_pos rfl
  refine nw_icmp_eq (tgt := 1632) C dL_law_1627 (by decide) q1 (fun _ _ => ?_) (fun hn _ => absurd rfl hn)
  refine nw_iload C dL_law_1632 1 rfl ?_
  by_cases h0 : c0 = 0
  · subst h0
    have e4 : v0 = b0 := e4 rfl
    subst e4
    have q2 : (if (0 : Int32) = 0 then some 1 else none) = some 1 := rfl
    refine nw_if_ne (tgt := 1649) C dL_law_1634 (by decide) q2 (fun _ _ => ?_) (fun hn _ => absurd rfl hn)
    refine nw_aload_n C dL_law_1637 rfl 5 rfl ?_
    refine nw_iconst (v := 0) C dL_law_1638 (by decide) ?_
    refine nw_lald C (60 + (mw g am τ1).length) oW_at dL_law_1639 (by unfold vp_in; decide) ?_
    refine nw_iload C dL_law_1640 0 rfl ?_
    refine nw_i2l C dL_law_1642 ?_
    refine nw_lcmp C dL_law_1643 ?_
    refine nw_st (st' := [.int (lg_cmp v0.toInt64 v0.toInt64)]) rfl ?_
    rw [lgc_eq]
    refine nw_if_eq (tgt := 1649) C dL_law_1644 (by decide) q2 (fun _ _ => ?_) (fun hn _ => absurd rfl hn)
    refine nw_goto (tgt := 2867) C dL_law_1649 (by decide) ?_
    exact nw_lv (lv' := [(0, .ref b), (1, .ref (ad 0)), (2, .ref (am 112)), (3, .ref ao), (4, .int x4)]) [2, 3, 4, 5, 6] rfl (k σ1 τ1 ta1 _ hI hp3 hp4)
  · have q2 : (if (if c0 = 0 then (0 : Int32) else 1) = 0 then none else some 1) = some 1 := if_neg (by rcases hc with rfl | rfl; exact absurd rfl h0; all_goals decide)
    refine nw_if_ne (tgt := 1649) C dL_law_1634 (by decide) q2 (fun _ h9 => by cases h9) (fun _ _ => ?_)
    refine nw_goto (tgt := 2867) C dL_law_1649 (by decide) ?_
    exact nw_lv (lv' := [(0, .ref b), (1, .ref (ad 0)), (2, .ref (am 112)), (3, .ref ao), (4, .int x4)]) [2, 3, 4, 5, 6] rfl (k σ1 τ1 ta1 _ hI hp3 hp4)
set_option maxHeartbeats 4000000 in
set_option maxRecDepth 100000 in
theorem lc_fine (C : Cx g p s m args meth c A 7 cL_law "ForestCourtsLaw") (hl : l.stackTraces = false) {Inv : CS → CS → Prop} {σ τ : CS} {b L ao : Nat} {xs : Nat → Int32} {x4 : Int32} {f : Nat → Int64} {cells slots : Nat} (hX : va_X b L xs s s.heap) (hbl : b < s.heap.size) (hbA : ¬ A b) (h1 : vp_in (x4 + 1) L) (hg : AgT Inv (f_FC_fine (xs (x4 + 1).toNatClampNeg) σ) (f_M_fine (xs (x4 + 1).toNatClampNeg) τ) (fun c0 => c0 = 0 ∨ c0 = 3) (fun c0 => (if c0 = 0 then (0 : Int32) else 1))) (hφ2 : ph σ.2.2 ≤ BB) (hcl : cells + (BB - ph σ.2.2 + 1) ≤ 601024) (hsl : slots + (2 * (BB - ph σ.2.2) + 6) ≤ 7293033)
    (k : ∀ (σ1 τ1 : CS) (ta1 : Nat → Nat) (f1 : Nat → Int64), Inv σ1 τ1 → ph σ.2.2 ≤ ph σ1.2.2 → ph σ1.2.2 ≤ BB → Nw g p l e room_1 s m args below meth c A Q 7 (cw g ad ta1 σ1 ++ (mw g am τ1 ++ [oWl g ao f1])) (cells + (ph σ1.2.2 - ph σ.2.2 + 1)) (slots + (2 * (ph σ1.2.2 - ph σ.2.2) + 6)) [(0, .ref b), (1, .ref (ad 0)), (2, .ref (am 112)), (3, .ref ao), (4, .int x4)] 2867 []) : Nw g p l e room_1 s m args below meth c A Q 7 (cw g ad ta σ ++ (mw g am τ ++ [oWl g ao f])) (cells) (slots) [(0, .ref b), (1, .ref (ad 0)), (2, .ref (am 112)), (3, .ref ao), (4, .int x4)] 1652 [] := by
  obtain ⟨c0, v0, σ1, b0, τ1, e1, hc, e2, e3, e4, hI⟩ := hg
  have hc : c0 = 0 ∨ c0 = 3 := hc
  have e3 : τ1.1 0 = (if c0 = 0 then (0 : Int32) else 1) := e3
  refine nw_aload_n C dL_law_1652 rfl 1 rfl ?_
  refine nw_aload_n C dL_law_1653 rfl 0 rfl ?_
  refine nw_iload C dL_law_1654 4 rfl ?_
  refine nw_iconst (v := 1) C dL_law_1656 (by decide) ?_
  refine nw_iadd C dL_law_1657 ?_
  refine nw_scr C hX hbl hbA h1 dL_law_1658 ?_
  refine nw_aload_n C dL_law_1659 rfl 3 rfl ?_
  refine nw_callSH (As := [.ref (ad 0)] ++ [.int (xs (x4 + 1).toNatClampNeg)] ++ [.ref ao]) (rest := []) C (z_fine hl e1 hc hφ2) tw_1374 tw_1375 tw_122 kh_L_fine.1 kh_L_fine.2.1 kh_L_fine.2.2 ⟨Nat.le_of_ble_eq_true rfl, Nat.le_of_ble_eq_true rfl⟩ ⟨hcl, hsl⟩ rfl dL_law_1660 rfl (Nat.le_of_ble_eq_true rfl) ?_
  rintro w ws1 ⟨rfl, ⟨ta1, rfl⟩, hp3, hp4⟩
  refine nw_istore (lv' := (5, .int (if c0 = 0 then (0 : Int32) else 1)) :: [(0, .ref b), (1, .ref (ad 0)), (2, .ref (am 112)), (3, .ref ao), (4, .int x4)]) C dL_law_1663 (by decide) rfl ?_
  refine nw_aload_n C dL_law_1665 rfl 3 rfl ?_
  refine nw_aload_n C dL_law_1666 rfl 1 rfl ?_
  refine nw_iload C dL_law_1667 5 rfl ?_
  refine nw_iconst (v := 1) C dL_law_1669 (by decide) ?_
  refine nw_iadd C dL_law_1670 ?_
  refine nw_scr C hX hbl hbA h1 dL_law_1671 ?_
  refine nz_model (As := [.int (xs (x4 + 1).toNatClampNeg)]) (rest := []) C (c_M_fine e2) tw_2239 kv_X12_fine ⟨Nat.le_of_ble_eq_true rfl, Nat.le_of_ble_eq_true rfl⟩ ⟨by show _ ≤ 601024; omega, by show _ ≤ 7293033; omega⟩ rfl dL_law_1672 rfl (Nat.le_of_ble_eq_true rfl) ?_
  refine nw_istore (lv' := (6, .int b0) :: (5, .int (if c0 = 0 then (0 : Int32) else 1)) :: [(0, .ref b), (1, .ref (ad 0)), (2, .ref (am 112)), (3, .ref ao), (4, .int x4)]) C dL_law_1675 (by decide) rfl ?_
  refine nw_aload_n C dL_law_1677 rfl 4 rfl ?_
  refine nz_model (r1 := τ1.1 0) (τ1 := τ1) (As := []) (rest := []) C (c_M_thrown rfl) tw_1910 kv_X12_thrown ⟨Nat.le_of_ble_eq_true rfl, Nat.le_of_ble_eq_true rfl⟩ ⟨by show _ ≤ 601024; omega, by show _ ≤ 7293033; omega⟩ rfl dL_law_1678 rfl (Nat.le_of_ble_eq_true rfl) ?_
  rw [e3]
  refine nw_iload C dL_law_1681 1 rfl ?_
  have q1 : (if (if c0 = 0 then (0 : Int32) else 1) = (if c0 = 0 then (0 : Int32) else 1) then some 1 else none) = some 1 := if_pos rfl
  refine nw_icmp_eq (tgt := 1688) C dL_law_1683 (by decide) q1 (fun _ _ => ?_) (fun hn _ => absurd rfl hn)
  refine nw_iload C dL_law_1688 1 rfl ?_
  by_cases h0 : c0 = 0
  · subst h0
    have e4 : v0 = b0 := e4 rfl
    subst e4
    have q2 : (if (0 : Int32) = 0 then some 1 else none) = some 1 := rfl
    refine nw_if_ne (tgt := 1705) C dL_law_1690 (by decide) q2 (fun _ _ => ?_) (fun hn _ => absurd rfl hn)
    refine nw_aload_n C dL_law_1693 rfl 5 rfl ?_
    refine nw_iconst (v := 0) C dL_law_1694 (by decide) ?_
    refine nw_lald C (60 + (mw g am τ1).length) oW_at dL_law_1695 (by unfold vp_in; decide) ?_
    refine nw_iload C dL_law_1696 0 rfl ?_
    refine nw_i2l C dL_law_1698 ?_
    refine nw_lcmp C dL_law_1699 ?_
    refine nw_st (st' := [.int (lg_cmp v0.toInt64 v0.toInt64)]) rfl ?_
    rw [lgc_eq]
    refine nw_if_eq (tgt := 1705) C dL_law_1700 (by decide) q2 (fun _ _ => ?_) (fun hn _ => absurd rfl hn)
    refine nw_goto (tgt := 2867) C dL_law_1705 (by decide) ?_
    exact nw_lv (lv' := [(0, .ref b), (1, .ref (ad 0)), (2, .ref (am 112)), (3, .ref ao), (4, .int x4)]) [2, 3, 4, 5, 6] rfl (k σ1 τ1 ta1 _ hI hp3 hp4)
  · have q2 : (if (if c0 = 0 then (0 : Int32) else 1) = 0 then none else some 1) = some 1 := if_neg (by rcases hc with rfl | rfl; exact absurd rfl h0; all_goals decide)
    refine nw_if_ne (tgt := 1705) C dL_law_1690 (by decide) q2 (fun _ h9 => by cases h9) (fun _ _ => ?_)
    refine nw_goto (tgt := 2867) C dL_law_1705 (by decide) ?_
    exact nw_lv (lv' := [(0, .ref b), (1, .ref (ad 0)), (2, .ref (am 112)), (3, .ref ao), (4, .int x4)]) [2, 3, 4, 5, 6] rfl (k σ1 τ1 ta1 _ hI hp3 hp4)
set_option maxHeartbeats 4000000 in
set_option maxRecDepth 100000 in
theorem lc_present (C : Cx g p s m args meth c A 7 cL_law "ForestCourtsLaw") (hl : l.stackTraces = false) {Inv : CS → CS → Prop} {σ τ : CS} {b L ao : Nat} {xs : Nat → Int32} {x4 : Int32} {f : Nat → Int64} {cells slots : Nat} (hX : va_X b L xs s s.heap) (hbl : b < s.heap.size) (hbA : ¬ A b) (h1 : vp_in (x4 + 1) L) (h2 : vp_in (x4 + 2) L) (h3 : vp_in (x4 + 3) L) (h4 : vp_in (x4 + 4) L) (hg : AgT Inv (f_FC_present (xs (x4 + 1).toNatClampNeg) (xs (x4 + 2).toNatClampNeg) (xs (x4 + 3).toNatClampNeg) (xs (x4 + 4).toNatClampNeg) σ) (f_M_present (xs (x4 + 1).toNatClampNeg) (xs (x4 + 2).toNatClampNeg) (xs (x4 + 3).toNatClampNeg) (xs (x4 + 4).toNatClampNeg) τ) (fun c0 => c0 = 0 ∨ c0 = 3) (fun c0 => (if c0 = 0 then (0 : Int32) else 1))) (hφ2 : ph σ.2.2 ≤ BB) (hcl : cells + (BB - ph σ.2.2 + 1) ≤ 601024) (hsl : slots + (2 * (BB - ph σ.2.2) + 6) ≤ 7293033)
    (k : ∀ (σ1 τ1 : CS) (ta1 : Nat → Nat) (f1 : Nat → Int64), Inv σ1 τ1 → ph σ.2.2 ≤ ph σ1.2.2 → ph σ1.2.2 ≤ BB → Nw g p l e room_1 s m args below meth c A Q 7 (cw g ad ta1 σ1 ++ (mw g am τ1 ++ [oWl g ao f1])) (cells + (ph σ1.2.2 - ph σ.2.2 + 1)) (slots + (2 * (ph σ1.2.2 - ph σ.2.2) + 6)) [(0, .ref b), (1, .ref (ad 0)), (2, .ref (am 112)), (3, .ref ao), (4, .int x4)] 2867 []) : Nw g p l e room_1 s m args below meth c A Q 7 (cw g ad ta σ ++ (mw g am τ ++ [oWl g ao f])) (cells) (slots) [(0, .ref b), (1, .ref (ad 0)), (2, .ref (am 112)), (3, .ref ao), (4, .int x4)] 1708 [] := by
  obtain ⟨c0, v0, σ1, b0, τ1, e1, hc, e2, e3, e4, hI⟩ := hg
  have hc : c0 = 0 ∨ c0 = 3 := hc
  have e3 : τ1.1 0 = (if c0 = 0 then (0 : Int32) else 1) := e3
  refine nw_aload_n C dL_law_1708 rfl 1 rfl ?_
  refine nw_aload_n C dL_law_1709 rfl 0 rfl ?_
  refine nw_iload C dL_law_1710 4 rfl ?_
  refine nw_iconst (v := 1) C dL_law_1712 (by decide) ?_
  refine nw_iadd C dL_law_1713 ?_
  refine nw_scr C hX hbl hbA h1 dL_law_1714 ?_
  refine nw_aload_n C dL_law_1715 rfl 0 rfl ?_
  refine nw_iload C dL_law_1716 4 rfl ?_
  refine nw_iconst (v := 2) C dL_law_1718 (by decide) ?_
  refine nw_iadd C dL_law_1719 ?_
  refine nw_scr C hX hbl hbA h2 dL_law_1720 ?_
  refine nw_aload_n C dL_law_1721 rfl 0 rfl ?_
  refine nw_iload C dL_law_1722 4 rfl ?_
  refine nw_iconst (v := 3) C dL_law_1724 (by decide) ?_
  refine nw_iadd C dL_law_1725 ?_
  refine nw_scr C hX hbl hbA h3 dL_law_1726 ?_
  refine nw_aload_n C dL_law_1727 rfl 0 rfl ?_
  refine nw_iload C dL_law_1728 4 rfl ?_
  refine nw_iconst (v := 4) C dL_law_1730 (by decide) ?_
  refine nw_iadd C dL_law_1731 ?_
  refine nw_scr C hX hbl hbA h4 dL_law_1732 ?_
  refine nw_aload_n C dL_law_1733 rfl 3 rfl ?_
  refine nw_callSH (As := [.ref (ad 0)] ++ [.int (xs (x4 + 1).toNatClampNeg), .int (xs (x4 + 2).toNatClampNeg), .int (xs (x4 + 3).toNatClampNeg), .int (xs (x4 + 4).toNatClampNeg)] ++ [.ref ao]) (rest := []) C (z_present hl e1 hc hφ2) tw_1382 tw_1383 tw_122 kh_L_present.1 kh_L_present.2.1 kh_L_present.2.2 ⟨Nat.le_of_ble_eq_true rfl, Nat.le_of_ble_eq_true rfl⟩ ⟨hcl, hsl⟩ rfl dL_law_1734 rfl (Nat.le_of_ble_eq_true rfl) ?_
  rintro w ws1 ⟨rfl, ⟨ta1, rfl⟩, hp3, hp4⟩
  refine nw_istore (lv' := (5, .int (if c0 = 0 then (0 : Int32) else 1)) :: [(0, .ref b), (1, .ref (ad 0)), (2, .ref (am 112)), (3, .ref ao), (4, .int x4)]) C dL_law_1737 (by decide) rfl ?_
  refine nw_aload_n C dL_law_1739 rfl 3 rfl ?_
  refine nw_aload_n C dL_law_1740 rfl 1 rfl ?_
  refine nw_iload C dL_law_1741 5 rfl ?_
  refine nw_iconst (v := 1) C dL_law_1743 (by decide) ?_
  refine nw_iadd C dL_law_1744 ?_
  refine nw_scr C hX hbl hbA h1 dL_law_1745 ?_
  refine nw_aload_n C dL_law_1746 rfl 1 rfl ?_
  refine nw_iload C dL_law_1747 5 rfl ?_
  refine nw_iconst (v := 2) C dL_law_1749 (by decide) ?_
  refine nw_iadd C dL_law_1750 ?_
  refine nw_scr C hX hbl hbA h2 dL_law_1751 ?_
  refine nw_aload_n C dL_law_1752 rfl 1 rfl ?_
  refine nw_iload C dL_law_1753 5 rfl ?_
  refine nw_iconst (v := 3) C dL_law_1755 (by decide) ?_
  refine nw_iadd C dL_law_1756 ?_
  refine nw_scr C hX hbl hbA h3 dL_law_1757 ?_
  refine nw_aload_n C dL_law_1758 rfl 1 rfl ?_
  refine nw_iload C dL_law_1759 5 rfl ?_
  refine nw_iconst (v := 4) C dL_law_1761 (by decide) ?_
  refine nw_iadd C dL_law_1762 ?_
  refine nw_scr C hX hbl hbA h4 dL_law_1763 ?_
  refine nz_model (As := [.int (xs (x4 + 1).toNatClampNeg), .int (xs (x4 + 2).toNatClampNeg), .int (xs (x4 + 3).toNatClampNeg), .int (xs (x4 + 4).toNatClampNeg)]) (rest := []) C (c_M_present e2) tw_2243 kv_X12_present ⟨Nat.le_of_ble_eq_true rfl, Nat.le_of_ble_eq_true rfl⟩ ⟨by show _ ≤ 601024; omega, by show _ ≤ 7293033; omega⟩ rfl dL_law_1764 rfl (Nat.le_of_ble_eq_true rfl) ?_
  refine nw_istore (lv' := (6, .int b0) :: (5, .int (if c0 = 0 then (0 : Int32) else 1)) :: [(0, .ref b), (1, .ref (ad 0)), (2, .ref (am 112)), (3, .ref ao), (4, .int x4)]) C dL_law_1767 (by decide) rfl ?_
  refine nw_aload_n C dL_law_1769 rfl 4 rfl ?_
  refine nz_model (r1 := τ1.1 0) (τ1 := τ1) (As := []) (rest := []) C (c_M_thrown rfl) tw_1910 kv_X12_thrown ⟨Nat.le_of_ble_eq_true rfl, Nat.le_of_ble_eq_true rfl⟩ ⟨by show _ ≤ 601024; omega, by show _ ≤ 7293033; omega⟩ rfl dL_law_1770 rfl (Nat.le_of_ble_eq_true rfl) ?_
  rw [e3]
  refine nw_iload C dL_law_1773 1 rfl ?_
  have q1 : (if (if c0 = 0 then (0 : Int32) else 1) = (if c0 = 0 then (0 : Int32) else 1) then some 1 else none) = some 1 := if_pos rfl
  refine nw_icmp_eq (tgt := 1780) C dL_law_1775 (by decide) q1 (fun _ _ => ?_) (fun hn _ => absurd rfl hn)
  refine nw_iload C dL_law_1780 1 rfl ?_
  by_cases h0 : c0 = 0
  · subst h0
    have e4 : v0 = b0 := e4 rfl
    subst e4
    have q2 : (if (0 : Int32) = 0 then some 1 else none) = some 1 := rfl
    refine nw_if_ne (tgt := 1797) C dL_law_1782 (by decide) q2 (fun _ _ => ?_) (fun hn _ => absurd rfl hn)
    refine nw_aload_n C dL_law_1785 rfl 5 rfl ?_
    refine nw_iconst (v := 0) C dL_law_1786 (by decide) ?_
    refine nw_lald C (60 + (mw g am τ1).length) oW_at dL_law_1787 (by unfold vp_in; decide) ?_
    refine nw_iload C dL_law_1788 0 rfl ?_
    refine nw_i2l C dL_law_1790 ?_
    refine nw_lcmp C dL_law_1791 ?_
    refine nw_st (st' := [.int (lg_cmp v0.toInt64 v0.toInt64)]) rfl ?_
    rw [lgc_eq]
    refine nw_if_eq (tgt := 1797) C dL_law_1792 (by decide) q2 (fun _ _ => ?_) (fun hn _ => absurd rfl hn)
    refine nw_goto (tgt := 2867) C dL_law_1797 (by decide) ?_
    exact nw_lv (lv' := [(0, .ref b), (1, .ref (ad 0)), (2, .ref (am 112)), (3, .ref ao), (4, .int x4)]) [2, 3, 4, 5, 6] rfl (k σ1 τ1 ta1 _ hI hp3 hp4)
  · have q2 : (if (if c0 = 0 then (0 : Int32) else 1) = 0 then none else some 1) = some 1 := if_neg (by rcases hc with rfl | rfl; exact absurd rfl h0; all_goals decide)
    refine nw_if_ne (tgt := 1797) C dL_law_1782 (by decide) q2 (fun _ h9 => by cases h9) (fun _ _ => ?_)
    refine nw_goto (tgt := 2867) C dL_law_1797 (by decide) ?_
    exact nw_lv (lv' := [(0, .ref b), (1, .ref (ad 0)), (2, .ref (am 112)), (3, .ref ao), (4, .int x4)]) [2, 3, 4, 5, 6] rfl (k σ1 τ1 ta1 _ hI hp3 hp4)
set_option maxHeartbeats 4000000 in
set_option maxRecDepth 100000 in
theorem lc_proof (C : Cx g p s m args meth c A 7 cL_law "ForestCourtsLaw") (hl : l.stackTraces = false) {Inv : CS → CS → Prop} {σ τ : CS} {b L ao : Nat} {xs : Nat → Int32} {x4 : Int32} {f : Nat → Int64} {cells slots : Nat} (hX : va_X b L xs s s.heap) (hbl : b < s.heap.size) (hbA : ¬ A b) (h1 : vp_in (x4 + 1) L) (h2 : vp_in (x4 + 2) L) (hg : AgT Inv (f_FC_proof (xs (x4 + 1).toNatClampNeg) (xs (x4 + 2).toNatClampNeg) σ) (f_M_proof (xs (x4 + 1).toNatClampNeg) (xs (x4 + 2).toNatClampNeg) τ) (fun c0 => c0 = 0 ∨ c0 = 3 ∨ c0 = 1) (fun c0 => (if c0 = 0 then (0 : Int32) else if c0 = 3 then 1 else 2))) (hφ2 : ph σ.2.2 ≤ BB) (hcl : cells + (BB - ph σ.2.2 + 1) ≤ 601024) (hsl : slots + (2 * (BB - ph σ.2.2) + 6) ≤ 7293033)
    (k : ∀ (σ1 τ1 : CS) (ta1 : Nat → Nat) (f1 : Nat → Int64), Inv σ1 τ1 → ph σ.2.2 ≤ ph σ1.2.2 → ph σ1.2.2 ≤ BB → Nw g p l e room_1 s m args below meth c A Q 7 (cw g ad ta1 σ1 ++ (mw g am τ1 ++ [oWl g ao f1])) (cells + (ph σ1.2.2 - ph σ.2.2 + 1)) (slots + (2 * (ph σ1.2.2 - ph σ.2.2) + 6)) [(0, .ref b), (1, .ref (ad 0)), (2, .ref (am 112)), (3, .ref ao), (4, .int x4)] 2867 []) : Nw g p l e room_1 s m args below meth c A Q 7 (cw g ad ta σ ++ (mw g am τ ++ [oWl g ao f])) (cells) (slots) [(0, .ref b), (1, .ref (ad 0)), (2, .ref (am 112)), (3, .ref ao), (4, .int x4)] 1800 [] := by
  obtain ⟨c0, v0, σ1, b0, τ1, e1, hc, e2, e3, e4, hI⟩ := hg
  have hc : c0 = 0 ∨ c0 = 3 ∨ c0 = 1 := hc
  have e3 : τ1.1 0 = (if c0 = 0 then (0 : Int32) else if c0 = 3 then 1 else 2) := e3
  refine nw_aload_n C dL_law_1800 rfl 1 rfl ?_
  refine nw_aload_n C dL_law_1801 rfl 0 rfl ?_
  refine nw_iload C dL_law_1802 4 rfl ?_
  refine nw_iconst (v := 1) C dL_law_1804 (by decide) ?_
  refine nw_iadd C dL_law_1805 ?_
  refine nw_scr C hX hbl hbA h1 dL_law_1806 ?_
  refine nw_aload_n C dL_law_1807 rfl 0 rfl ?_
  refine nw_iload C dL_law_1808 4 rfl ?_
  refine nw_iconst (v := 2) C dL_law_1810 (by decide) ?_
  refine nw_iadd C dL_law_1811 ?_
  refine nw_scr C hX hbl hbA h2 dL_law_1812 ?_
  refine nw_aload_n C dL_law_1813 rfl 3 rfl ?_
  refine nw_callSH (As := [.ref (ad 0)] ++ [.int (xs (x4 + 1).toNatClampNeg), .int (xs (x4 + 2).toNatClampNeg)] ++ [.ref ao]) (rest := []) C (z_proof hl e1 hc hφ2) tw_1395 tw_1396 tw_122 kh_L_proof.1 kh_L_proof.2.1 kh_L_proof.2.2 ⟨Nat.le_of_ble_eq_true rfl, Nat.le_of_ble_eq_true rfl⟩ ⟨hcl, hsl⟩ rfl dL_law_1814 rfl (Nat.le_of_ble_eq_true rfl) ?_
  rintro w ws1 ⟨rfl, ⟨ta1, rfl⟩, hp3, hp4⟩
  refine nw_istore (lv' := (5, .int (if c0 = 0 then (0 : Int32) else if c0 = 3 then 1 else 2)) :: [(0, .ref b), (1, .ref (ad 0)), (2, .ref (am 112)), (3, .ref ao), (4, .int x4)]) C dL_law_1817 (by decide) rfl ?_
  refine nw_aload_n C dL_law_1819 rfl 3 rfl ?_
  refine nw_aload_n C dL_law_1820 rfl 1 rfl ?_
  refine nw_iload C dL_law_1821 5 rfl ?_
  refine nw_iconst (v := 1) C dL_law_1823 (by decide) ?_
  refine nw_iadd C dL_law_1824 ?_
  refine nw_scr C hX hbl hbA h1 dL_law_1825 ?_
  refine nw_aload_n C dL_law_1826 rfl 1 rfl ?_
  refine nw_iload C dL_law_1827 5 rfl ?_
  refine nw_iconst (v := 2) C dL_law_1829 (by decide) ?_
  refine nw_iadd C dL_law_1830 ?_
  refine nw_scr C hX hbl hbA h2 dL_law_1831 ?_
  refine nz_model (As := [.int (xs (x4 + 1).toNatClampNeg), .int (xs (x4 + 2).toNatClampNeg)]) (rest := []) C (c_M_proof e2) tw_2247 kv_X12_proof ⟨Nat.le_of_ble_eq_true rfl, Nat.le_of_ble_eq_true rfl⟩ ⟨by show _ ≤ 601024; omega, by show _ ≤ 7293033; omega⟩ rfl dL_law_1832 rfl (Nat.le_of_ble_eq_true rfl) ?_
  refine nw_istore (lv' := (6, .int b0) :: (5, .int (if c0 = 0 then (0 : Int32) else if c0 = 3 then 1 else 2)) :: [(0, .ref b), (1, .ref (ad 0)), (2, .ref (am 112)), (3, .ref ao), (4, .int x4)]) C dL_law_1835 (by decide) rfl ?_
  refine nw_aload_n C dL_law_1837 rfl 4 rfl ?_
  refine nz_model (r1 := τ1.1 0) (τ1 := τ1) (As := []) (rest := []) C (c_M_thrown rfl) tw_1910 kv_X12_thrown ⟨Nat.le_of_ble_eq_true rfl, Nat.le_of_ble_eq_true rfl⟩ ⟨by show _ ≤ 601024; omega, by show _ ≤ 7293033; omega⟩ rfl dL_law_1838 rfl (Nat.le_of_ble_eq_true rfl) ?_
  rw [e3]
  refine nw_iload C dL_law_1841 1 rfl ?_
  have q1 : (if (if c0 = 0 then (0 : Int32) else if c0 = 3 then 1 else 2) = (if c0 = 0 then (0 : Int32) else if c0 = 3 then 1 else 2) then some 1 else none) = some 1 := if_pos rfl
  refine nw_icmp_eq (tgt := 1848) C dL_law_1843 (by decide) q1 (fun _ _ => ?_) (fun hn _ => absurd rfl hn)
  refine nw_iload C dL_law_1848 1 rfl ?_
  by_cases h0 : c0 = 0
  · subst h0
    have e4 : v0 = b0 := e4 rfl
    subst e4
    have q2 : (if (0 : Int32) = 0 then some 1 else none) = some 1 := rfl
    refine nw_if_ne (tgt := 1865) C dL_law_1850 (by decide) q2 (fun _ _ => ?_) (fun hn _ => absurd rfl hn)
    refine nw_aload_n C dL_law_1853 rfl 5 rfl ?_
    refine nw_iconst (v := 0) C dL_law_1854 (by decide) ?_
    refine nw_lald C (60 + (mw g am τ1).length) oW_at dL_law_1855 (by unfold vp_in; decide) ?_
    refine nw_iload C dL_law_1856 0 rfl ?_
    refine nw_i2l C dL_law_1858 ?_
    refine nw_lcmp C dL_law_1859 ?_
    refine nw_st (st' := [.int (lg_cmp v0.toInt64 v0.toInt64)]) rfl ?_
    rw [lgc_eq]
    refine nw_if_eq (tgt := 1865) C dL_law_1860 (by decide) q2 (fun _ _ => ?_) (fun hn _ => absurd rfl hn)
    refine nw_goto (tgt := 2867) C dL_law_1865 (by decide) ?_
    exact nw_lv (lv' := [(0, .ref b), (1, .ref (ad 0)), (2, .ref (am 112)), (3, .ref ao), (4, .int x4)]) [2, 3, 4, 5, 6] rfl (k σ1 τ1 ta1 _ hI hp3 hp4)
  · have q2 : (if (if c0 = 0 then (0 : Int32) else if c0 = 3 then 1 else 2) = 0 then none else some 1) = some 1 := if_neg (by rcases hc with rfl | rfl | rfl; exact absurd rfl h0; all_goals decide)
    refine nw_if_ne (tgt := 1865) C dL_law_1850 (by decide) q2 (fun _ h9 => by cases h9) (fun _ _ => ?_)
    refine nw_goto (tgt := 2867) C dL_law_1865 (by decide) ?_
    exact nw_lv (lv' := [(0, .ref b), (1, .ref (ad 0)), (2, .ref (am 112)), (3, .ref ao), (4, .int x4)]) [2, 3, 4, 5, 6] rfl (k σ1 τ1 ta1 _ hI hp3 hp4)
set_option maxHeartbeats 4000000 in
set_option maxRecDepth 100000 in
theorem lc_of (C : Cx g p s m args meth c A 7 cL_law "ForestCourtsLaw") (hl : l.stackTraces = false) {Inv : CS → CS → Prop} {σ τ : CS} {b L ao : Nat} {xs : Nat → Int32} {x4 : Int32} {f : Nat → Int64} {cells slots : Nat} (hX : va_X b L xs s s.heap) (hbl : b < s.heap.size) (hbA : ¬ A b) (h1 : vp_in (x4 + 1) L) (h2 : vp_in (x4 + 2) L) (hg : AgT Inv (f_FC_of (xs (x4 + 1).toNatClampNeg) (xs (x4 + 2).toNatClampNeg) σ) (f_M_of (xs (x4 + 1).toNatClampNeg) (xs (x4 + 2).toNatClampNeg) τ) (fun c0 => c0 = 0 ∨ c0 = 3 ∨ c0 = 1) (fun c0 => (if c0 = 0 then (0 : Int32) else if c0 = 3 then 1 else 2))) (hφ2 : ph σ.2.2 ≤ BB) (hcl : cells + (BB - ph σ.2.2 + 1) ≤ 601024) (hsl : slots + (2 * (BB - ph σ.2.2) + 6) ≤ 7293033)
    (k : ∀ (σ1 τ1 : CS) (ta1 : Nat → Nat) (f1 : Nat → Int64), Inv σ1 τ1 → ph σ.2.2 ≤ ph σ1.2.2 → ph σ1.2.2 ≤ BB → Nw g p l e room_1 s m args below meth c A Q 7 (cw g ad ta1 σ1 ++ (mw g am τ1 ++ [oWl g ao f1])) (cells + (ph σ1.2.2 - ph σ.2.2 + 1)) (slots + (2 * (ph σ1.2.2 - ph σ.2.2) + 6)) [(0, .ref b), (1, .ref (ad 0)), (2, .ref (am 112)), (3, .ref ao), (4, .int x4)] 2867 []) : Nw g p l e room_1 s m args below meth c A Q 7 (cw g ad ta σ ++ (mw g am τ ++ [oWl g ao f])) (cells) (slots) [(0, .ref b), (1, .ref (ad 0)), (2, .ref (am 112)), (3, .ref ao), (4, .int x4)] 1868 [] := by
  obtain ⟨c0, v0, σ1, b0, τ1, e1, hc, e2, e3, e4, hI⟩ := hg
  have hc : c0 = 0 ∨ c0 = 3 ∨ c0 = 1 := hc
  have e3 : τ1.1 0 = (if c0 = 0 then (0 : Int32) else if c0 = 3 then 1 else 2) := e3
  refine nw_aload_n C dL_law_1868 rfl 1 rfl ?_
  refine nw_aload_n C dL_law_1869 rfl 0 rfl ?_
  refine nw_iload C dL_law_1870 4 rfl ?_
  refine nw_iconst (v := 1) C dL_law_1872 (by decide) ?_
  refine nw_iadd C dL_law_1873 ?_
  refine nw_scr C hX hbl hbA h1 dL_law_1874 ?_
  refine nw_aload_n C dL_law_1875 rfl 0 rfl ?_
  refine nw_iload C dL_law_1876 4 rfl ?_
  refine nw_iconst (v := 2) C dL_law_1878 (by decide) ?_
  refine nw_iadd C dL_law_1879 ?_
  refine nw_scr C hX hbl hbA h2 dL_law_1880 ?_
  refine nw_aload_n C dL_law_1881 rfl 3 rfl ?_
  refine nw_callSH (As := [.ref (ad 0)] ++ [.int (xs (x4 + 1).toNatClampNeg), .int (xs (x4 + 2).toNatClampNeg)] ++ [.ref ao]) (rest := []) C (z_of hl e1 hc hφ2) tw_1406 tw_1407 tw_122 kh_L_of.1 kh_L_of.2.1 kh_L_of.2.2 ⟨Nat.le_of_ble_eq_true rfl, Nat.le_of_ble_eq_true rfl⟩ ⟨hcl, hsl⟩ rfl dL_law_1882 rfl (Nat.le_of_ble_eq_true rfl) ?_
  rintro w ws1 ⟨rfl, ⟨ta1, rfl⟩, hp3, hp4⟩
  refine nw_istore (lv' := (5, .int (if c0 = 0 then (0 : Int32) else if c0 = 3 then 1 else 2)) :: [(0, .ref b), (1, .ref (ad 0)), (2, .ref (am 112)), (3, .ref ao), (4, .int x4)]) C dL_law_1885 (by decide) rfl ?_
  refine nw_aload_n C dL_law_1887 rfl 3 rfl ?_
  refine nw_aload_n C dL_law_1888 rfl 1 rfl ?_
  refine nw_iload C dL_law_1889 5 rfl ?_
  refine nw_iconst (v := 1) C dL_law_1891 (by decide) ?_
  refine nw_iadd C dL_law_1892 ?_
  refine nw_scr C hX hbl hbA h1 dL_law_1893 ?_
  refine nw_aload_n C dL_law_1894 rfl 1 rfl ?_
  refine nw_iload C dL_law_1895 5 rfl ?_
  refine nw_iconst (v := 2) C dL_law_1897 (by decide) ?_
  refine nw_iadd C dL_law_1898 ?_
  refine nw_scr C hX hbl hbA h2 dL_law_1899 ?_
  refine nz_model (As := [.int (xs (x4 + 1).toNatClampNeg), .int (xs (x4 + 2).toNatClampNeg)]) (rest := []) C (c_M_of e2) tw_2255 kv_X12_of ⟨Nat.le_of_ble_eq_true rfl, Nat.le_of_ble_eq_true rfl⟩ ⟨by show _ ≤ 601024; omega, by show _ ≤ 7293033; omega⟩ rfl dL_law_1900 rfl (Nat.le_of_ble_eq_true rfl) ?_
  refine nw_istore (lv' := (6, .int b0) :: (5, .int (if c0 = 0 then (0 : Int32) else if c0 = 3 then 1 else 2)) :: [(0, .ref b), (1, .ref (ad 0)), (2, .ref (am 112)), (3, .ref ao), (4, .int x4)]) C dL_law_1903 (by decide) rfl ?_
  refine nw_aload_n C dL_law_1905 rfl 4 rfl ?_
  refine nz_model (r1 := τ1.1 0) (τ1 := τ1) (As := []) (rest := []) C (c_M_thrown rfl) tw_1910 kv_X12_thrown ⟨Nat.le_of_ble_eq_true rfl, Nat.le_of_ble_eq_true rfl⟩ ⟨by show _ ≤ 601024; omega, by show _ ≤ 7293033; omega⟩ rfl dL_law_1906 rfl (Nat.le_of_ble_eq_true rfl) ?_
  rw [e3]
  refine nw_iload C dL_law_1909 1 rfl ?_
  have q1 : (if (if c0 = 0 then (0 : Int32) else if c0 = 3 then 1 else 2) = (if c0 = 0 then (0 : Int32) else if c0 = 3 then 1 else 2) then some 1 else none) = some 1 := if_pos rfl
  refine nw_icmp_eq (tgt := 1916) C dL_law_1911 (by decide) q1 (fun _ _ => ?_) (fun hn _ => absurd rfl hn)
  refine nw_iload C dL_law_1916 1 rfl ?_
  by_cases h0 : c0 = 0
  · subst h0
    have e4 : v0 = b0 := e4 rfl
    subst e4
    have q2 : (if (0 : Int32) = 0 then some 1 else none) = some 1 := rfl
    refine nw_if_ne (tgt := 1933) C dL_law_1918 (by decide) q2 (fun _ _ => ?_) (fun hn _ => absurd rfl hn)
    refine nw_aload_n C dL_law_1921 rfl 5 rfl ?_
    refine nw_iconst (v := 0) C dL_law_1922 (by decide) ?_
    refine nw_lald C (60 + (mw g am τ1).length) oW_at dL_law_1923 (by unfold vp_in; decide) ?_
    refine nw_iload C dL_law_1924 0 rfl ?_
    refine nw_i2l C dL_law_1926 ?_
    refine nw_lcmp C dL_law_1927 ?_
    refine nw_st (st' := [.int (lg_cmp v0.toInt64 v0.toInt64)]) rfl ?_
    rw [lgc_eq]
    refine nw_if_eq (tgt := 1933) C dL_law_1928 (by decide) q2 (fun _ _ => ?_) (fun hn _ => absurd rfl hn)
    refine nw_goto (tgt := 2867) C dL_law_1933 (by decide) ?_
    exact nw_lv (lv' := [(0, .ref b), (1, .ref (ad 0)), (2, .ref (am 112)), (3, .ref ao), (4, .int x4)]) [2, 3, 4, 5, 6] rfl (k σ1 τ1 ta1 _ hI hp3 hp4)
  · have q2 : (if (if c0 = 0 then (0 : Int32) else if c0 = 3 then 1 else 2) = 0 then none else some 1) = some 1 := if_neg (by rcases hc with rfl | rfl | rfl; exact absurd rfl h0; all_goals decide)
    refine nw_if_ne (tgt := 1933) C dL_law_1918 (by decide) q2 (fun _ h9 => by cases h9) (fun _ _ => ?_)
    refine nw_goto (tgt := 2867) C dL_law_1933 (by decide) ?_
    exact nw_lv (lv' := [(0, .ref b), (1, .ref (ad 0)), (2, .ref (am 112)), (3, .ref ao), (4, .int x4)]) [2, 3, 4, 5, 6] rfl (k σ1 τ1 ta1 _ hI hp3 hp4)
set_option maxHeartbeats 4000000 in
set_option maxRecDepth 100000 in
theorem lc_claim (C : Cx g p s m args meth c A 7 cL_law "ForestCourtsLaw") (hl : l.stackTraces = false) {Inv : CS → CS → Prop} {σ τ : CS} {b L ao : Nat} {xs : Nat → Int32} {x4 : Int32} {f : Nat → Int64} {cells slots : Nat} (hX : va_X b L xs s s.heap) (hbl : b < s.heap.size) (hbA : ¬ A b) (h1 : vp_in (x4 + 1) L) (h2 : vp_in (x4 + 2) L) (h3 : vp_in (x4 + 3) L) (h4 : vp_in (x4 + 4) L) (hg : AgT Inv (f_FC_claim (xs (x4 + 1).toNatClampNeg) (xs (x4 + 2).toNatClampNeg) (xs (x4 + 3).toNatClampNeg) (xs (x4 + 4).toNatClampNeg) σ) (f_M_claim (xs (x4 + 1).toNatClampNeg) (xs (x4 + 2).toNatClampNeg) (xs (x4 + 3).toNatClampNeg) (xs (x4 + 4).toNatClampNeg) τ) (fun c0 => c0 = 0 ∨ c0 = 3 ∨ c0 = 1) (fun c0 => (if c0 = 0 then (0 : Int32) else if c0 = 3 then 1 else 2))) (hφ2 : ph σ.2.2 ≤ BB) (hcl : cells + (BB - ph σ.2.2 + 1) ≤ 601024) (hsl : slots + (2 * (BB - ph σ.2.2) + 6) ≤ 7293033)
    (k : ∀ (σ1 τ1 : CS) (ta1 : Nat → Nat) (f1 : Nat → Int64), Inv σ1 τ1 → ph σ.2.2 ≤ ph σ1.2.2 → ph σ1.2.2 ≤ BB → Nw g p l e room_1 s m args below meth c A Q 7 (cw g ad ta1 σ1 ++ (mw g am τ1 ++ [oWl g ao f1])) (cells + (ph σ1.2.2 - ph σ.2.2 + 1)) (slots + (2 * (ph σ1.2.2 - ph σ.2.2) + 6)) [(0, .ref b), (1, .ref (ad 0)), (2, .ref (am 112)), (3, .ref ao), (4, .int x4)] 2867 []) : Nw g p l e room_1 s m args below meth c A Q 7 (cw g ad ta σ ++ (mw g am τ ++ [oWl g ao f])) (cells) (slots) [(0, .ref b), (1, .ref (ad 0)), (2, .ref (am 112)), (3, .ref ao), (4, .int x4)] 1936 [] := by
  obtain ⟨c0, v0, σ1, b0, τ1, e1, hc, e2, e3, e4, hI⟩ := hg
  have hc : c0 = 0 ∨ c0 = 3 ∨ c0 = 1 := hc
  have e3 : τ1.1 0 = (if c0 = 0 then (0 : Int32) else if c0 = 3 then 1 else 2) := e3
  refine nw_aload_n C dL_law_1936 rfl 1 rfl ?_
  refine nw_aload_n C dL_law_1937 rfl 0 rfl ?_
  refine nw_iload C dL_law_1938 4 rfl ?_
  refine nw_iconst (v := 1) C dL_law_1940 (by decide) ?_
  refine nw_iadd C dL_law_1941 ?_
  refine nw_scr C hX hbl hbA h1 dL_law_1942 ?_
  refine nw_aload_n C dL_law_1943 rfl 0 rfl ?_
  refine nw_iload C dL_law_1944 4 rfl ?_
  refine nw_iconst (v := 2) C dL_law_1946 (by decide) ?_
  refine nw_iadd C dL_law_1947 ?_
  refine nw_scr C hX hbl hbA h2 dL_law_1948 ?_
  refine nw_aload_n C dL_law_1949 rfl 0 rfl ?_
  refine nw_iload C dL_law_1950 4 rfl ?_
  refine nw_iconst (v := 3) C dL_law_1952 (by decide) ?_
  refine nw_iadd C dL_law_1953 ?_
  refine nw_scr C hX hbl hbA h3 dL_law_1954 ?_
  refine nw_aload_n C dL_law_1955 rfl 0 rfl ?_
  refine nw_iload C dL_law_1956 4 rfl ?_
  refine nw_iconst (v := 4) C dL_law_1958 (by decide) ?_
  refine nw_iadd C dL_law_1959 ?_
  refine nw_scr C hX hbl hbA h4 dL_law_1960 ?_
  refine nw_aload_n C dL_law_1961 rfl 3 rfl ?_
  refine nw_callSH (As := [.ref (ad 0)] ++ [.int (xs (x4 + 1).toNatClampNeg), .int (xs (x4 + 2).toNatClampNeg), .int (xs (x4 + 3).toNatClampNeg), .int (xs (x4 + 4).toNatClampNeg)] ++ [.ref ao]) (rest := []) C (z_claim hl e1 hc hφ2) tw_1413 tw_1414 tw_122 kh_L_claim.1 kh_L_claim.2.1 kh_L_claim.2.2 ⟨Nat.le_of_ble_eq_true rfl, Nat.le_of_ble_eq_true rfl⟩ ⟨hcl, hsl⟩ rfl dL_law_1962 rfl (Nat.le_of_ble_eq_true rfl) ?_
  rintro w ws1 ⟨rfl, ⟨ta1, rfl⟩, hp3, hp4⟩
  refine nw_istore (lv' := (5, .int (if c0 = 0 then (0 : Int32) else if c0 = 3 then 1 else 2)) :: [(0, .ref b), (1, .ref (ad 0)), (2, .ref (am 112)), (3, .ref ao), (4, .int x4)]) C dL_law_1965 (by decide) rfl ?_
  refine nw_aload_n C dL_law_1967 rfl 3 rfl ?_
  refine nw_aload_n C dL_law_1968 rfl 1 rfl ?_
  refine nw_iload C dL_law_1969 5 rfl ?_
  refine nw_iconst (v := 1) C dL_law_1971 (by decide) ?_
  refine nw_iadd C dL_law_1972 ?_
  refine nw_scr C hX hbl hbA h1 dL_law_1973 ?_
  refine nw_aload_n C dL_law_1974 rfl 1 rfl ?_
  refine nw_iload C dL_law_1975 5 rfl ?_
  refine nw_iconst (v := 2) C dL_law_1977 (by decide) ?_
  refine nw_iadd C dL_law_1978 ?_
  refine nw_scr C hX hbl hbA h2 dL_law_1979 ?_
  refine nw_aload_n C dL_law_1980 rfl 1 rfl ?_
  refine nw_iload C dL_law_1981 5 rfl ?_
  refine nw_iconst (v := 3) C dL_law_1983 (by decide) ?_
  refine nw_iadd C dL_law_1984 ?_
  refine nw_scr C hX hbl hbA h3 dL_law_1985 ?_
  refine nw_aload_n C dL_law_1986 rfl 1 rfl ?_
  refine nw_iload C dL_law_1987 5 rfl ?_
  refine nw_iconst (v := 4) C dL_law_1989 (by decide) ?_
  refine nw_iadd C dL_law_1990 ?_
  refine nw_scr C hX hbl hbA h4 dL_law_1991 ?_
  refine nz_model (As := [.int (xs (x4 + 1).toNatClampNeg), .int (xs (x4 + 2).toNatClampNeg), .int (xs (x4 + 3).toNatClampNeg), .int (xs (x4 + 4).toNatClampNeg)]) (rest := []) C (c_M_claim e2) tw_2291 kv_X12_claim ⟨Nat.le_of_ble_eq_true rfl, Nat.le_of_ble_eq_true rfl⟩ ⟨by show _ ≤ 601024; omega, by show _ ≤ 7293033; omega⟩ rfl dL_law_1992 rfl (Nat.le_of_ble_eq_true rfl) ?_
  refine nw_istore (lv' := (6, .int b0) :: (5, .int (if c0 = 0 then (0 : Int32) else if c0 = 3 then 1 else 2)) :: [(0, .ref b), (1, .ref (ad 0)), (2, .ref (am 112)), (3, .ref ao), (4, .int x4)]) C dL_law_1995 (by decide) rfl ?_
  refine nw_aload_n C dL_law_1997 rfl 4 rfl ?_
  refine nz_model (r1 := τ1.1 0) (τ1 := τ1) (As := []) (rest := []) C (c_M_thrown rfl) tw_1910 kv_X12_thrown ⟨Nat.le_of_ble_eq_true rfl, Nat.le_of_ble_eq_true rfl⟩ ⟨by show _ ≤ 601024; omega, by show _ ≤ 7293033; omega⟩ rfl dL_law_1998 rfl (Nat.le_of_ble_eq_true rfl) ?_
  rw [e3]
  refine nw_iload C dL_law_2001 1 rfl ?_
  have q1 : (if (if c0 = 0 then (0 : Int32) else if c0 = 3 then 1 else 2) = (if c0 = 0 then (0 : Int32) else if c0 = 3 then 1 else 2) then some 1 else none) = some 1 := if_pos rfl
  refine nw_icmp_eq (tgt := 2008) C dL_law_2003 (by decide) q1 (fun _ _ => ?_) (fun hn _ => absurd rfl hn)
  refine nw_iload C dL_law_2008 1 rfl ?_
  by_cases h0 : c0 = 0
  · subst h0
    have e4 : v0 = b0 := e4 rfl
    subst e4
    have q2 : (if (0 : Int32) = 0 then some 1 else none) = some 1 := rfl
    refine nw_if_ne (tgt := 2025) C dL_law_2010 (by decide) q2 (fun _ _ => ?_) (fun hn _ => absurd rfl hn)
    refine nw_aload_n C dL_law_2013 rfl 5 rfl ?_
    refine nw_iconst (v := 0) C dL_law_2014 (by decide) ?_
    refine nw_lald C (60 + (mw g am τ1).length) oW_at dL_law_2015 (by unfold vp_in; decide) ?_
    refine nw_iload C dL_law_2016 0 rfl ?_
    refine nw_i2l C dL_law_2018 ?_
    refine nw_lcmp C dL_law_2019 ?_
    refine nw_st (st' := [.int (lg_cmp v0.toInt64 v0.toInt64)]) rfl ?_
    rw [lgc_eq]
    refine nw_if_eq (tgt := 2025) C dL_law_2020 (by decide) q2 (fun _ _ => ?_) (fun hn _ => absurd rfl hn)
    refine nw_goto (tgt := 2867) C dL_law_2025 (by decide) ?_
    exact nw_lv (lv' := [(0, .ref b), (1, .ref (ad 0)), (2, .ref (am 112)), (3, .ref ao), (4, .int x4)]) [2, 3, 4, 5, 6] rfl (k σ1 τ1 ta1 _ hI hp3 hp4)
  · have q2 : (if (if c0 = 0 then (0 : Int32) else if c0 = 3 then 1 else 2) = 0 then none else some 1) = some 1 := if_neg (by rcases hc with rfl | rfl | rfl; exact absurd rfl h0; all_goals decide)
    refine nw_if_ne (tgt := 2025) C dL_law_2010 (by decide) q2 (fun _ h9 => by cases h9) (fun _ _ => ?_)
    refine nw_goto (tgt := 2867) C dL_law_2025 (by decide) ?_
    exact nw_lv (lv' := [(0, .ref b), (1, .ref (ad 0)), (2, .ref (am 112)), (3, .ref ao), (4, .int x4)]) [2, 3, 4, 5, 6] rfl (k σ1 τ1 ta1 _ hI hp3 hp4)
set_option maxHeartbeats 4000000 in
set_option maxRecDepth 100000 in
theorem lc_use (C : Cx g p s m args meth c A 7 cL_law "ForestCourtsLaw") (hl : l.stackTraces = false) {Inv : CS → CS → Prop} {σ τ : CS} {b L ao : Nat} {xs : Nat → Int32} {x4 : Int32} {f : Nat → Int64} {cells slots : Nat} (hX : va_X b L xs s s.heap) (hbl : b < s.heap.size) (hbA : ¬ A b) (h1 : vp_in (x4 + 1) L) (h2 : vp_in (x4 + 2) L) (h3 : vp_in (x4 + 3) L) (hg : AgT Inv (f_FC_use (xs (x4 + 1).toNatClampNeg) (xs (x4 + 2).toNatClampNeg) (xs (x4 + 3).toNatClampNeg) σ) (f_M_use (xs (x4 + 1).toNatClampNeg) (xs (x4 + 2).toNatClampNeg) (xs (x4 + 3).toNatClampNeg) τ) (fun c0 => c0 = 0 ∨ c0 = 3 ∨ c0 = 1) (fun c0 => (if c0 = 0 then (0 : Int32) else if c0 = 3 then 1 else 2))) (hφ2 : ph σ.2.2 ≤ BB) (hcl : cells + (BB - ph σ.2.2 + 1) ≤ 601024) (hsl : slots + (2 * (BB - ph σ.2.2) + 6) ≤ 7293033)
    (k : ∀ (σ1 τ1 : CS) (ta1 : Nat → Nat) (f1 : Nat → Int64), Inv σ1 τ1 → ph σ.2.2 ≤ ph σ1.2.2 → ph σ1.2.2 ≤ BB → Nw g p l e room_1 s m args below meth c A Q 7 (cw g ad ta1 σ1 ++ (mw g am τ1 ++ [oWl g ao f1])) (cells + (ph σ1.2.2 - ph σ.2.2 + 1)) (slots + (2 * (ph σ1.2.2 - ph σ.2.2) + 6)) [(0, .ref b), (1, .ref (ad 0)), (2, .ref (am 112)), (3, .ref ao), (4, .int x4)] 2867 []) : Nw g p l e room_1 s m args below meth c A Q 7 (cw g ad ta σ ++ (mw g am τ ++ [oWl g ao f])) (cells) (slots) [(0, .ref b), (1, .ref (ad 0)), (2, .ref (am 112)), (3, .ref ao), (4, .int x4)] 2028 [] := by
  obtain ⟨c0, v0, σ1, b0, τ1, e1, hc, e2, e3, e4, hI⟩ := hg
  have hc : c0 = 0 ∨ c0 = 3 ∨ c0 = 1 := hc
  have e3 : τ1.1 0 = (if c0 = 0 then (0 : Int32) else if c0 = 3 then 1 else 2) := e3
  refine nw_aload_n C dL_law_2028 rfl 1 rfl ?_
  refine nw_aload_n C dL_law_2029 rfl 0 rfl ?_
  refine nw_iload C dL_law_2030 4 rfl ?_
  refine nw_iconst (v := 1) C dL_law_2032 (by decide) ?_
  refine nw_iadd C dL_law_2033 ?_
  refine nw_scr C hX hbl hbA h1 dL_law_2034 ?_
  refine nw_aload_n C dL_law_2035 rfl 0 rfl ?_
  refine nw_iload C dL_law_2036 4 rfl ?_
  refine nw_iconst (v := 2) C dL_law_2038 (by decide) ?_
  refine nw_iadd C dL_law_2039 ?_
  refine nw_scr C hX hbl hbA h2 dL_law_2040 ?_
  refine nw_aload_n C dL_law_2041 rfl 0 rfl ?_
  refine nw_iload C dL_law_2042 4 rfl ?_
  refine nw_iconst (v := 3) C dL_law_2044 (by decide) ?_
  refine nw_iadd C dL_law_2045 ?_
  refine nw_scr C hX hbl hbA h3 dL_law_2046 ?_
  refine nw_aload_n C dL_law_2047 rfl 3 rfl ?_
  refine nw_callSH (As := [.ref (ad 0)] ++ [.int (xs (x4 + 1).toNatClampNeg), .int (xs (x4 + 2).toNatClampNeg), .int (xs (x4 + 3).toNatClampNeg)] ++ [.ref ao]) (rest := []) C (z_use hl e1 hc hφ2) tw_1426 tw_1427 tw_122 kh_L_use.1 kh_L_use.2.1 kh_L_use.2.2 ⟨Nat.le_of_ble_eq_true rfl, Nat.le_of_ble_eq_true rfl⟩ ⟨hcl, hsl⟩ rfl dL_law_2048 rfl (Nat.le_of_ble_eq_true rfl) ?_
  rintro w ws1 ⟨rfl, ⟨ta1, rfl⟩, hp3, hp4⟩
  refine nw_istore (lv' := (5, .int (if c0 = 0 then (0 : Int32) else if c0 = 3 then 1 else 2)) :: [(0, .ref b), (1, .ref (ad 0)), (2, .ref (am 112)), (3, .ref ao), (4, .int x4)]) C dL_law_2051 (by decide) rfl ?_
  refine nw_aload_n C dL_law_2053 rfl 3 rfl ?_
  refine nw_aload_n C dL_law_2054 rfl 1 rfl ?_
  refine nw_iload C dL_law_2055 5 rfl ?_
  refine nw_iconst (v := 1) C dL_law_2057 (by decide) ?_
  refine nw_iadd C dL_law_2058 ?_
  refine nw_scr C hX hbl hbA h1 dL_law_2059 ?_
  refine nw_aload_n C dL_law_2060 rfl 1 rfl ?_
  refine nw_iload C dL_law_2061 5 rfl ?_
  refine nw_iconst (v := 2) C dL_law_2063 (by decide) ?_
  refine nw_iadd C dL_law_2064 ?_
  refine nw_scr C hX hbl hbA h2 dL_law_2065 ?_
  refine nw_aload_n C dL_law_2066 rfl 1 rfl ?_
  refine nw_iload C dL_law_2067 5 rfl ?_
  refine nw_iconst (v := 3) C dL_law_2069 (by decide) ?_
  refine nw_iadd C dL_law_2070 ?_
  refine nw_scr C hX hbl hbA h3 dL_law_2071 ?_
  refine nz_model (As := [.int (xs (x4 + 1).toNatClampNeg), .int (xs (x4 + 2).toNatClampNeg), .int (xs (x4 + 3).toNatClampNeg)]) (rest := []) C (c_M_use e2) tw_2295 kv_X12_use ⟨Nat.le_of_ble_eq_true rfl, Nat.le_of_ble_eq_true rfl⟩ ⟨by show _ ≤ 601024; omega, by show _ ≤ 7293033; omega⟩ rfl dL_law_2072 rfl (Nat.le_of_ble_eq_true rfl) ?_
  refine nw_istore (lv' := (6, .int b0) :: (5, .int (if c0 = 0 then (0 : Int32) else if c0 = 3 then 1 else 2)) :: [(0, .ref b), (1, .ref (ad 0)), (2, .ref (am 112)), (3, .ref ao), (4, .int x4)]) C dL_law_2075 (by decide) rfl ?_
  refine nw_aload_n C dL_law_2077 rfl 4 rfl ?_
  refine nz_model (r1 := τ1.1 0) (τ1 := τ1) (As := []) (rest := []) C (c_M_thrown rfl) tw_1910 kv_X12_thrown ⟨Nat.le_of_ble_eq_true rfl, Nat.le_of_ble_eq_true rfl⟩ ⟨by show _ ≤ 601024; omega, by show _ ≤ 7293033; omega⟩ rfl dL_law_2078 rfl (Nat.le_of_ble_eq_true rfl) ?_
  rw [e3]
  refine nw_iload C dL_law_2081 1 rfl ?_
  have q1 : (if (if c0 = 0 then (0 : Int32) else if c0 = 3 then 1 else 2) = (if c0 = 0 then (0 : Int32) else if c0 = 3 then 1 else 2) then some 1 else none) = some 1 := if_pos rfl
  refine nw_icmp_eq (tgt := 2088) C dL_law_2083 (by decide) q1 (fun _ _ => ?_) (fun hn _ => absurd rfl hn)
  refine nw_iload C dL_law_2088 1 rfl ?_
  by_cases h0 : c0 = 0
  · subst h0
    have e4 : v0 = b0 := e4 rfl
    subst e4
    have q2 : (if (0 : Int32) = 0 then some 1 else none) = some 1 := rfl
    refine nw_if_ne (tgt := 2105) C dL_law_2090 (by decide) q2 (fun _ _ => ?_) (fun hn _ => absurd rfl hn)
    refine nw_aload_n C dL_law_2093 rfl 5 rfl ?_
    refine nw_iconst (v := 0) C dL_law_2094 (by decide) ?_
    refine nw_lald C (60 + (mw g am τ1).length) oW_at dL_law_2095 (by unfold vp_in; decide) ?_
    refine nw_iload C dL_law_2096 0 rfl ?_
    refine nw_i2l C dL_law_2098 ?_
    refine nw_lcmp C dL_law_2099 ?_
    refine nw_st (st' := [.int (lg_cmp v0.toInt64 v0.toInt64)]) rfl ?_
    rw [lgc_eq]
    refine nw_if_eq (tgt := 2105) C dL_law_2100 (by decide) q2 (fun _ _ => ?_) (fun hn _ => absurd rfl hn)
    refine nw_goto (tgt := 2867) C dL_law_2105 (by decide) ?_
    exact nw_lv (lv' := [(0, .ref b), (1, .ref (ad 0)), (2, .ref (am 112)), (3, .ref ao), (4, .int x4)]) [2, 3, 4, 5, 6] rfl (k σ1 τ1 ta1 _ hI hp3 hp4)
  · have q2 : (if (if c0 = 0 then (0 : Int32) else if c0 = 3 then 1 else 2) = 0 then none else some 1) = some 1 := if_neg (by rcases hc with rfl | rfl | rfl; exact absurd rfl h0; all_goals decide)
    refine nw_if_ne (tgt := 2105) C dL_law_2090 (by decide) q2 (fun _ h9 => by cases h9) (fun _ _ => ?_)
    refine nw_goto (tgt := 2867) C dL_law_2105 (by decide) ?_
    exact nw_lv (lv' := [(0, .ref b), (1, .ref (ad 0)), (2, .ref (am 112)), (3, .ref ao), (4, .int x4)]) [2, 3, 4, 5, 6] rfl (k σ1 τ1 ta1 _ hI hp3 hp4)
set_option maxHeartbeats 4000000 in
set_option maxRecDepth 100000 in
theorem lc_sure (C : Cx g p s m args meth c A 7 cL_law "ForestCourtsLaw") (hl : l.stackTraces = false) {Inv : CS → CS → Prop} {σ τ : CS} {b L ao : Nat} {xs : Nat → Int32} {x4 : Int32} {f : Nat → Int64} {cells slots : Nat} (hX : va_X b L xs s s.heap) (hbl : b < s.heap.size) (hbA : ¬ A b) (h1 : vp_in (x4 + 1) L) (h2 : vp_in (x4 + 2) L) (hg : AgT Inv (f_FC_sure (xs (x4 + 1).toNatClampNeg) (xs (x4 + 2).toNatClampNeg) σ) (f_M_sure (xs (x4 + 1).toNatClampNeg) (xs (x4 + 2).toNatClampNeg) τ) (fun c0 => c0 = 0 ∨ c0 = 3 ∨ c0 = 1) (fun c0 => (if c0 = 0 then (0 : Int32) else if c0 = 3 then 1 else 2))) (hφ2 : ph σ.2.2 ≤ BB) (hcl : cells + (BB - ph σ.2.2 + 1) ≤ 601024) (hsl : slots + (2 * (BB - ph σ.2.2) + 6) ≤ 7293033)
    (k : ∀ (σ1 τ1 : CS) (ta1 : Nat → Nat) (f1 : Nat → Int64), Inv σ1 τ1 → ph σ.2.2 ≤ ph σ1.2.2 → ph σ1.2.2 ≤ BB → Nw g p l e room_1 s m args below meth c A Q 7 (cw g ad ta1 σ1 ++ (mw g am τ1 ++ [oWl g ao f1])) (cells + (ph σ1.2.2 - ph σ.2.2 + 1)) (slots + (2 * (ph σ1.2.2 - ph σ.2.2) + 6)) [(0, .ref b), (1, .ref (ad 0)), (2, .ref (am 112)), (3, .ref ao), (4, .int x4)] 2867 []) : Nw g p l e room_1 s m args below meth c A Q 7 (cw g ad ta σ ++ (mw g am τ ++ [oWl g ao f])) (cells) (slots) [(0, .ref b), (1, .ref (ad 0)), (2, .ref (am 112)), (3, .ref ao), (4, .int x4)] 2108 [] := by
  obtain ⟨c0, v0, σ1, b0, τ1, e1, hc, e2, e3, e4, hI⟩ := hg
  have hc : c0 = 0 ∨ c0 = 3 ∨ c0 = 1 := hc
  have e3 : τ1.1 0 = (if c0 = 0 then (0 : Int32) else if c0 = 3 then 1 else 2) := e3
  refine nw_aload_n C dL_law_2108 rfl 1 rfl ?_
  refine nw_aload_n C dL_law_2109 rfl 0 rfl ?_
  refine nw_iload C dL_law_2110 4 rfl ?_
  refine nw_iconst (v := 1) C dL_law_2112 (by decide) ?_
  refine nw_iadd C dL_law_2113 ?_
  refine nw_scr C hX hbl hbA h1 dL_law_2114 ?_
  refine nw_aload_n C dL_law_2115 rfl 0 rfl ?_
  refine nw_iload C dL_law_2116 4 rfl ?_
  refine nw_iconst (v := 2) C dL_law_2118 (by decide) ?_
  refine nw_iadd C dL_law_2119 ?_
  refine nw_scr C hX hbl hbA h2 dL_law_2120 ?_
  refine nw_aload_n C dL_law_2121 rfl 3 rfl ?_
  refine nw_callSH (As := [.ref (ad 0)] ++ [.int (xs (x4 + 1).toNatClampNeg), .int (xs (x4 + 2).toNatClampNeg)] ++ [.ref ao]) (rest := []) C (z_sure hl e1 hc hφ2) tw_1438 tw_1439 tw_122 kh_L_sure.1 kh_L_sure.2.1 kh_L_sure.2.2 ⟨Nat.le_of_ble_eq_true rfl, Nat.le_of_ble_eq_true rfl⟩ ⟨hcl, hsl⟩ rfl dL_law_2122 rfl (Nat.le_of_ble_eq_true rfl) ?_
  rintro w ws1 ⟨rfl, ⟨ta1, rfl⟩, hp3, hp4⟩
  refine nw_istore (lv' := (5, .int (if c0 = 0 then (0 : Int32) else if c0 = 3 then 1 else 2)) :: [(0, .ref b), (1, .ref (ad 0)), (2, .ref (am 112)), (3, .ref ao), (4, .int x4)]) C dL_law_2125 (by decide) rfl ?_
  refine nw_aload_n C dL_law_2127 rfl 3 rfl ?_
  refine nw_aload_n C dL_law_2128 rfl 1 rfl ?_
  refine nw_iload C dL_law_2129 5 rfl ?_
  refine nw_iconst (v := 1) C dL_law_2131 (by decide) ?_
  refine nw_iadd C dL_law_2132 ?_
  refine nw_scr C hX hbl hbA h1 dL_law_2133 ?_
  refine nw_aload_n C dL_law_2134 rfl 1 rfl ?_
  refine nw_iload C dL_law_2135 5 rfl ?_
  refine nw_iconst (v := 2) C dL_law_2137 (by decide) ?_
  refine nw_iadd C dL_law_2138 ?_
  refine nw_scr C hX hbl hbA h2 dL_law_2139 ?_
  refine nz_model (As := [.int (xs (x4 + 1).toNatClampNeg), .int (xs (x4 + 2).toNatClampNeg)]) (rest := []) C (c_M_sure e2) tw_2299 kv_X12_sure ⟨Nat.le_of_ble_eq_true rfl, Nat.le_of_ble_eq_true rfl⟩ ⟨by show _ ≤ 601024; omega, by show _ ≤ 7293033; omega⟩ rfl dL_law_2140 rfl (Nat.le_of_ble_eq_true rfl) ?_
  refine nw_istore (lv' := (6, .int b0) :: (5, .int (if c0 = 0 then (0 : Int32) else if c0 = 3 then 1 else 2)) :: [(0, .ref b), (1, .ref (ad 0)), (2, .ref (am 112)), (3, .ref ao), (4, .int x4)]) C dL_law_2143 (by decide) rfl ?_
  refine nw_aload_n C dL_law_2145 rfl 4 rfl ?_
  refine nz_model (r1 := τ1.1 0) (τ1 := τ1) (As := []) (rest := []) C (c_M_thrown rfl) tw_1910 kv_X12_thrown ⟨Nat.le_of_ble_eq_true rfl, Nat.le_of_ble_eq_true rfl⟩ ⟨by show _ ≤ 601024; omega, by show _ ≤ 7293033; omega⟩ rfl dL_law_2146 rfl (Nat.le_of_ble_eq_true rfl) ?_
  rw [e3]
  refine nw_iload C dL_law_2149 1 rfl ?_
  have q1 : (if (if c0 = 0 then (0 : Int32) else if c0 = 3 then 1 else 2) = (if c0 = 0 then (0 : Int32) else if c0 = 3 then 1 else 2) then some 1 else none) = some 1 := if_pos rfl
  refine nw_icmp_eq (tgt := 2156) C dL_law_2151 (by decide) q1 (fun _ _ => ?_) (fun hn _ => absurd rfl hn)
  refine nw_iload C dL_law_2156 1 rfl ?_
  by_cases h0 : c0 = 0
  · subst h0
    have e4 : v0 = b0 := e4 rfl
    subst e4
    have q2 : (if (0 : Int32) = 0 then some 1 else none) = some 1 := rfl
    refine nw_if_ne (tgt := 2173) C dL_law_2158 (by decide) q2 (fun _ _ => ?_) (fun hn _ => absurd rfl hn)
    refine nw_aload_n C dL_law_2161 rfl 5 rfl ?_
    refine nw_iconst (v := 0) C dL_law_2162 (by decide) ?_
    refine nw_lald C (60 + (mw g am τ1).length) oW_at dL_law_2163 (by unfold vp_in; decide) ?_
    refine nw_iload C dL_law_2164 0 rfl ?_
    refine nw_i2l C dL_law_2166 ?_
    refine nw_lcmp C dL_law_2167 ?_
    refine nw_st (st' := [.int (lg_cmp v0.toInt64 v0.toInt64)]) rfl ?_
    rw [lgc_eq]
    refine nw_if_eq (tgt := 2173) C dL_law_2168 (by decide) q2 (fun _ _ => ?_) (fun hn _ => absurd rfl hn)
    refine nw_goto (tgt := 2867) C dL_law_2173 (by decide) ?_
    exact nw_lv (lv' := [(0, .ref b), (1, .ref (ad 0)), (2, .ref (am 112)), (3, .ref ao), (4, .int x4)]) [2, 3, 4, 5, 6] rfl (k σ1 τ1 ta1 _ hI hp3 hp4)
  · have q2 : (if (if c0 = 0 then (0 : Int32) else if c0 = 3 then 1 else 2) = 0 then none else some 1) = some 1 := if_neg (by rcases hc with rfl | rfl | rfl; exact absurd rfl h0; all_goals decide)
    refine nw_if_ne (tgt := 2173) C dL_law_2158 (by decide) q2 (fun _ h9 => by cases h9) (fun _ _ => ?_)
    refine nw_goto (tgt := 2867) C dL_law_2173 (by decide) ?_
    exact nw_lv (lv' := [(0, .ref b), (1, .ref (ad 0)), (2, .ref (am 112)), (3, .ref ao), (4, .int x4)]) [2, 3, 4, 5, 6] rfl (k σ1 τ1 ta1 _ hI hp3 hp4)
set_option maxHeartbeats 4000000 in
set_option maxRecDepth 100000 in
theorem lc_enter (C : Cx g p s m args meth c A 7 cL_law "ForestCourtsLaw") (hl : l.stackTraces = false) {Inv : CS → CS → Prop} {σ τ : CS} {b L ao : Nat} {xs : Nat → Int32} {x4 : Int32} {f : Nat → Int64} {cells slots : Nat} (hX : va_X b L xs s s.heap) (hbl : b < s.heap.size) (hbA : ¬ A b) (h1 : vp_in (x4 + 1) L) (h2 : vp_in (x4 + 2) L) (h3 : vp_in (x4 + 3) L) (hg : AgT Inv (f_FC_enter (xs (x4 + 1).toNatClampNeg) (xs (x4 + 2).toNatClampNeg) (xs (x4 + 3).toNatClampNeg) σ) (f_M_enter (xs (x4 + 1).toNatClampNeg) (xs (x4 + 2).toNatClampNeg) (xs (x4 + 3).toNatClampNeg) τ) (fun c0 => c0 = 0 ∨ c0 = 3 ∨ c0 = 1) (fun c0 => (if c0 = 0 then (0 : Int32) else if c0 = 3 then 1 else 2))) (hφ2 : ph σ.2.2 ≤ BB) (hcl : cells + (BB - ph σ.2.2 + 1) ≤ 601024) (hsl : slots + (2 * (BB - ph σ.2.2) + 6) ≤ 7293033)
    (k : ∀ (σ1 τ1 : CS) (ta1 : Nat → Nat) (f1 : Nat → Int64), Inv σ1 τ1 → ph σ.2.2 ≤ ph σ1.2.2 → ph σ1.2.2 ≤ BB → Nw g p l e room_1 s m args below meth c A Q 7 (cw g ad ta1 σ1 ++ (mw g am τ1 ++ [oWl g ao f1])) (cells + (ph σ1.2.2 - ph σ.2.2 + 1)) (slots + (2 * (ph σ1.2.2 - ph σ.2.2) + 6)) [(0, .ref b), (1, .ref (ad 0)), (2, .ref (am 112)), (3, .ref ao), (4, .int x4)] 2867 []) : Nw g p l e room_1 s m args below meth c A Q 7 (cw g ad ta σ ++ (mw g am τ ++ [oWl g ao f])) (cells) (slots) [(0, .ref b), (1, .ref (ad 0)), (2, .ref (am 112)), (3, .ref ao), (4, .int x4)] 2176 [] := by
  obtain ⟨c0, v0, σ1, b0, τ1, e1, hc, e2, e3, e4, hI⟩ := hg
  have hc : c0 = 0 ∨ c0 = 3 ∨ c0 = 1 := hc
  have e3 : τ1.1 0 = (if c0 = 0 then (0 : Int32) else if c0 = 3 then 1 else 2) := e3
  refine nw_aload_n C dL_law_2176 rfl 1 rfl ?_
  refine nw_aload_n C dL_law_2177 rfl 0 rfl ?_
  refine nw_iload C dL_law_2178 4 rfl ?_
  refine nw_iconst (v := 1) C dL_law_2180 (by decide) ?_
  refine nw_iadd C dL_law_2181 ?_
  refine nw_scr C hX hbl hbA h1 dL_law_2182 ?_
  refine nw_aload_n C dL_law_2183 rfl 0 rfl ?_
  refine nw_iload C dL_law_2184 4 rfl ?_
  refine nw_iconst (v := 2) C dL_law_2186 (by decide) ?_
  refine nw_iadd C dL_law_2187 ?_
  refine nw_scr C hX hbl hbA h2 dL_law_2188 ?_
  refine nw_aload_n C dL_law_2189 rfl 0 rfl ?_
  refine nw_iload C dL_law_2190 4 rfl ?_
  refine nw_iconst (v := 3) C dL_law_2192 (by decide) ?_
  refine nw_iadd C dL_law_2193 ?_
  refine nw_scr C hX hbl hbA h3 dL_law_2194 ?_
  refine nw_aload_n C dL_law_2195 rfl 3 rfl ?_
  refine nw_callSH (As := [.ref (ad 0)] ++ [.int (xs (x4 + 1).toNatClampNeg), .int (xs (x4 + 2).toNatClampNeg), .int (xs (x4 + 3).toNatClampNeg)] ++ [.ref ao]) (rest := []) C (z_enter hl e1 hc hφ2) tw_1446 tw_1447 tw_122 kh_L_enter.1 kh_L_enter.2.1 kh_L_enter.2.2 ⟨Nat.le_of_ble_eq_true rfl, Nat.le_of_ble_eq_true rfl⟩ ⟨hcl, hsl⟩ rfl dL_law_2196 rfl (Nat.le_of_ble_eq_true rfl) ?_
  rintro w ws1 ⟨rfl, ⟨ta1, rfl⟩, hp3, hp4⟩
  refine nw_istore (lv' := (5, .int (if c0 = 0 then (0 : Int32) else if c0 = 3 then 1 else 2)) :: [(0, .ref b), (1, .ref (ad 0)), (2, .ref (am 112)), (3, .ref ao), (4, .int x4)]) C dL_law_2199 (by decide) rfl ?_
  refine nw_aload_n C dL_law_2201 rfl 3 rfl ?_
  refine nw_aload_n C dL_law_2202 rfl 1 rfl ?_
  refine nw_iload C dL_law_2203 5 rfl ?_
  refine nw_iconst (v := 1) C dL_law_2205 (by decide) ?_
  refine nw_iadd C dL_law_2206 ?_
  refine nw_scr C hX hbl hbA h1 dL_law_2207 ?_
  refine nw_aload_n C dL_law_2208 rfl 1 rfl ?_
  refine nw_iload C dL_law_2209 5 rfl ?_
  refine nw_iconst (v := 2) C dL_law_2211 (by decide) ?_
  refine nw_iadd C dL_law_2212 ?_
  refine nw_scr C hX hbl hbA h2 dL_law_2213 ?_
  refine nw_aload_n C dL_law_2214 rfl 1 rfl ?_
  refine nw_iload C dL_law_2215 5 rfl ?_
  refine nw_iconst (v := 3) C dL_law_2217 (by decide) ?_
  refine nw_iadd C dL_law_2218 ?_
  refine nw_scr C hX hbl hbA h3 dL_law_2219 ?_
  refine nz_model (As := [.int (xs (x4 + 1).toNatClampNeg), .int (xs (x4 + 2).toNatClampNeg), .int (xs (x4 + 3).toNatClampNeg)]) (rest := []) C (c_M_enter e2) tw_2303 kv_X12_enter ⟨Nat.le_of_ble_eq_true rfl, Nat.le_of_ble_eq_true rfl⟩ ⟨by show _ ≤ 601024; omega, by show _ ≤ 7293033; omega⟩ rfl dL_law_2220 rfl (Nat.le_of_ble_eq_true rfl) ?_
  refine nw_istore (lv' := (6, .int b0) :: (5, .int (if c0 = 0 then (0 : Int32) else if c0 = 3 then 1 else 2)) :: [(0, .ref b), (1, .ref (ad 0)), (2, .ref (am 112)), (3, .ref ao), (4, .int x4)]) C dL_law_2223 (by decide) rfl ?_
  refine nw_aload_n C dL_law_2225 rfl 4 rfl ?_
  refine nz_model (r1 := τ1.1 0) (τ1 := τ1) (As := []) (rest := []) C (c_M_thrown rfl) tw_1910 kv_X12_thrown ⟨Nat.le_of_ble_eq_true rfl, Nat.le_of_ble_eq_true rfl⟩ ⟨by show _ ≤ 601024; omega, by show _ ≤ 7293033; omega⟩ rfl dL_law_2226 rfl (Nat.le_of_ble_eq_true rfl) ?_
  rw [e3]
  refine nw_iload C dL_law_2229 1 rfl ?_
  have q1 : (if (if c0 = 0 then (0 : Int32) else if c0 = 3 then 1 else 2) = (if c0 = 0 then (0 : Int32) else if c0 = 3 then 1 else 2) then some 1 else none) = some 1 := if_pos rfl
  refine nw_icmp_eq (tgt := 2236) C dL_law_2231 (by decide) q1 (fun _ _ => ?_) (fun hn _ => absurd rfl hn)
  refine nw_iload C dL_law_2236 1 rfl ?_
  by_cases h0 : c0 = 0
  · subst h0
    have e4 : v0 = b0 := e4 rfl
    subst e4
    have q2 : (if (0 : Int32) = 0 then some 1 else none) = some 1 := rfl
    refine nw_if_ne (tgt := 2253) C dL_law_2238 (by decide) q2 (fun _ _ => ?_) (fun hn _ => absurd rfl hn)
    refine nw_aload_n C dL_law_2241 rfl 5 rfl ?_
    refine nw_iconst (v := 0) C dL_law_2242 (by decide) ?_
    refine nw_lald C (60 + (mw g am τ1).length) oW_at dL_law_2243 (by unfold vp_in; decide) ?_
    refine nw_iload C dL_law_2244 0 rfl ?_
    refine nw_i2l C dL_law_2246 ?_
    refine nw_lcmp C dL_law_2247 ?_
    refine nw_st (st' := [.int (lg_cmp v0.toInt64 v0.toInt64)]) rfl ?_
    rw [lgc_eq]
    refine nw_if_eq (tgt := 2253) C dL_law_2248 (by decide) q2 (fun _ _ => ?_) (fun hn _ => absurd rfl hn)
    refine nw_goto (tgt := 2867) C dL_law_2253 (by decide) ?_
    exact nw_lv (lv' := [(0, .ref b), (1, .ref (ad 0)), (2, .ref (am 112)), (3, .ref ao), (4, .int x4)]) [2, 3, 4, 5, 6] rfl (k σ1 τ1 ta1 _ hI hp3 hp4)
  · have q2 : (if (if c0 = 0 then (0 : Int32) else if c0 = 3 then 1 else 2) = 0 then none else some 1) = some 1 := if_neg (by rcases hc with rfl | rfl | rfl; exact absurd rfl h0; all_goals decide)
    refine nw_if_ne (tgt := 2253) C dL_law_2238 (by decide) q2 (fun _ h9 => by cases h9) (fun _ _ => ?_)
    refine nw_goto (tgt := 2867) C dL_law_2253 (by decide) ?_
    exact nw_lv (lv' := [(0, .ref b), (1, .ref (ad 0)), (2, .ref (am 112)), (3, .ref ao), (4, .int x4)]) [2, 3, 4, 5, 6] rfl (k σ1 τ1 ta1 _ hI hp3 hp4)
set_option maxHeartbeats 4000000 in
set_option maxRecDepth 100000 in
theorem lc_quarrel (C : Cx g p s m args meth c A 7 cL_law "ForestCourtsLaw") (hl : l.stackTraces = false) {Inv : CS → CS → Prop} {σ τ : CS} {b L ao : Nat} {xs : Nat → Int32} {x4 : Int32} {f : Nat → Int64} {cells slots : Nat} (hX : va_X b L xs s s.heap) (hbl : b < s.heap.size) (hbA : ¬ A b)  (hg : AgN Inv (f_FC_quarrel  σ) (f_M_quarrel  τ)) (hφ2 : ph σ.2.2 ≤ BB) (hcl : cells + (BB - ph σ.2.2 + 1) ≤ 601024) (hsl : slots + (2 * (BB - ph σ.2.2) + 6) ≤ 7293033)
    (k : ∀ (σ1 τ1 : CS) (ta1 : Nat → Nat) (f1 : Nat → Int64), Inv σ1 τ1 → ph σ.2.2 ≤ ph σ1.2.2 → ph σ1.2.2 ≤ BB → Nw g p l e room_1 s m args below meth c A Q 7 (cw g ad ta1 σ1 ++ (mw g am τ1 ++ [oWl g ao f1])) (cells + (ph σ1.2.2 - ph σ.2.2 + 1)) (slots + (2 * (ph σ1.2.2 - ph σ.2.2) + 6)) [(0, .ref b), (1, .ref (ad 0)), (2, .ref (am 112)), (3, .ref ao), (4, .int x4)] 2867 []) : Nw g p l e room_1 s m args below meth c A Q 7 (cw g ad ta σ ++ (mw g am τ ++ [oWl g ao f])) (cells) (slots) [(0, .ref b), (1, .ref (ad 0)), (2, .ref (am 112)), (3, .ref ao), (4, .int x4)] 2256 [] := by
  obtain ⟨v0, σ1, τ1, e1, e2, hI⟩ := hg
  refine nw_aload_n C dL_law_2256 rfl 1 rfl ?_
  refine nw_callV (q0 := 0) (As := []) (rest := []) C (c_FC_quarrel e1 hφ2) tw_571 kv_X11_quarrel.1 kv_X11_quarrel.2.1 kv_X11_quarrel.2.2.1 kv_X11_quarrel.2.2.2.1 kv_X11_quarrel.2.2.2.2.1 kv_X11_quarrel.2.2.2.2.2 cl_FC rfl ⟨Nat.le_of_ble_eq_true rfl, Nat.le_of_ble_eq_true rfl⟩ ⟨by show _ ≤ 601024; omega, by show _ ≤ 7293033; omega⟩ rfl dL_law_2257 rfl (Nat.le_of_ble_eq_true rfl) ?_
  rintro w ws1 ⟨rfl, ⟨ta1, rfl⟩, hp3, hp4⟩
  refine nw_aload_n C dL_law_2260 rfl 2 rfl ?_
  refine nz_model (As := []) (rest := [.int v0]) C (c_M_quarrel e2) tw_2307 kv_X12_quarrel ⟨Nat.le_of_ble_eq_true rfl, Nat.le_of_ble_eq_true rfl⟩ ⟨by show _ ≤ 601024; omega, by show _ ≤ 7293033; omega⟩ rfl dL_law_2261 rfl (Nat.le_of_ble_eq_true rfl) ?_
  have q1 : (if v0 = v0 then some 1 else none) = some 1 := if_pos rfl
  refine nw_icmp_eq (tgt := 2867) C dL_law_2264 (by decide) q1 (fun _ _ => ?_) (fun hn _ => absurd rfl hn)
  exact nw_widen (by omega) (by omega) (k σ1 τ1 ta1 _ hI hp3 hp4)
set_option maxHeartbeats 4000000 in
set_option maxRecDepth 100000 in
theorem lc_joined (C : Cx g p s m args meth c A 7 cL_law "ForestCourtsLaw") (hl : l.stackTraces = false) {Inv : CS → CS → Prop} {σ τ : CS} {b L ao : Nat} {xs : Nat → Int32} {x4 : Int32} {f : Nat → Int64} {cells slots : Nat} (hX : va_X b L xs s s.heap) (hbl : b < s.heap.size) (hbA : ¬ A b) (h1 : vp_in (x4 + 1) L) (h2 : vp_in (x4 + 2) L) (hg : AgT Inv (f_FC_joined (xs (x4 + 1).toNatClampNeg) (xs (x4 + 2).toNatClampNeg) σ) (f_M_joined (xs (x4 + 1).toNatClampNeg) (xs (x4 + 2).toNatClampNeg) τ) (fun c0 => c0 = 0 ∨ c0 = 1) (fun c0 => (if c0 = 0 then (0 : Int32) else 1))) (hφ2 : ph σ.2.2 ≤ BB) (hcl : cells + (BB - ph σ.2.2 + 1) ≤ 601024) (hsl : slots + (2 * (BB - ph σ.2.2) + 6) ≤ 7293033)
    (k : ∀ (σ1 τ1 : CS) (ta1 : Nat → Nat) (f1 : Nat → Int64), Inv σ1 τ1 → ph σ.2.2 ≤ ph σ1.2.2 → ph σ1.2.2 ≤ BB → Nw g p l e room_1 s m args below meth c A Q 7 (cw g ad ta1 σ1 ++ (mw g am τ1 ++ [oWl g ao f1])) (cells + (ph σ1.2.2 - ph σ.2.2 + 1)) (slots + (2 * (ph σ1.2.2 - ph σ.2.2) + 6)) [(0, .ref b), (1, .ref (ad 0)), (2, .ref (am 112)), (3, .ref ao), (4, .int x4)] 2867 []) : Nw g p l e room_1 s m args below meth c A Q 7 (cw g ad ta σ ++ (mw g am τ ++ [oWl g ao f])) (cells) (slots) [(0, .ref b), (1, .ref (ad 0)), (2, .ref (am 112)), (3, .ref ao), (4, .int x4)] 2269 [] := by
  obtain ⟨c0, v0, σ1, b0, τ1, e1, hc, e2, e3, e4, hI⟩ := hg
  have hc : c0 = 0 ∨ c0 = 1 := hc
  have e3 : τ1.1 0 = (if c0 = 0 then (0 : Int32) else 1) := e3
  refine nw_aload_n C dL_law_2269 rfl 1 rfl ?_
  refine nw_aload_n C dL_law_2270 rfl 0 rfl ?_
  refine nw_iload C dL_law_2271 4 rfl ?_
  refine nw_iconst (v := 1) C dL_law_2273 (by decide) ?_
  refine nw_iadd C dL_law_2274 ?_
  refine nw_scr C hX hbl hbA h1 dL_law_2275 ?_
  refine nw_aload_n C dL_law_2276 rfl 0 rfl ?_
  refine nw_iload C dL_law_2277 4 rfl ?_
  refine nw_iconst (v := 2) C dL_law_2279 (by decide) ?_
  refine nw_iadd C dL_law_2280 ?_
  refine nw_scr C hX hbl hbA h2 dL_law_2281 ?_
  refine nw_aload_n C dL_law_2282 rfl 3 rfl ?_
  refine nw_callSH (As := [.ref (ad 0)] ++ [.int (xs (x4 + 1).toNatClampNeg), .int (xs (x4 + 2).toNatClampNeg)] ++ [.ref ao]) (rest := []) C (z_joined hl e1 hc hφ2) tw_1459 tw_1460 tw_122 kh_L_joined.1 kh_L_joined.2.1 kh_L_joined.2.2 ⟨Nat.le_of_ble_eq_true rfl, Nat.le_of_ble_eq_true rfl⟩ ⟨hcl, hsl⟩ rfl dL_law_2283 rfl (Nat.le_of_ble_eq_true rfl) ?_
  rintro w ws1 ⟨rfl, ⟨ta1, rfl⟩, hp3, hp4⟩
  refine nw_istore (lv' := (5, .int (if c0 = 0 then (0 : Int32) else 1)) :: [(0, .ref b), (1, .ref (ad 0)), (2, .ref (am 112)), (3, .ref ao), (4, .int x4)]) C dL_law_2286 (by decide) rfl ?_
  refine nw_aload_n C dL_law_2288 rfl 3 rfl ?_
  refine nw_aload_n C dL_law_2289 rfl 1 rfl ?_
  refine nw_iload C dL_law_2290 5 rfl ?_
  refine nw_iconst (v := 1) C dL_law_2292 (by decide) ?_
  refine nw_iadd C dL_law_2293 ?_
  refine nw_scr C hX hbl hbA h1 dL_law_2294 ?_
  refine nw_aload_n C dL_law_2295 rfl 1 rfl ?_
  refine nw_iload C dL_law_2296 5 rfl ?_
  refine nw_iconst (v := 2) C dL_law_2298 (by decide) ?_
  refine nw_iadd C dL_law_2299 ?_
  refine nw_scr C hX hbl hbA h2 dL_law_2300 ?_
  refine nz_model (As := [.int (xs (x4 + 1).toNatClampNeg), .int (xs (x4 + 2).toNatClampNeg)]) (rest := []) C (c_M_joined e2) tw_2327 kv_X12_joined ⟨Nat.le_of_ble_eq_true rfl, Nat.le_of_ble_eq_true rfl⟩ ⟨by show _ ≤ 601024; omega, by show _ ≤ 7293033; omega⟩ rfl dL_law_2301 rfl (Nat.le_of_ble_eq_true rfl) ?_
  refine nw_istore (lv' := (6, .int b0) :: (5, .int (if c0 = 0 then (0 : Int32) else 1)) :: [(0, .ref b), (1, .ref (ad 0)), (2, .ref (am 112)), (3, .ref ao), (4, .int x4)]) C dL_law_2304 (by decide) rfl ?_
  refine nw_aload_n C dL_law_2306 rfl 4 rfl ?_
  refine nz_model (r1 := τ1.1 0) (τ1 := τ1) (As := []) (rest := []) C (c_M_thrown rfl) tw_1910 kv_X12_thrown ⟨Nat.le_of_ble_eq_true rfl, Nat.le_of_ble_eq_true rfl⟩ ⟨by show _ ≤ 601024; omega, by show _ ≤ 7293033; omega⟩ rfl dL_law_2307 rfl (Nat.le_of_ble_eq_true rfl) ?_
  rw [e3]
  refine nw_iload C dL_law_2310 1 rfl ?_
  have q1 : (if (if c0 = 0 then (0 : Int32) else 1) = (if c0 = 0 then (0 : Int32) else 1) then some 1 else none) = some 1 := if_pos rfl
  refine nw_icmp_eq (tgt := 2317) C dL_law_2312 (by decide) q1 (fun _ _ => ?_) (fun hn _ => absurd rfl hn)
  refine nw_iload C dL_law_2317 1 rfl ?_
  by_cases h0 : c0 = 0
  · subst h0
    have e4 : v0 = b0 := e4 rfl
    subst e4
    have q2 : (if (0 : Int32) = 0 then some 1 else none) = some 1 := rfl
    refine nw_if_ne (tgt := 2334) C dL_law_2319 (by decide) q2 (fun _ _ => ?_) (fun hn _ => absurd rfl hn)
    refine nw_aload_n C dL_law_2322 rfl 5 rfl ?_
    refine nw_iconst (v := 0) C dL_law_2323 (by decide) ?_
    refine nw_lald C (60 + (mw g am τ1).length) oW_at dL_law_2324 (by unfold vp_in; decide) ?_
    refine nw_iload C dL_law_2325 0 rfl ?_
    refine nw_i2l C dL_law_2327 ?_
    refine nw_lcmp C dL_law_2328 ?_
    refine nw_st (st' := [.int (lg_cmp v0.toInt64 v0.toInt64)]) rfl ?_
    rw [lgc_eq]
    refine nw_if_eq (tgt := 2334) C dL_law_2329 (by decide) q2 (fun _ _ => ?_) (fun hn _ => absurd rfl hn)
    refine nw_goto (tgt := 2867) C dL_law_2334 (by decide) ?_
    exact nw_lv (lv' := [(0, .ref b), (1, .ref (ad 0)), (2, .ref (am 112)), (3, .ref ao), (4, .int x4)]) [2, 3, 4, 5, 6] rfl (k σ1 τ1 ta1 _ hI hp3 hp4)
  · have q2 : (if (if c0 = 0 then (0 : Int32) else 1) = 0 then none else some 1) = some 1 := if_neg (by rcases hc with rfl | rfl; exact absurd rfl h0; all_goals decide)
    refine nw_if_ne (tgt := 2334) C dL_law_2319 (by decide) q2 (fun _ h9 => by cases h9) (fun _ _ => ?_)
    refine nw_goto (tgt := 2867) C dL_law_2334 (by decide) ?_
    exact nw_lv (lv' := [(0, .ref b), (1, .ref (ad 0)), (2, .ref (am 112)), (3, .ref ao), (4, .int x4)]) [2, 3, 4, 5, 6] rfl (k σ1 τ1 ta1 _ hI hp3 hp4)
set_option maxHeartbeats 4000000 in
set_option maxRecDepth 100000 in
theorem lc_lodge (C : Cx g p s m args meth c A 7 cL_law "ForestCourtsLaw") (hl : l.stackTraces = false) {Inv : CS → CS → Prop} {σ τ : CS} {b L ao : Nat} {xs : Nat → Int32} {x4 : Int32} {f : Nat → Int64} {cells slots : Nat} (hX : va_X b L xs s s.heap) (hbl : b < s.heap.size) (hbA : ¬ A b) (h1 : vp_in (x4 + 1) L) (h2 : vp_in (x4 + 2) L) (h3 : vp_in (x4 + 3) L) (h4 : vp_in (x4 + 4) L) (hg : AgT Inv (f_FC_lodge (xs (x4 + 1).toNatClampNeg) (xs (x4 + 2).toNatClampNeg) (xs (x4 + 3).toNatClampNeg) (xs (x4 + 4).toNatClampNeg) σ) (f_M_lodge (xs (x4 + 1).toNatClampNeg) (xs (x4 + 2).toNatClampNeg) (xs (x4 + 3).toNatClampNeg) (xs (x4 + 4).toNatClampNeg) τ) (fun c0 => c0 = 0 ∨ c0 = 3 ∨ c0 = 1) (fun c0 => (if c0 = 0 then (0 : Int32) else if c0 = 3 then 1 else 2))) (hφ2 : ph σ.2.2 ≤ BB) (hcl : cells + (BB - ph σ.2.2 + 1) ≤ 601024) (hsl : slots + (2 * (BB - ph σ.2.2) + 6) ≤ 7293033)
    (k : ∀ (σ1 τ1 : CS) (ta1 : Nat → Nat) (f1 : Nat → Int64), Inv σ1 τ1 → ph σ.2.2 ≤ ph σ1.2.2 → ph σ1.2.2 ≤ BB → Nw g p l e room_1 s m args below meth c A Q 7 (cw g ad ta1 σ1 ++ (mw g am τ1 ++ [oWl g ao f1])) (cells + (ph σ1.2.2 - ph σ.2.2 + 1)) (slots + (2 * (ph σ1.2.2 - ph σ.2.2) + 6)) [(0, .ref b), (1, .ref (ad 0)), (2, .ref (am 112)), (3, .ref ao), (4, .int x4)] 2867 []) : Nw g p l e room_1 s m args below meth c A Q 7 (cw g ad ta σ ++ (mw g am τ ++ [oWl g ao f])) (cells) (slots) [(0, .ref b), (1, .ref (ad 0)), (2, .ref (am 112)), (3, .ref ao), (4, .int x4)] 2337 [] := by
  obtain ⟨c0, v0, σ1, b0, τ1, e1, hc, e2, e3, e4, hI⟩ := hg
  have hc : c0 = 0 ∨ c0 = 3 ∨ c0 = 1 := hc
  have e3 : τ1.1 0 = (if c0 = 0 then (0 : Int32) else if c0 = 3 then 1 else 2) := e3
  refine nw_aload_n C dL_law_2337 rfl 1 rfl ?_
  refine nw_aload_n C dL_law_2338 rfl 0 rfl ?_
  refine nw_iload C dL_law_2339 4 rfl ?_
  refine nw_iconst (v := 1) C dL_law_2341 (by decide) ?_
  refine nw_iadd C dL_law_2342 ?_
  refine nw_scr C hX hbl hbA h1 dL_law_2343 ?_
  refine nw_aload_n C dL_law_2344 rfl 0 rfl ?_
  refine nw_iload C dL_law_2345 4 rfl ?_
  refine nw_iconst (v := 2) C dL_law_2347 (by decide) ?_
  refine nw_iadd C dL_law_2348 ?_
  refine nw_scr C hX hbl hbA h2 dL_law_2349 ?_
  refine nw_aload_n C dL_law_2350 rfl 0 rfl ?_
  refine nw_iload C dL_law_2351 4 rfl ?_
  refine nw_iconst (v := 3) C dL_law_2353 (by decide) ?_
  refine nw_iadd C dL_law_2354 ?_
  refine nw_scr C hX hbl hbA h3 dL_law_2355 ?_
  refine nw_aload_n C dL_law_2356 rfl 0 rfl ?_
  refine nw_iload C dL_law_2357 4 rfl ?_
  refine nw_iconst (v := 4) C dL_law_2359 (by decide) ?_
  refine nw_iadd C dL_law_2360 ?_
  refine nw_scr C hX hbl hbA h4 dL_law_2361 ?_
  refine nw_aload_n C dL_law_2362 rfl 3 rfl ?_
  refine nw_callSH (As := [.ref (ad 0)] ++ [.int (xs (x4 + 1).toNatClampNeg), .int (xs (x4 + 2).toNatClampNeg), .int (xs (x4 + 3).toNatClampNeg), .int (xs (x4 + 4).toNatClampNeg)] ++ [.ref ao]) (rest := []) C (z_lodge hl e1 hc hφ2) tw_1480 tw_1481 tw_122 kh_L_lodge.1 kh_L_lodge.2.1 kh_L_lodge.2.2 ⟨Nat.le_of_ble_eq_true rfl, Nat.le_of_ble_eq_true rfl⟩ ⟨hcl, hsl⟩ rfl dL_law_2363 rfl (Nat.le_of_ble_eq_true rfl) ?_
  rintro w ws1 ⟨rfl, ⟨ta1, rfl⟩, hp3, hp4⟩
  refine nw_istore (lv' := (5, .int (if c0 = 0 then (0 : Int32) else if c0 = 3 then 1 else 2)) :: [(0, .ref b), (1, .ref (ad 0)), (2, .ref (am 112)), (3, .ref ao), (4, .int x4)]) C dL_law_2366 (by decide) rfl ?_
  refine nw_aload_n C dL_law_2368 rfl 3 rfl ?_
  refine nw_aload_n C dL_law_2369 rfl 1 rfl ?_
  refine nw_iload C dL_law_2370 5 rfl ?_
  refine nw_iconst (v := 1) C dL_law_2372 (by decide) ?_
  refine nw_iadd C dL_law_2373 ?_
  refine nw_scr C hX hbl hbA h1 dL_law_2374 ?_
  refine nw_aload_n C dL_law_2375 rfl 1 rfl ?_
  refine nw_iload C dL_law_2376 5 rfl ?_
  refine nw_iconst (v := 2) C dL_law_2378 (by decide) ?_
  refine nw_iadd C dL_law_2379 ?_
  refine nw_scr C hX hbl hbA h2 dL_law_2380 ?_
  refine nw_aload_n C dL_law_2381 rfl 1 rfl ?_
  refine nw_iload C dL_law_2382 5 rfl ?_
  refine nw_iconst (v := 3) C dL_law_2384 (by decide) ?_
  refine nw_iadd C dL_law_2385 ?_
  refine nw_scr C hX hbl hbA h3 dL_law_2386 ?_
  refine nw_aload_n C dL_law_2387 rfl 1 rfl ?_
  refine nw_iload C dL_law_2388 5 rfl ?_
  refine nw_iconst (v := 4) C dL_law_2390 (by decide) ?_
  refine nw_iadd C dL_law_2391 ?_
  refine nw_scr C hX hbl hbA h4 dL_law_2392 ?_
  refine nz_model (As := [.int (xs (x4 + 1).toNatClampNeg), .int (xs (x4 + 2).toNatClampNeg), .int (xs (x4 + 3).toNatClampNeg), .int (xs (x4 + 4).toNatClampNeg)]) (rest := []) C (c_M_lodge e2) tw_2339 kv_X12_lodge ⟨Nat.le_of_ble_eq_true rfl, Nat.le_of_ble_eq_true rfl⟩ ⟨by show _ ≤ 601024; omega, by show _ ≤ 7293033; omega⟩ rfl dL_law_2393 rfl (Nat.le_of_ble_eq_true rfl) ?_
  refine nw_istore (lv' := (6, .int b0) :: (5, .int (if c0 = 0 then (0 : Int32) else if c0 = 3 then 1 else 2)) :: [(0, .ref b), (1, .ref (ad 0)), (2, .ref (am 112)), (3, .ref ao), (4, .int x4)]) C dL_law_2396 (by decide) rfl ?_
  refine nw_aload_n C dL_law_2398 rfl 4 rfl ?_
  refine nz_model (r1 := τ1.1 0) (τ1 := τ1) (As := []) (rest := []) C (c_M_thrown rfl) tw_1910 kv_X12_thrown ⟨Nat.le_of_ble_eq_true rfl, Nat.le_of_ble_eq_true rfl⟩ ⟨by show _ ≤ 601024; omega, by show _ ≤ 7293033; omega⟩ rfl dL_law_2399 rfl (Nat.le_of_ble_eq_true rfl) ?_
  rw [e3]
  refine nw_iload C dL_law_2402 1 rfl ?_
  have q1 : (if (if c0 = 0 then (0 : Int32) else if c0 = 3 then 1 else 2) = (if c0 = 0 then (0 : Int32) else if c0 = 3 then 1 else 2) then some 1 else none) = some 1 := if_pos rfl
  refine nw_icmp_eq (tgt := 2409) C dL_law_2404 (by decide) q1 (fun _ _ => ?_) (fun hn _ => absurd rfl hn)
  refine nw_iload C dL_law_2409 1 rfl ?_
  by_cases h0 : c0 = 0
  · subst h0
    have e4 : v0 = b0 := e4 rfl
    subst e4
    have q2 : (if (0 : Int32) = 0 then some 1 else none) = some 1 := rfl
    refine nw_if_ne (tgt := 2426) C dL_law_2411 (by decide) q2 (fun _ _ => ?_) (fun hn _ => absurd rfl hn)
    refine nw_aload_n C dL_law_2414 rfl 5 rfl ?_
    refine nw_iconst (v := 0) C dL_law_2415 (by decide) ?_
    refine nw_lald C (60 + (mw g am τ1).length) oW_at dL_law_2416 (by unfold vp_in; decide) ?_
    refine nw_iload C dL_law_2417 0 rfl ?_
    refine nw_i2l C dL_law_2419 ?_
    refine nw_lcmp C dL_law_2420 ?_
    refine nw_st (st' := [.int (lg_cmp v0.toInt64 v0.toInt64)]) rfl ?_
    rw [lgc_eq]
    refine nw_if_eq (tgt := 2426) C dL_law_2421 (by decide) q2 (fun _ _ => ?_) (fun hn _ => absurd rfl hn)
    refine nw_goto (tgt := 2867) C dL_law_2426 (by decide) ?_
    exact nw_lv (lv' := [(0, .ref b), (1, .ref (ad 0)), (2, .ref (am 112)), (3, .ref ao), (4, .int x4)]) [2, 3, 4, 5, 6] rfl (k σ1 τ1 ta1 _ hI hp3 hp4)
  · have q2 : (if (if c0 = 0 then (0 : Int32) else if c0 = 3 then 1 else 2) = 0 then none else some 1) = some 1 := if_neg (by rcases hc with rfl | rfl | rfl; exact absurd rfl h0; all_goals decide)
    refine nw_if_ne (tgt := 2426) C dL_law_2411 (by decide) q2 (fun _ h9 => by cases h9) (fun _ _ => ?_)
    refine nw_goto (tgt := 2867) C dL_law_2426 (by decide) ?_
    exact nw_lv (lv' := [(0, .ref b), (1, .ref (ad 0)), (2, .ref (am 112)), (3, .ref ao), (4, .int x4)]) [2, 3, 4, 5, 6] rfl (k σ1 τ1 ta1 _ hI hp3 hp4)
set_option maxHeartbeats 4000000 in
set_option maxRecDepth 100000 in
theorem lc_spot (C : Cx g p s m args meth c A 7 cL_law "ForestCourtsLaw") (hl : l.stackTraces = false) {Inv : CS → CS → Prop} {σ τ : CS} {b L ao : Nat} {xs : Nat → Int32} {x4 : Int32} {f : Nat → Int64} {cells slots : Nat} (hX : va_X b L xs s s.heap) (hbl : b < s.heap.size) (hbA : ¬ A b) (h1 : vp_in (x4 + 1) L) (h2 : vp_in (x4 + 2) L) (h3 : vp_in (x4 + 3) L) (hg : AgT Inv (f_FC_spot (xs (x4 + 1).toNatClampNeg) (xs (x4 + 2).toNatClampNeg) (xs (x4 + 3).toNatClampNeg) σ) (f_M_spot (xs (x4 + 1).toNatClampNeg) (xs (x4 + 2).toNatClampNeg) (xs (x4 + 3).toNatClampNeg) τ) (fun c0 => c0 = 0 ∨ c0 = 1) (fun c0 => (if c0 = 0 then (0 : Int32) else 1))) (hφ2 : ph σ.2.2 ≤ BB) (hcl : cells + (BB - ph σ.2.2 + 1) ≤ 601024) (hsl : slots + (2 * (BB - ph σ.2.2) + 6) ≤ 7293033)
    (k : ∀ (σ1 τ1 : CS) (ta1 : Nat → Nat) (f1 : Nat → Int64), Inv σ1 τ1 → ph σ.2.2 ≤ ph σ1.2.2 → ph σ1.2.2 ≤ BB → Nw g p l e room_1 s m args below meth c A Q 7 (cw g ad ta1 σ1 ++ (mw g am τ1 ++ [oWl g ao f1])) (cells + (ph σ1.2.2 - ph σ.2.2 + 1)) (slots + (2 * (ph σ1.2.2 - ph σ.2.2) + 6)) [(0, .ref b), (1, .ref (ad 0)), (2, .ref (am 112)), (3, .ref ao), (4, .int x4)] 2867 []) : Nw g p l e room_1 s m args below meth c A Q 7 (cw g ad ta σ ++ (mw g am τ ++ [oWl g ao f])) (cells) (slots) [(0, .ref b), (1, .ref (ad 0)), (2, .ref (am 112)), (3, .ref ao), (4, .int x4)] 2429 [] := by
  obtain ⟨c0, v0, σ1, b0, τ1, e1, hc, e2, e3, e4, hI⟩ := hg
  have hc : c0 = 0 ∨ c0 = 1 := hc
  have e3 : τ1.1 0 = (if c0 = 0 then (0 : Int32) else 1) := e3
  refine nw_aload_n C dL_law_2429 rfl 1 rfl ?_
  refine nw_aload_n C dL_law_2430 rfl 0 rfl ?_
  refine nw_iload C dL_law_2431 4 rfl ?_
  refine nw_iconst (v := 1) C dL_law_2433 (by decide) ?_
  refine nw_iadd C dL_law_2434 ?_
  refine nw_scr C hX hbl hbA h1 dL_law_2435 ?_
  refine nw_aload_n C dL_law_2436 rfl 0 rfl ?_
  refine nw_iload C dL_law_2437 4 rfl ?_
  refine nw_iconst (v := 2) C dL_law_2439 (by decide) ?_
  refine nw_iadd C dL_law_2440 ?_
  refine nw_scr C hX hbl hbA h2 dL_law_2441 ?_
  refine nw_aload_n C dL_law_2442 rfl 0 rfl ?_
  refine nw_iload C dL_law_2443 4 rfl ?_
  refine nw_iconst (v := 3) C dL_law_2445 (by decide) ?_
  refine nw_iadd C dL_law_2446 ?_
  refine nw_scr C hX hbl hbA h3 dL_law_2447 ?_
  refine nw_aload_n C dL_law_2448 rfl 3 rfl ?_
  refine nw_callSH (As := [.ref (ad 0)] ++ [.int (xs (x4 + 1).toNatClampNeg), .int (xs (x4 + 2).toNatClampNeg), .int (xs (x4 + 3).toNatClampNeg)] ++ [.ref ao]) (rest := []) C (z_spot hl e1 hc hφ2) tw_1492 tw_1493 tw_122 kh_L_spot.1 kh_L_spot.2.1 kh_L_spot.2.2 ⟨Nat.le_of_ble_eq_true rfl, Nat.le_of_ble_eq_true rfl⟩ ⟨hcl, hsl⟩ rfl dL_law_2449 rfl (Nat.le_of_ble_eq_true rfl) ?_
  rintro w ws1 ⟨rfl, ⟨ta1, rfl⟩, hp3, hp4⟩
  refine nw_istore (lv' := (5, .int (if c0 = 0 then (0 : Int32) else 1)) :: [(0, .ref b), (1, .ref (ad 0)), (2, .ref (am 112)), (3, .ref ao), (4, .int x4)]) C dL_law_2452 (by decide) rfl ?_
  refine nw_aload_n C dL_law_2454 rfl 3 rfl ?_
  refine nw_aload_n C dL_law_2455 rfl 1 rfl ?_
  refine nw_iload C dL_law_2456 5 rfl ?_
  refine nw_iconst (v := 1) C dL_law_2458 (by decide) ?_
  refine nw_iadd C dL_law_2459 ?_
  refine nw_scr C hX hbl hbA h1 dL_law_2460 ?_
  refine nw_aload_n C dL_law_2461 rfl 1 rfl ?_
  refine nw_iload C dL_law_2462 5 rfl ?_
  refine nw_iconst (v := 2) C dL_law_2464 (by decide) ?_
  refine nw_iadd C dL_law_2465 ?_
  refine nw_scr C hX hbl hbA h2 dL_law_2466 ?_
  refine nw_aload_n C dL_law_2467 rfl 1 rfl ?_
  refine nw_iload C dL_law_2468 5 rfl ?_
  refine nw_iconst (v := 3) C dL_law_2470 (by decide) ?_
  refine nw_iadd C dL_law_2471 ?_
  refine nw_scr C hX hbl hbA h3 dL_law_2472 ?_
  refine nz_model (As := [.int (xs (x4 + 1).toNatClampNeg), .int (xs (x4 + 2).toNatClampNeg), .int (xs (x4 + 3).toNatClampNeg)]) (rest := []) C (c_M_spot e2) tw_2343 kv_X12_spot ⟨Nat.le_of_ble_eq_true rfl, Nat.le_of_ble_eq_true rfl⟩ ⟨by show _ ≤ 601024; omega, by show _ ≤ 7293033; omega⟩ rfl dL_law_2473 rfl (Nat.le_of_ble_eq_true rfl) ?_
  refine nw_istore (lv' := (6, .int b0) :: (5, .int (if c0 = 0 then (0 : Int32) else 1)) :: [(0, .ref b), (1, .ref (ad 0)), (2, .ref (am 112)), (3, .ref ao), (4, .int x4)]) C dL_law_2476 (by decide) rfl ?_
  refine nw_aload_n C dL_law_2478 rfl 4 rfl ?_
  refine nz_model (r1 := τ1.1 0) (τ1 := τ1) (As := []) (rest := []) C (c_M_thrown rfl) tw_1910 kv_X12_thrown ⟨Nat.le_of_ble_eq_true rfl, Nat.le_of_ble_eq_true rfl⟩ ⟨by show _ ≤ 601024; omega, by show _ ≤ 7293033; omega⟩ rfl dL_law_2479 rfl (Nat.le_of_ble_eq_true rfl) ?_
  rw [e3]
  refine nw_iload C dL_law_2482 1 rfl ?_
  have q1 : (if (if c0 = 0 then (0 : Int32) else 1) = (if c0 = 0 then (0 : Int32) else 1) then some 1 else none) = some 1 := if_pos rfl
  refine nw_icmp_eq (tgt := 2489) C dL_law_2484 (by decide) q1 (fun _ _ => ?_) (fun hn _ => absurd rfl hn)
  refine nw_iload C dL_law_2489 1 rfl ?_
  by_cases h0 : c0 = 0
  · subst h0
    have e4 : v0 = b0 := e4 rfl
    subst e4
    have q2 : (if (0 : Int32) = 0 then some 1 else none) = some 1 := rfl
    refine nw_if_ne (tgt := 2506) C dL_law_2491 (by decide) q2 (fun _ _ => ?_) (fun hn _ => absurd rfl hn)
    refine nw_aload_n C dL_law_2494 rfl 5 rfl ?_
    refine nw_iconst (v := 0) C dL_law_2495 (by decide) ?_
    refine nw_lald C (60 + (mw g am τ1).length) oW_at dL_law_2496 (by unfold vp_in; decide) ?_
    refine nw_iload C dL_law_2497 0 rfl ?_
    refine nw_i2l C dL_law_2499 ?_
    refine nw_lcmp C dL_law_2500 ?_
    refine nw_st (st' := [.int (lg_cmp v0.toInt64 v0.toInt64)]) rfl ?_
    rw [lgc_eq]
    refine nw_if_eq (tgt := 2506) C dL_law_2501 (by decide) q2 (fun _ _ => ?_) (fun hn _ => absurd rfl hn)
    refine nw_goto (tgt := 2867) C dL_law_2506 (by decide) ?_
    exact nw_lv (lv' := [(0, .ref b), (1, .ref (ad 0)), (2, .ref (am 112)), (3, .ref ao), (4, .int x4)]) [2, 3, 4, 5, 6] rfl (k σ1 τ1 ta1 _ hI hp3 hp4)
  · have q2 : (if (if c0 = 0 then (0 : Int32) else 1) = 0 then none else some 1) = some 1 := if_neg (by rcases hc with rfl | rfl; exact absurd rfl h0; all_goals decide)
    refine nw_if_ne (tgt := 2506) C dL_law_2491 (by decide) q2 (fun _ h9 => by cases h9) (fun _ _ => ?_)
    refine nw_goto (tgt := 2867) C dL_law_2506 (by decide) ?_
    exact nw_lv (lv' := [(0, .ref b), (1, .ref (ad 0)), (2, .ref (am 112)), (3, .ref ao), (4, .int x4)]) [2, 3, 4, 5, 6] rfl (k σ1 τ1 ta1 _ hI hp3 hp4)
set_option maxHeartbeats 4000000 in
set_option maxRecDepth 100000 in
theorem lc_beats (C : Cx g p s m args meth c A 7 cL_law "ForestCourtsLaw") (hl : l.stackTraces = false) {Inv : CS → CS → Prop} {σ τ : CS} {b L ao : Nat} {xs : Nat → Int32} {x4 : Int32} {f : Nat → Int64} {cells slots : Nat} (hX : va_X b L xs s s.heap) (hbl : b < s.heap.size) (hbA : ¬ A b)  (hg : AgN Inv (f_FC_beats  σ) (f_M_beats  τ)) (hφ2 : ph σ.2.2 ≤ BB) (hcl : cells + (BB - ph σ.2.2 + 1) ≤ 601024) (hsl : slots + (2 * (BB - ph σ.2.2) + 6) ≤ 7293033)
    (k : ∀ (σ1 τ1 : CS) (ta1 : Nat → Nat) (f1 : Nat → Int64), Inv σ1 τ1 → ph σ.2.2 ≤ ph σ1.2.2 → ph σ1.2.2 ≤ BB → Nw g p l e room_1 s m args below meth c A Q 7 (cw g ad ta1 σ1 ++ (mw g am τ1 ++ [oWl g ao f1])) (cells + (ph σ1.2.2 - ph σ.2.2 + 1)) (slots + (2 * (ph σ1.2.2 - ph σ.2.2) + 6)) [(0, .ref b), (1, .ref (ad 0)), (2, .ref (am 112)), (3, .ref ao), (4, .int x4)] 2867 []) : Nw g p l e room_1 s m args below meth c A Q 7 (cw g ad ta σ ++ (mw g am τ ++ [oWl g ao f])) (cells) (slots) [(0, .ref b), (1, .ref (ad 0)), (2, .ref (am 112)), (3, .ref ao), (4, .int x4)] 2509 [] := by
  obtain ⟨v0, σ1, τ1, e1, e2, hI⟩ := hg
  refine nw_aload_n C dL_law_2509 rfl 1 rfl ?_
  refine nw_callV (q0 := 0) (As := []) (rest := []) C (c_FC_beats e1 hφ2) tw_616 kv_X11_beats.1 kv_X11_beats.2.1 kv_X11_beats.2.2.1 kv_X11_beats.2.2.2.1 kv_X11_beats.2.2.2.2.1 kv_X11_beats.2.2.2.2.2 cl_FC rfl ⟨Nat.le_of_ble_eq_true rfl, Nat.le_of_ble_eq_true rfl⟩ ⟨by show _ ≤ 601024; omega, by show _ ≤ 7293033; omega⟩ rfl dL_law_2510 rfl (Nat.le_of_ble_eq_true rfl) ?_
  rintro w ws1 ⟨rfl, ⟨ta1, rfl⟩, hp3, hp4⟩
  refine nw_aload_n C dL_law_2513 rfl 2 rfl ?_
  refine nz_model (As := []) (rest := [.int v0]) C (c_M_beats e2) tw_2347 kv_X12_beats ⟨Nat.le_of_ble_eq_true rfl, Nat.le_of_ble_eq_true rfl⟩ ⟨by show _ ≤ 601024; omega, by show _ ≤ 7293033; omega⟩ rfl dL_law_2514 rfl (Nat.le_of_ble_eq_true rfl) ?_
  have q1 : (if v0 = v0 then some 1 else none) = some 1 := if_pos rfl
  refine nw_icmp_eq (tgt := 2867) C dL_law_2517 (by decide) q1 (fun _ _ => ?_) (fun hn _ => absurd rfl hn)
  exact nw_widen (by omega) (by omega) (k σ1 τ1 ta1 _ hI hp3 hp4)
set_option maxHeartbeats 4000000 in
set_option maxRecDepth 100000 in
theorem lc_beat (C : Cx g p s m args meth c A 7 cL_law "ForestCourtsLaw") (hl : l.stackTraces = false) {Inv : CS → CS → Prop} {σ τ : CS} {b L ao : Nat} {xs : Nat → Int32} {x4 : Int32} {f : Nat → Int64} {cells slots : Nat} (hX : va_X b L xs s s.heap) (hbl : b < s.heap.size) (hbA : ¬ A b) (h1 : vp_in (x4 + 1) L) (hg : AgT Inv (f_FC_beat (xs (x4 + 1).toNatClampNeg) σ) (f_M_beat (xs (x4 + 1).toNatClampNeg) τ) (fun c0 => c0 = 0 ∨ c0 = 3) (fun c0 => (if c0 = 0 then (0 : Int32) else 1))) (hφ2 : ph σ.2.2 ≤ BB) (hcl : cells + (BB - ph σ.2.2 + 1) ≤ 601024) (hsl : slots + (2 * (BB - ph σ.2.2) + 6) ≤ 7293033)
    (k : ∀ (σ1 τ1 : CS) (ta1 : Nat → Nat) (f1 : Nat → Int64), Inv σ1 τ1 → ph σ.2.2 ≤ ph σ1.2.2 → ph σ1.2.2 ≤ BB → Nw g p l e room_1 s m args below meth c A Q 7 (cw g ad ta1 σ1 ++ (mw g am τ1 ++ [oWl g ao f1])) (cells + (ph σ1.2.2 - ph σ.2.2 + 1)) (slots + (2 * (ph σ1.2.2 - ph σ.2.2) + 6)) [(0, .ref b), (1, .ref (ad 0)), (2, .ref (am 112)), (3, .ref ao), (4, .int x4)] 2867 []) : Nw g p l e room_1 s m args below meth c A Q 7 (cw g ad ta σ ++ (mw g am τ ++ [oWl g ao f])) (cells) (slots) [(0, .ref b), (1, .ref (ad 0)), (2, .ref (am 112)), (3, .ref ao), (4, .int x4)] 2522 [] := by
  obtain ⟨c0, v0, σ1, b0, τ1, e1, hc, e2, e3, e4, hI⟩ := hg
  have hc : c0 = 0 ∨ c0 = 3 := hc
  have e3 : τ1.1 0 = (if c0 = 0 then (0 : Int32) else 1) := e3
  refine nw_aload_n C dL_law_2522 rfl 1 rfl ?_
  refine nw_aload_n C dL_law_2523 rfl 0 rfl ?_
  refine nw_iload C dL_law_2524 4 rfl ?_
  refine nw_iconst (v := 1) C dL_law_2526 (by decide) ?_
  refine nw_iadd C dL_law_2527 ?_
  refine nw_scr C hX hbl hbA h1 dL_law_2528 ?_
  refine nw_aload_n C dL_law_2529 rfl 3 rfl ?_
  refine nw_callSH (As := [.ref (ad 0)] ++ [.int (xs (x4 + 1).toNatClampNeg)] ++ [.ref ao]) (rest := []) C (z_beat hl e1 hc hφ2) tw_1504 tw_1505 tw_122 kh_L_beat.1 kh_L_beat.2.1 kh_L_beat.2.2 ⟨Nat.le_of_ble_eq_true rfl, Nat.le_of_ble_eq_true rfl⟩ ⟨hcl, hsl⟩ rfl dL_law_2530 rfl (Nat.le_of_ble_eq_true rfl) ?_
  rintro w ws1 ⟨rfl, ⟨ta1, rfl⟩, hp3, hp4⟩
  refine nw_istore (lv' := (5, .int (if c0 = 0 then (0 : Int32) else 1)) :: [(0, .ref b), (1, .ref (ad 0)), (2, .ref (am 112)), (3, .ref ao), (4, .int x4)]) C dL_law_2533 (by decide) rfl ?_
  refine nw_aload_n C dL_law_2535 rfl 3 rfl ?_
  refine nw_aload_n C dL_law_2536 rfl 1 rfl ?_
  refine nw_iload C dL_law_2537 5 rfl ?_
  refine nw_iconst (v := 1) C dL_law_2539 (by decide) ?_
  refine nw_iadd C dL_law_2540 ?_
  refine nw_scr C hX hbl hbA h1 dL_law_2541 ?_
  refine nz_model (As := [.int (xs (x4 + 1).toNatClampNeg)]) (rest := []) C (c_M_beat e2) tw_2364 kv_X12_beat ⟨Nat.le_of_ble_eq_true rfl, Nat.le_of_ble_eq_true rfl⟩ ⟨by show _ ≤ 601024; omega, by show _ ≤ 7293033; omega⟩ rfl dL_law_2542 rfl (Nat.le_of_ble_eq_true rfl) ?_
  refine nw_istore (lv' := (6, .int b0) :: (5, .int (if c0 = 0 then (0 : Int32) else 1)) :: [(0, .ref b), (1, .ref (ad 0)), (2, .ref (am 112)), (3, .ref ao), (4, .int x4)]) C dL_law_2545 (by decide) rfl ?_
  refine nw_aload_n C dL_law_2547 rfl 4 rfl ?_
  refine nz_model (r1 := τ1.1 0) (τ1 := τ1) (As := []) (rest := []) C (c_M_thrown rfl) tw_1910 kv_X12_thrown ⟨Nat.le_of_ble_eq_true rfl, Nat.le_of_ble_eq_true rfl⟩ ⟨by show _ ≤ 601024; omega, by show _ ≤ 7293033; omega⟩ rfl dL_law_2548 rfl (Nat.le_of_ble_eq_true rfl) ?_
  rw [e3]
  refine nw_iload C dL_law_2551 1 rfl ?_
  have q1 : (if (if c0 = 0 then (0 : Int32) else 1) = (if c0 = 0 then (0 : Int32) else 1) then some 1 else none) = some 1 := if_pos rfl
  refine nw_icmp_eq (tgt := 2558) C dL_law_2553 (by decide) q1 (fun _ _ => ?_) (fun hn _ => absurd rfl hn)
  refine nw_iload C dL_law_2558 1 rfl ?_
  by_cases h0 : c0 = 0
  · subst h0
    have e4 : v0 = b0 := e4 rfl
    subst e4
    have q2 : (if (0 : Int32) = 0 then some 1 else none) = some 1 := rfl
    refine nw_if_ne (tgt := 2575) C dL_law_2560 (by decide) q2 (fun _ _ => ?_) (fun hn _ => absurd rfl hn)
    refine nw_aload_n C dL_law_2563 rfl 5 rfl ?_
    refine nw_iconst (v := 0) C dL_law_2564 (by decide) ?_
    refine nw_lald C (60 + (mw g am τ1).length) oW_at dL_law_2565 (by unfold vp_in; decide) ?_
    refine nw_iload C dL_law_2566 0 rfl ?_
    refine nw_i2l C dL_law_2568 ?_
    refine nw_lcmp C dL_law_2569 ?_
    refine nw_st (st' := [.int (lg_cmp v0.toInt64 v0.toInt64)]) rfl ?_
    rw [lgc_eq]
    refine nw_if_eq (tgt := 2575) C dL_law_2570 (by decide) q2 (fun _ _ => ?_) (fun hn _ => absurd rfl hn)
    refine nw_goto (tgt := 2867) C dL_law_2575 (by decide) ?_
    exact nw_lv (lv' := [(0, .ref b), (1, .ref (ad 0)), (2, .ref (am 112)), (3, .ref ao), (4, .int x4)]) [2, 3, 4, 5, 6] rfl (k σ1 τ1 ta1 _ hI hp3 hp4)
  · have q2 : (if (if c0 = 0 then (0 : Int32) else 1) = 0 then none else some 1) = some 1 := if_neg (by rcases hc with rfl | rfl; exact absurd rfl h0; all_goals decide)
    refine nw_if_ne (tgt := 2575) C dL_law_2560 (by decide) q2 (fun _ h9 => by cases h9) (fun _ _ => ?_)
    refine nw_goto (tgt := 2867) C dL_law_2575 (by decide) ?_
    exact nw_lv (lv' := [(0, .ref b), (1, .ref (ad 0)), (2, .ref (am 112)), (3, .ref ao), (4, .int x4)]) [2, 3, 4, 5, 6] rfl (k σ1 τ1 ta1 _ hI hp3 hp4)
set_option maxHeartbeats 4000000 in
set_option maxRecDepth 100000 in
theorem lc_wood (C : Cx g p s m args meth c A 7 cL_law "ForestCourtsLaw") (hl : l.stackTraces = false) {Inv : CS → CS → Prop} {σ τ : CS} {b L ao : Nat} {xs : Nat → Int32} {x4 : Int32} {f : Nat → Int64} {cells slots : Nat} (hX : va_X b L xs s s.heap) (hbl : b < s.heap.size) (hbA : ¬ A b) (h1 : vp_in (x4 + 1) L) (h2 : vp_in (x4 + 2) L) (h3 : vp_in (x4 + 3) L) (hg : AgT Inv (f_FC_wood (xs (x4 + 1).toNatClampNeg) (xs (x4 + 2).toNatClampNeg) (xs (x4 + 3).toNatClampNeg) σ) (f_M_wood (xs (x4 + 1).toNatClampNeg) (xs (x4 + 2).toNatClampNeg) (xs (x4 + 3).toNatClampNeg) τ) (fun c0 => c0 = 0 ∨ c0 = 1) (fun c0 => (if c0 = 0 then (0 : Int32) else 1))) (hφ2 : ph σ.2.2 ≤ BB) (hcl : cells + (BB - ph σ.2.2 + 1) ≤ 601024) (hsl : slots + (2 * (BB - ph σ.2.2) + 6) ≤ 7293033)
    (k : ∀ (σ1 τ1 : CS) (ta1 : Nat → Nat) (f1 : Nat → Int64), Inv σ1 τ1 → ph σ.2.2 ≤ ph σ1.2.2 → ph σ1.2.2 ≤ BB → Nw g p l e room_1 s m args below meth c A Q 7 (cw g ad ta1 σ1 ++ (mw g am τ1 ++ [oWl g ao f1])) (cells + (ph σ1.2.2 - ph σ.2.2 + 1)) (slots + (2 * (ph σ1.2.2 - ph σ.2.2) + 6)) [(0, .ref b), (1, .ref (ad 0)), (2, .ref (am 112)), (3, .ref ao), (4, .int x4)] 2867 []) : Nw g p l e room_1 s m args below meth c A Q 7 (cw g ad ta σ ++ (mw g am τ ++ [oWl g ao f])) (cells) (slots) [(0, .ref b), (1, .ref (ad 0)), (2, .ref (am 112)), (3, .ref ao), (4, .int x4)] 2578 [] := by
  obtain ⟨c0, v0, σ1, b0, τ1, e1, hc, e2, e3, e4, hI⟩ := hg
  have hc : c0 = 0 ∨ c0 = 1 := hc
  have e3 : τ1.1 0 = (if c0 = 0 then (0 : Int32) else 1) := e3
  refine nw_aload_n C dL_law_2578 rfl 1 rfl ?_
  refine nw_aload_n C dL_law_2579 rfl 0 rfl ?_
  refine nw_iload C dL_law_2580 4 rfl ?_
  refine nw_iconst (v := 1) C dL_law_2582 (by decide) ?_
  refine nw_iadd C dL_law_2583 ?_
  refine nw_scr C hX hbl hbA h1 dL_law_2584 ?_
  refine nw_aload_n C dL_law_2585 rfl 0 rfl ?_
  refine nw_iload C dL_law_2586 4 rfl ?_
  refine nw_iconst (v := 2) C dL_law_2588 (by decide) ?_
  refine nw_iadd C dL_law_2589 ?_
  refine nw_scr C hX hbl hbA h2 dL_law_2590 ?_
  refine nw_aload_n C dL_law_2591 rfl 0 rfl ?_
  refine nw_iload C dL_law_2592 4 rfl ?_
  refine nw_iconst (v := 3) C dL_law_2594 (by decide) ?_
  refine nw_iadd C dL_law_2595 ?_
  refine nw_scr C hX hbl hbA h3 dL_law_2596 ?_
  refine nw_aload_n C dL_law_2597 rfl 3 rfl ?_
  refine nw_callSH (As := [.ref (ad 0)] ++ [.int (xs (x4 + 1).toNatClampNeg), .int (xs (x4 + 2).toNatClampNeg), .int (xs (x4 + 3).toNatClampNeg)] ++ [.ref ao]) (rest := []) C (z_wood hl e1 hc hφ2) tw_1515 tw_1516 tw_122 kh_L_wood.1 kh_L_wood.2.1 kh_L_wood.2.2 ⟨Nat.le_of_ble_eq_true rfl, Nat.le_of_ble_eq_true rfl⟩ ⟨hcl, hsl⟩ rfl dL_law_2598 rfl (Nat.le_of_ble_eq_true rfl) ?_
  rintro w ws1 ⟨rfl, ⟨ta1, rfl⟩, hp3, hp4⟩
  refine nw_istore (lv' := (5, .int (if c0 = 0 then (0 : Int32) else 1)) :: [(0, .ref b), (1, .ref (ad 0)), (2, .ref (am 112)), (3, .ref ao), (4, .int x4)]) C dL_law_2601 (by decide) rfl ?_
  refine nw_aload_n C dL_law_2603 rfl 3 rfl ?_
  refine nw_aload_n C dL_law_2604 rfl 1 rfl ?_
  refine nw_iload C dL_law_2605 5 rfl ?_
  refine nw_iconst (v := 1) C dL_law_2607 (by decide) ?_
  refine nw_iadd C dL_law_2608 ?_
  refine nw_scr C hX hbl hbA h1 dL_law_2609 ?_
  refine nw_aload_n C dL_law_2610 rfl 1 rfl ?_
  refine nw_iload C dL_law_2611 5 rfl ?_
  refine nw_iconst (v := 2) C dL_law_2613 (by decide) ?_
  refine nw_iadd C dL_law_2614 ?_
  refine nw_scr C hX hbl hbA h2 dL_law_2615 ?_
  refine nw_aload_n C dL_law_2616 rfl 1 rfl ?_
  refine nw_iload C dL_law_2617 5 rfl ?_
  refine nw_iconst (v := 3) C dL_law_2619 (by decide) ?_
  refine nw_iadd C dL_law_2620 ?_
  refine nw_scr C hX hbl hbA h3 dL_law_2621 ?_
  refine nz_model (As := [.int (xs (x4 + 1).toNatClampNeg), .int (xs (x4 + 2).toNatClampNeg), .int (xs (x4 + 3).toNatClampNeg)]) (rest := []) C (c_M_wood e2) tw_2368 kv_X12_wood ⟨Nat.le_of_ble_eq_true rfl, Nat.le_of_ble_eq_true rfl⟩ ⟨by show _ ≤ 601024; omega, by show _ ≤ 7293033; omega⟩ rfl dL_law_2622 rfl (Nat.le_of_ble_eq_true rfl) ?_
  refine nw_istore (lv' := (6, .int b0) :: (5, .int (if c0 = 0 then (0 : Int32) else 1)) :: [(0, .ref b), (1, .ref (ad 0)), (2, .ref (am 112)), (3, .ref ao), (4, .int x4)]) C dL_law_2625 (by decide) rfl ?_
  refine nw_aload_n C dL_law_2627 rfl 4 rfl ?_
  refine nz_model (r1 := τ1.1 0) (τ1 := τ1) (As := []) (rest := []) C (c_M_thrown rfl) tw_1910 kv_X12_thrown ⟨Nat.le_of_ble_eq_true rfl, Nat.le_of_ble_eq_true rfl⟩ ⟨by show _ ≤ 601024; omega, by show _ ≤ 7293033; omega⟩ rfl dL_law_2628 rfl (Nat.le_of_ble_eq_true rfl) ?_
  rw [e3]
  refine nw_iload C dL_law_2631 1 rfl ?_
  have q1 : (if (if c0 = 0 then (0 : Int32) else 1) = (if c0 = 0 then (0 : Int32) else 1) then some 1 else none) = some 1 := if_pos rfl
  refine nw_icmp_eq (tgt := 2638) C dL_law_2633 (by decide) q1 (fun _ _ => ?_) (fun hn _ => absurd rfl hn)
  refine nw_iload C dL_law_2638 1 rfl ?_
  by_cases h0 : c0 = 0
  · subst h0
    have e4 : v0 = b0 := e4 rfl
    subst e4
    have q2 : (if (0 : Int32) = 0 then some 1 else none) = some 1 := rfl
    refine nw_if_ne (tgt := 2655) C dL_law_2640 (by decide) q2 (fun _ _ => ?_) (fun hn _ => absurd rfl hn)
    refine nw_aload_n C dL_law_2643 rfl 5 rfl ?_
    refine nw_iconst (v := 0) C dL_law_2644 (by decide) ?_
    refine nw_lald C (60 + (mw g am τ1).length) oW_at dL_law_2645 (by unfold vp_in; decide) ?_
    refine nw_iload C dL_law_2646 0 rfl ?_
    refine nw_i2l C dL_law_2648 ?_
    refine nw_lcmp C dL_law_2649 ?_
    refine nw_st (st' := [.int (lg_cmp v0.toInt64 v0.toInt64)]) rfl ?_
    rw [lgc_eq]
    refine nw_if_eq (tgt := 2655) C dL_law_2650 (by decide) q2 (fun _ _ => ?_) (fun hn _ => absurd rfl hn)
    refine nw_goto (tgt := 2867) C dL_law_2655 (by decide) ?_
    exact nw_lv (lv' := [(0, .ref b), (1, .ref (ad 0)), (2, .ref (am 112)), (3, .ref ao), (4, .int x4)]) [2, 3, 4, 5, 6] rfl (k σ1 τ1 ta1 _ hI hp3 hp4)
  · have q2 : (if (if c0 = 0 then (0 : Int32) else 1) = 0 then none else some 1) = some 1 := if_neg (by rcases hc with rfl | rfl; exact absurd rfl h0; all_goals decide)
    refine nw_if_ne (tgt := 2655) C dL_law_2640 (by decide) q2 (fun _ h9 => by cases h9) (fun _ _ => ?_)
    refine nw_goto (tgt := 2867) C dL_law_2655 (by decide) ?_
    exact nw_lv (lv' := [(0, .ref b), (1, .ref (ad 0)), (2, .ref (am 112)), (3, .ref ao), (4, .int x4)]) [2, 3, 4, 5, 6] rfl (k σ1 τ1 ta1 _ hI hp3 hp4)
set_option maxHeartbeats 4000000 in
set_option maxRecDepth 100000 in
theorem lc_take (C : Cx g p s m args meth c A 7 cL_law "ForestCourtsLaw") (hl : l.stackTraces = false) {Inv : CS → CS → Prop} {σ τ : CS} {b L ao : Nat} {xs : Nat → Int32} {x4 : Int32} {f : Nat → Int64} {cells slots : Nat} (hX : va_X b L xs s s.heap) (hbl : b < s.heap.size) (hbA : ¬ A b) (h1 : vp_in (x4 + 1) L) (h2 : vp_in (x4 + 2) L) (h3 : vp_in (x4 + 3) L) (h4 : vp_in (x4 + 4) L) (hg : AgT Inv (f_FC_take (xs (x4 + 1).toNatClampNeg) (xs (x4 + 2).toNatClampNeg) (xs (x4 + 3).toNatClampNeg) (xs (x4 + 4).toNatClampNeg) σ) (f_M_take (xs (x4 + 1).toNatClampNeg) (xs (x4 + 2).toNatClampNeg) (xs (x4 + 3).toNatClampNeg) (xs (x4 + 4).toNatClampNeg) τ) (fun c0 => c0 = 0 ∨ c0 = 3 ∨ c0 = 1) (fun c0 => (if c0 = 0 then (0 : Int32) else if c0 = 3 then 1 else 2))) (hφ2 : ph σ.2.2 ≤ BB) (hcl : cells + (BB - ph σ.2.2 + 1) ≤ 601024) (hsl : slots + (2 * (BB - ph σ.2.2) + 6) ≤ 7293033)
    (k : ∀ (σ1 τ1 : CS) (ta1 : Nat → Nat) (f1 : Nat → Int64), Inv σ1 τ1 → ph σ.2.2 ≤ ph σ1.2.2 → ph σ1.2.2 ≤ BB → Nw g p l e room_1 s m args below meth c A Q 7 (cw g ad ta1 σ1 ++ (mw g am τ1 ++ [oWl g ao f1])) (cells + (ph σ1.2.2 - ph σ.2.2 + 1)) (slots + (2 * (ph σ1.2.2 - ph σ.2.2) + 6)) [(0, .ref b), (1, .ref (ad 0)), (2, .ref (am 112)), (3, .ref ao), (4, .int x4)] 2867 []) : Nw g p l e room_1 s m args below meth c A Q 7 (cw g ad ta σ ++ (mw g am τ ++ [oWl g ao f])) (cells) (slots) [(0, .ref b), (1, .ref (ad 0)), (2, .ref (am 112)), (3, .ref ao), (4, .int x4)] 2658 [] := by
  obtain ⟨c0, v0, σ1, b0, τ1, e1, hc, e2, e3, e4, hI⟩ := hg
  have hc : c0 = 0 ∨ c0 = 3 ∨ c0 = 1 := hc
  have e3 : τ1.1 0 = (if c0 = 0 then (0 : Int32) else if c0 = 3 then 1 else 2) := e3
  refine nw_aload_n C dL_law_2658 rfl 1 rfl ?_
  refine nw_aload_n C dL_law_2659 rfl 0 rfl ?_
  refine nw_iload C dL_law_2660 4 rfl ?_
  refine nw_iconst (v := 1) C dL_law_2662 (by decide) ?_
  refine nw_iadd C dL_law_2663 ?_
  refine nw_scr C hX hbl hbA h1 dL_law_2664 ?_
  refine nw_aload_n C dL_law_2665 rfl 0 rfl ?_
  refine nw_iload C dL_law_2666 4 rfl ?_
  refine nw_iconst (v := 2) C dL_law_2668 (by decide) ?_
  refine nw_iadd C dL_law_2669 ?_
  refine nw_scr C hX hbl hbA h2 dL_law_2670 ?_
  refine nw_aload_n C dL_law_2671 rfl 0 rfl ?_
  refine nw_iload C dL_law_2672 4 rfl ?_
  refine nw_iconst (v := 3) C dL_law_2674 (by decide) ?_
  refine nw_iadd C dL_law_2675 ?_
  refine nw_scr C hX hbl hbA h3 dL_law_2676 ?_
  refine nw_aload_n C dL_law_2677 rfl 0 rfl ?_
  refine nw_iload C dL_law_2678 4 rfl ?_
  refine nw_iconst (v := 4) C dL_law_2680 (by decide) ?_
  refine nw_iadd C dL_law_2681 ?_
  refine nw_scr C hX hbl hbA h4 dL_law_2682 ?_
  refine nw_aload_n C dL_law_2683 rfl 3 rfl ?_
  refine nw_callSH (As := [.ref (ad 0)] ++ [.int (xs (x4 + 1).toNatClampNeg), .int (xs (x4 + 2).toNatClampNeg), .int (xs (x4 + 3).toNatClampNeg), .int (xs (x4 + 4).toNatClampNeg)] ++ [.ref ao]) (rest := []) C (z_take hl e1 hc hφ2) tw_1531 tw_1532 tw_122 kh_L_take.1 kh_L_take.2.1 kh_L_take.2.2 ⟨Nat.le_of_ble_eq_true rfl, Nat.le_of_ble_eq_true rfl⟩ ⟨hcl, hsl⟩ rfl dL_law_2684 rfl (Nat.le_of_ble_eq_true rfl) ?_
  rintro w ws1 ⟨rfl, ⟨ta1, rfl⟩, hp3, hp4⟩
  refine nw_istore (lv' := (5, .int (if c0 = 0 then (0 : Int32) else if c0 = 3 then 1 else 2)) :: [(0, .ref b), (1, .ref (ad 0)), (2, .ref (am 112)), (3, .ref ao), (4, .int x4)]) C dL_law_2687 (by decide) rfl ?_
  refine nw_aload_n C dL_law_2689 rfl 3 rfl ?_
  refine nw_aload_n C dL_law_2690 rfl 1 rfl ?_
  refine nw_iload C dL_law_2691 5 rfl ?_
  refine nw_iconst (v := 1) C dL_law_2693 (by decide) ?_
  refine nw_iadd C dL_law_2694 ?_
  refine nw_scr C hX hbl hbA h1 dL_law_2695 ?_
  refine nw_aload_n C dL_law_2696 rfl 1 rfl ?_
  refine nw_iload C dL_law_2697 5 rfl ?_
  refine nw_iconst (v := 2) C dL_law_2699 (by decide) ?_
  refine nw_iadd C dL_law_2700 ?_
  refine nw_scr C hX hbl hbA h2 dL_law_2701 ?_
  refine nw_aload_n C dL_law_2702 rfl 1 rfl ?_
  refine nw_iload C dL_law_2703 5 rfl ?_
  refine nw_iconst (v := 3) C dL_law_2705 (by decide) ?_
  refine nw_iadd C dL_law_2706 ?_
  refine nw_scr C hX hbl hbA h3 dL_law_2707 ?_
  refine nw_aload_n C dL_law_2708 rfl 1 rfl ?_
  refine nw_iload C dL_law_2709 5 rfl ?_
  refine nw_iconst (v := 4) C dL_law_2711 (by decide) ?_
  refine nw_iadd C dL_law_2712 ?_
  refine nw_scr C hX hbl hbA h4 dL_law_2713 ?_
  refine nz_model (As := [.int (xs (x4 + 1).toNatClampNeg), .int (xs (x4 + 2).toNatClampNeg), .int (xs (x4 + 3).toNatClampNeg), .int (xs (x4 + 4).toNatClampNeg)]) (rest := []) C (c_M_take e2) tw_2375 kv_X12_take ⟨Nat.le_of_ble_eq_true rfl, Nat.le_of_ble_eq_true rfl⟩ ⟨by show _ ≤ 601024; omega, by show _ ≤ 7293033; omega⟩ rfl dL_law_2714 rfl (Nat.le_of_ble_eq_true rfl) ?_
  refine nw_istore (lv' := (6, .int b0) :: (5, .int (if c0 = 0 then (0 : Int32) else if c0 = 3 then 1 else 2)) :: [(0, .ref b), (1, .ref (ad 0)), (2, .ref (am 112)), (3, .ref ao), (4, .int x4)]) C dL_law_2717 (by decide) rfl ?_
  refine nw_aload_n C dL_law_2719 rfl 4 rfl ?_
  refine nz_model (r1 := τ1.1 0) (τ1 := τ1) (As := []) (rest := []) C (c_M_thrown rfl) tw_1910 kv_X12_thrown ⟨Nat.le_of_ble_eq_true rfl, Nat.le_of_ble_eq_true rfl⟩ ⟨by show _ ≤ 601024; omega, by show _ ≤ 7293033; omega⟩ rfl dL_law_2720 rfl (Nat.le_of_ble_eq_true rfl) ?_
  rw [e3]
  refine nw_iload C dL_law_2723 1 rfl ?_
  have q1 : (if (if c0 = 0 then (0 : Int32) else if c0 = 3 then 1 else 2) = (if c0 = 0 then (0 : Int32) else if c0 = 3 then 1 else 2) then some 1 else none) = some 1 := if_pos rfl
  refine nw_icmp_eq (tgt := 2730) C dL_law_2725 (by decide) q1 (fun _ _ => ?_) (fun hn _ => absurd rfl hn)
  refine nw_iload C dL_law_2730 1 rfl ?_
  by_cases h0 : c0 = 0
  · subst h0
    have e4 : v0 = b0 := e4 rfl
    subst e4
    have q2 : (if (0 : Int32) = 0 then some 1 else none) = some 1 := rfl
    refine nw_if_ne (tgt := 2747) C dL_law_2732 (by decide) q2 (fun _ _ => ?_) (fun hn _ => absurd rfl hn)
    refine nw_aload_n C dL_law_2735 rfl 5 rfl ?_
    refine nw_iconst (v := 0) C dL_law_2736 (by decide) ?_
    refine nw_lald C (60 + (mw g am τ1).length) oW_at dL_law_2737 (by unfold vp_in; decide) ?_
    refine nw_iload C dL_law_2738 0 rfl ?_
    refine nw_i2l C dL_law_2740 ?_
    refine nw_lcmp C dL_law_2741 ?_
    refine nw_st (st' := [.int (lg_cmp v0.toInt64 v0.toInt64)]) rfl ?_
    rw [lgc_eq]
    refine nw_if_eq (tgt := 2747) C dL_law_2742 (by decide) q2 (fun _ _ => ?_) (fun hn _ => absurd rfl hn)
    refine nw_goto (tgt := 2867) C dL_law_2747 (by decide) ?_
    exact nw_lv (lv' := [(0, .ref b), (1, .ref (ad 0)), (2, .ref (am 112)), (3, .ref ao), (4, .int x4)]) [2, 3, 4, 5, 6] rfl (k σ1 τ1 ta1 _ hI hp3 hp4)
  · have q2 : (if (if c0 = 0 then (0 : Int32) else if c0 = 3 then 1 else 2) = 0 then none else some 1) = some 1 := if_neg (by rcases hc with rfl | rfl | rfl; exact absurd rfl h0; all_goals decide)
    refine nw_if_ne (tgt := 2747) C dL_law_2732 (by decide) q2 (fun _ h9 => by cases h9) (fun _ _ => ?_)
    refine nw_goto (tgt := 2867) C dL_law_2747 (by decide) ?_
    exact nw_lv (lv' := [(0, .ref b), (1, .ref (ad 0)), (2, .ref (am 112)), (3, .ref ao), (4, .int x4)]) [2, 3, 4, 5, 6] rfl (k σ1 τ1 ta1 _ hI hp3 hp4)
set_option maxHeartbeats 4000000 in
set_option maxRecDepth 100000 in
theorem lc_stock (C : Cx g p s m args meth c A 7 cL_law "ForestCourtsLaw") (hl : l.stackTraces = false) {Inv : CS → CS → Prop} {σ τ : CS} {b L ao : Nat} {xs : Nat → Int32} {x4 : Int32} {f : Nat → Int64} {cells slots : Nat} (hX : va_X b L xs s s.heap) (hbl : b < s.heap.size) (hbA : ¬ A b) (h1 : vp_in (x4 + 1) L) (h2 : vp_in (x4 + 2) L) (h3 : vp_in (x4 + 3) L) (h4 : vp_in (x4 + 4) L) (hg : AgT Inv (f_FC_stock (xs (x4 + 1).toNatClampNeg) (xs (x4 + 2).toNatClampNeg) (xs (x4 + 3).toNatClampNeg) (xs (x4 + 4).toNatClampNeg) σ) (f_M_stock (xs (x4 + 1).toNatClampNeg) (xs (x4 + 2).toNatClampNeg) (xs (x4 + 3).toNatClampNeg) (xs (x4 + 4).toNatClampNeg) τ) (fun c0 => c0 = 0 ∨ c0 = 3 ∨ c0 = 1) (fun c0 => (if c0 = 0 then (0 : Int32) else if c0 = 3 then 1 else 2))) (hφ2 : ph σ.2.2 ≤ BB) (hcl : cells + (BB - ph σ.2.2 + 1) ≤ 601024) (hsl : slots + (2 * (BB - ph σ.2.2) + 6) ≤ 7293033)
    (k : ∀ (σ1 τ1 : CS) (ta1 : Nat → Nat) (f1 : Nat → Int64), Inv σ1 τ1 → ph σ.2.2 ≤ ph σ1.2.2 → ph σ1.2.2 ≤ BB → Nw g p l e room_1 s m args below meth c A Q 7 (cw g ad ta1 σ1 ++ (mw g am τ1 ++ [oWl g ao f1])) (cells + (ph σ1.2.2 - ph σ.2.2 + 1)) (slots + (2 * (ph σ1.2.2 - ph σ.2.2) + 6)) [(0, .ref b), (1, .ref (ad 0)), (2, .ref (am 112)), (3, .ref ao), (4, .int x4)] 2867 []) : Nw g p l e room_1 s m args below meth c A Q 7 (cw g ad ta σ ++ (mw g am τ ++ [oWl g ao f])) (cells) (slots) [(0, .ref b), (1, .ref (ad 0)), (2, .ref (am 112)), (3, .ref ao), (4, .int x4)] 2750 [] := by
  obtain ⟨c0, v0, σ1, b0, τ1, e1, hc, e2, e3, e4, hI⟩ := hg
  have hc : c0 = 0 ∨ c0 = 3 ∨ c0 = 1 := hc
  have e3 : τ1.1 0 = (if c0 = 0 then (0 : Int32) else if c0 = 3 then 1 else 2) := e3
  refine nw_aload_n C dL_law_2750 rfl 1 rfl ?_
  refine nw_aload_n C dL_law_2751 rfl 0 rfl ?_
  refine nw_iload C dL_law_2752 4 rfl ?_
  refine nw_iconst (v := 1) C dL_law_2754 (by decide) ?_
  refine nw_iadd C dL_law_2755 ?_
  refine nw_scr C hX hbl hbA h1 dL_law_2756 ?_
  refine nw_aload_n C dL_law_2757 rfl 0 rfl ?_
  refine nw_iload C dL_law_2758 4 rfl ?_
  refine nw_iconst (v := 2) C dL_law_2760 (by decide) ?_
  refine nw_iadd C dL_law_2761 ?_
  refine nw_scr C hX hbl hbA h2 dL_law_2762 ?_
  refine nw_aload_n C dL_law_2763 rfl 0 rfl ?_
  refine nw_iload C dL_law_2764 4 rfl ?_
  refine nw_iconst (v := 3) C dL_law_2766 (by decide) ?_
  refine nw_iadd C dL_law_2767 ?_
  refine nw_scr C hX hbl hbA h3 dL_law_2768 ?_
  refine nw_aload_n C dL_law_2769 rfl 0 rfl ?_
  refine nw_iload C dL_law_2770 4 rfl ?_
  refine nw_iconst (v := 4) C dL_law_2772 (by decide) ?_
  refine nw_iadd C dL_law_2773 ?_
  refine nw_scr C hX hbl hbA h4 dL_law_2774 ?_
  refine nw_aload_n C dL_law_2775 rfl 3 rfl ?_
  refine nw_callSH (As := [.ref (ad 0)] ++ [.int (xs (x4 + 1).toNatClampNeg), .int (xs (x4 + 2).toNatClampNeg), .int (xs (x4 + 3).toNatClampNeg), .int (xs (x4 + 4).toNatClampNeg)] ++ [.ref ao]) (rest := []) C (z_stock hl e1 hc hφ2) tw_1548 tw_1549 tw_122 kh_L_stock.1 kh_L_stock.2.1 kh_L_stock.2.2 ⟨Nat.le_of_ble_eq_true rfl, Nat.le_of_ble_eq_true rfl⟩ ⟨hcl, hsl⟩ rfl dL_law_2776 rfl (Nat.le_of_ble_eq_true rfl) ?_
  rintro w ws1 ⟨rfl, ⟨ta1, rfl⟩, hp3, hp4⟩
  refine nw_istore (lv' := (5, .int (if c0 = 0 then (0 : Int32) else if c0 = 3 then 1 else 2)) :: [(0, .ref b), (1, .ref (ad 0)), (2, .ref (am 112)), (3, .ref ao), (4, .int x4)]) C dL_law_2779 (by decide) rfl ?_
  refine nw_aload_n C dL_law_2781 rfl 3 rfl ?_
  refine nw_aload_n C dL_law_2782 rfl 1 rfl ?_
  refine nw_iload C dL_law_2783 5 rfl ?_
  refine nw_iconst (v := 1) C dL_law_2785 (by decide) ?_
  refine nw_iadd C dL_law_2786 ?_
  refine nw_scr C hX hbl hbA h1 dL_law_2787 ?_
  refine nw_aload_n C dL_law_2788 rfl 1 rfl ?_
  refine nw_iload C dL_law_2789 5 rfl ?_
  refine nw_iconst (v := 2) C dL_law_2791 (by decide) ?_
  refine nw_iadd C dL_law_2792 ?_
  refine nw_scr C hX hbl hbA h2 dL_law_2793 ?_
  refine nw_aload_n C dL_law_2794 rfl 1 rfl ?_
  refine nw_iload C dL_law_2795 5 rfl ?_
  refine nw_iconst (v := 3) C dL_law_2797 (by decide) ?_
  refine nw_iadd C dL_law_2798 ?_
  refine nw_scr C hX hbl hbA h3 dL_law_2799 ?_
  refine nw_aload_n C dL_law_2800 rfl 1 rfl ?_
  refine nw_iload C dL_law_2801 5 rfl ?_
  refine nw_iconst (v := 4) C dL_law_2803 (by decide) ?_
  refine nw_iadd C dL_law_2804 ?_
  refine nw_scr C hX hbl hbA h4 dL_law_2805 ?_
  refine nz_model (As := [.int (xs (x4 + 1).toNatClampNeg), .int (xs (x4 + 2).toNatClampNeg), .int (xs (x4 + 3).toNatClampNeg), .int (xs (x4 + 4).toNatClampNeg)]) (rest := []) C (c_M_stock e2) tw_2383 kv_X12_stock ⟨Nat.le_of_ble_eq_true rfl, Nat.le_of_ble_eq_true rfl⟩ ⟨by show _ ≤ 601024; omega, by show _ ≤ 7293033; omega⟩ rfl dL_law_2806 rfl (Nat.le_of_ble_eq_true rfl) ?_
  refine nw_istore (lv' := (6, .int b0) :: (5, .int (if c0 = 0 then (0 : Int32) else if c0 = 3 then 1 else 2)) :: [(0, .ref b), (1, .ref (ad 0)), (2, .ref (am 112)), (3, .ref ao), (4, .int x4)]) C dL_law_2809 (by decide) rfl ?_
  refine nw_aload_n C dL_law_2811 rfl 4 rfl ?_
  refine nz_model (r1 := τ1.1 0) (τ1 := τ1) (As := []) (rest := []) C (c_M_thrown rfl) tw_1910 kv_X12_thrown ⟨Nat.le_of_ble_eq_true rfl, Nat.le_of_ble_eq_true rfl⟩ ⟨by show _ ≤ 601024; omega, by show _ ≤ 7293033; omega⟩ rfl dL_law_2812 rfl (Nat.le_of_ble_eq_true rfl) ?_
  rw [e3]
  refine nw_iload C dL_law_2815 1 rfl ?_
  have q1 : (if (if c0 = 0 then (0 : Int32) else if c0 = 3 then 1 else 2) = (if c0 = 0 then (0 : Int32) else if c0 = 3 then 1 else 2) then some 1 else none) = some 1 := if_pos rfl
  refine nw_icmp_eq (tgt := 2822) C dL_law_2817 (by decide) q1 (fun _ _ => ?_) (fun hn _ => absurd rfl hn)
  refine nw_iload C dL_law_2822 1 rfl ?_
  by_cases h0 : c0 = 0
  · subst h0
    have e4 : v0 = b0 := e4 rfl
    subst e4
    have q2 : (if (0 : Int32) = 0 then some 1 else none) = some 1 := rfl
    refine nw_if_ne (tgt := 2839) C dL_law_2824 (by decide) q2 (fun _ _ => ?_) (fun hn _ => absurd rfl hn)
    refine nw_aload_n C dL_law_2827 rfl 5 rfl ?_
    refine nw_iconst (v := 0) C dL_law_2828 (by decide) ?_
    refine nw_lald C (60 + (mw g am τ1).length) oW_at dL_law_2829 (by unfold vp_in; decide) ?_
    refine nw_iload C dL_law_2830 0 rfl ?_
    refine nw_i2l C dL_law_2832 ?_
    refine nw_lcmp C dL_law_2833 ?_
    refine nw_st (st' := [.int (lg_cmp v0.toInt64 v0.toInt64)]) rfl ?_
    rw [lgc_eq]
    refine nw_if_eq (tgt := 2839) C dL_law_2834 (by decide) q2 (fun _ _ => ?_) (fun hn _ => absurd rfl hn)
    refine nw_goto (tgt := 2867) C dL_law_2839 (by decide) ?_
    exact nw_lv (lv' := [(0, .ref b), (1, .ref (ad 0)), (2, .ref (am 112)), (3, .ref ao), (4, .int x4)]) [2, 3, 4, 5, 6] rfl (k σ1 τ1 ta1 _ hI hp3 hp4)
  · have q2 : (if (if c0 = 0 then (0 : Int32) else if c0 = 3 then 1 else 2) = 0 then none else some 1) = some 1 := if_neg (by rcases hc with rfl | rfl | rfl; exact absurd rfl h0; all_goals decide)
    refine nw_if_ne (tgt := 2839) C dL_law_2824 (by decide) q2 (fun _ h9 => by cases h9) (fun _ _ => ?_)
    refine nw_goto (tgt := 2867) C dL_law_2839 (by decide) ?_
    exact nw_lv (lv' := [(0, .ref b), (1, .ref (ad 0)), (2, .ref (am 112)), (3, .ref ao), (4, .int x4)]) [2, 3, 4, 5, 6] rfl (k σ1 τ1 ta1 _ hI hp3 hp4)
set_option maxHeartbeats 4000000 in
set_option maxRecDepth 100000 in
theorem lc_count (C : Cx g p s m args meth c A 7 cL_law "ForestCourtsLaw") (hl : l.stackTraces = false) {Inv : CS → CS → Prop} {σ τ : CS} {b L ao : Nat} {xs : Nat → Int32} {x4 : Int32} {f : Nat → Int64} {cells slots : Nat} (hX : va_X b L xs s s.heap) (hbl : b < s.heap.size) (hbA : ¬ A b) (h1 : vp_in (x4 + 1) L) (hg : AgN Inv (f_FC_count (xs (x4 + 1).toNatClampNeg) σ) (f_M_count (xs (x4 + 1).toNatClampNeg) τ)) (hφ2 : ph σ.2.2 ≤ BB) (hcl : cells + (BB - ph σ.2.2 + 1) ≤ 601024) (hsl : slots + (2 * (BB - ph σ.2.2) + 6) ≤ 7293033)
    (k : ∀ (σ1 τ1 : CS) (ta1 : Nat → Nat) (f1 : Nat → Int64), Inv σ1 τ1 → ph σ.2.2 ≤ ph σ1.2.2 → ph σ1.2.2 ≤ BB → Nw g p l e room_1 s m args below meth c A Q 7 (cw g ad ta1 σ1 ++ (mw g am τ1 ++ [oWl g ao f1])) (cells + (ph σ1.2.2 - ph σ.2.2 + 1)) (slots + (2 * (ph σ1.2.2 - ph σ.2.2) + 6)) [(0, .ref b), (1, .ref (ad 0)), (2, .ref (am 112)), (3, .ref ao), (4, .int x4)] 2867 []) : Nw g p l e room_1 s m args below meth c A Q 7 (cw g ad ta σ ++ (mw g am τ ++ [oWl g ao f])) (cells) (slots) [(0, .ref b), (1, .ref (ad 0)), (2, .ref (am 112)), (3, .ref ao), (4, .int x4)] 2842 [] := by
  obtain ⟨v0, σ1, τ1, e1, e2, hI⟩ := hg
  refine nw_aload_n C dL_law_2842 rfl 1 rfl ?_
  refine nw_aload_n C dL_law_2843 rfl 0 rfl ?_
  refine nw_iload C dL_law_2844 4 rfl ?_
  refine nw_iconst (v := 1) C dL_law_2846 (by decide) ?_
  refine nw_iadd C dL_law_2847 ?_
  refine nw_scr C hX hbl hbA h1 dL_law_2848 ?_
  refine nw_callV (q0 := 0) (As := [.int (xs (x4 + 1).toNatClampNeg)]) (rest := []) C (c_FC_count e1 hφ2) tw_662 kv_X11_count.1 kv_X11_count.2.1 kv_X11_count.2.2.1 kv_X11_count.2.2.2.1 kv_X11_count.2.2.2.2.1 kv_X11_count.2.2.2.2.2 cl_FC rfl ⟨Nat.le_of_ble_eq_true rfl, Nat.le_of_ble_eq_true rfl⟩ ⟨by show _ ≤ 601024; omega, by show _ ≤ 7293033; omega⟩ rfl dL_law_2849 rfl (Nat.le_of_ble_eq_true rfl) ?_
  rintro w ws1 ⟨rfl, ⟨ta1, rfl⟩, hp3, hp4⟩
  refine nw_aload_n C dL_law_2852 rfl 2 rfl ?_
  refine nw_aload_n C dL_law_2853 rfl 0 rfl ?_
  refine nw_iload C dL_law_2854 4 rfl ?_
  refine nw_iconst (v := 1) C dL_law_2856 (by decide) ?_
  refine nw_iadd C dL_law_2857 ?_
  refine nw_scr C hX hbl hbA h1 dL_law_2858 ?_
  refine nz_model (As := [.int (xs (x4 + 1).toNatClampNeg)]) (rest := [.int v0]) C (c_M_count e2) tw_2394 kv_X12_count ⟨Nat.le_of_ble_eq_true rfl, Nat.le_of_ble_eq_true rfl⟩ ⟨by show _ ≤ 601024; omega, by show _ ≤ 7293033; omega⟩ rfl dL_law_2859 rfl (Nat.le_of_ble_eq_true rfl) ?_
  have q1 : (if v0 = v0 then some 1 else none) = some 1 := if_pos rfl
  refine nw_icmp_eq (tgt := 2867) C dL_law_2862 (by decide) q1 (fun _ _ => ?_) (fun hn _ => absurd rfl hn)
  exact nw_widen (by omega) (by omega) (k σ1 τ1 ta1 _ hI hp3 hp4)
end
