theorem lg_cmp_same (x : Int64) : lg_cmp x x = 0 := by
  unfold lg_cmp
  simp
set_option maxHeartbeats 4000000 in
set_option maxRecDepth 100000 in
theorem lc_nodes {κ : Rx} {ct : Nat → ClassId} {tF : Nat} {ad am : Nat → Nat} {REL : Mm → Mm → Prop} {b L j : Nat} {xs : Nat → Int32} (X : ∀ w : Mm → va_W, CX (kset κ w) ct tF cL_law 4 RL) (eR : kR κ = room_1) (hX : ∀ w : Mm → va_W, SX (kset κ w) b L xs) (hL : L ≤ 2560) (hj : j + 5 ≤ L) {Mc Mr : Mm} (hR : REL Mc Mr) (hal : Al_nodes REL) (hk : ∀ Mc Mr, REL Mc Mr → Zl κ ad am ct 1253 [(0, .ref b), (1, .ref (ad 0)), (2, .ref (am 0)), (3, .int (nI j))] [] Mc Mr) : Zl κ ad am ct 216 [(0, .ref b), (1, .ref (ad 0)), (2, .ref (am 0)), (3, .int (nI j))] [] Mc Mr := by
  obtain ⟨rc, rm, hc, hm, he, hr⟩ := hal Mc Mr (xs (j + 1)) hR
  unfold Zl
  refine z_aload_n (X _) dL_law_216 1 rfl rfl ?_
  refine z_aload_n (X _) dL_law_217 0 rfl rfl ?_
  refine z_iload_n (X _) dL_law_218 3 rfl rfl ?_
  refine z_iconst (v := nI 1) (X _) dL_law_219 (by decide) ?_
  refine z_iadd (X _) dL_law_220 ?_
  refine z_sld (v := xs (j + 1)) (X _) (hX _) (sx_at xs (by omega) hL) dL_law_221 ?_
  refine z_cVI (As := [.int (xs (j + 1))]) (st := []) (X _) (tX6_nodes (kC_at ad ct (wMs am ct Mr)) Mc hc) w_623 mvX6_nodes (by rw [show kR (kset κ _) = room_1 from eR]; exact ⟨Nat.le_of_ble_eq_true rfl, Nat.le_of_ble_eq_true rfl⟩) ⟨rfl, rfl⟩ rfl (Nat.le_of_ble_eq_true rfl) (((kC_at ad ct (wMs am ct Mr)).2.2.2.2.2.2.1) _) rfl rfl dL_law_222 ?_
  refine z_aload_n (X _) dL_law_225 2 rfl rfl ?_
  refine z_aload_n (X _) dL_law_226 0 rfl rfl ?_
  refine z_iload_n (X _) dL_law_227 3 rfl rfl ?_
  refine z_iconst (v := nI 1) (X _) dL_law_228 (by decide) ?_
  refine z_iadd (X _) dL_law_229 ?_
  refine z_sld (v := xs (j + 1)) (X _) (hX _) (sx_at xs (by omega) hL) dL_law_230 ?_
  show Zj (kset κ (fun M => wCs ad ct (mk Mc [] Mc.2.1 [(41, rc.2.1), (44, rc.2.2)]) ++ wMs am ct M)) 4 _ _ _ Mr
  refine z_cVI (As := [.int (xs (j + 1))]) (st := [.int rc.1]) (X _) (tX7_nodes (kM_at ad am ct (mk Mc [] Mc.2.1 [(41, rc.2.1), (44, rc.2.2)])) Mr hm) w_627 mvX7_nodes (by rw [show kR (kset κ _) = room_1 from eR]; exact ⟨Nat.le_of_ble_eq_true rfl, Nat.le_of_ble_eq_true rfl⟩) ⟨rfl, rfl⟩ rfl (Nat.le_of_ble_eq_true rfl) (((kM_at ad am ct (mk Mc [] Mc.2.1 [(41, rc.2.1), (44, rc.2.2)])).1) _) rfl rfl dL_law_231 ?_
  refine z_icmp_eq (tgt := 1253) (X _) dL_law_234 (by decide) (fun _ => ?_) (fun c => absurd he c)
  exact hk _ _ hr
set_option maxHeartbeats 4000000 in
set_option maxRecDepth 100000 in
theorem lc_row {κ : Rx} {ct : Nat → ClassId} {tF : Nat} {ad am : Nat → Nat} {REL : Mm → Mm → Prop} {b L j : Nat} {xs : Nat → Int32} (X : ∀ w : Mm → va_W, CX (kset κ w) ct tF cL_law 4 RL) (eR : kR κ = room_1) (hX : ∀ w : Mm → va_W, SX (kset κ w) b L xs) (hL : L ≤ 2560) (hj : j + 5 ≤ L) {Mc Mr : Mm} (hR : REL Mc Mr) (hal : Al_row REL) (hk : ∀ Mc Mr, REL Mc Mr → Zl κ ad am ct 1253 [(0, .ref b), (1, .ref (ad 0)), (2, .ref (am 0)), (3, .int (nI j))] [] Mc Mr) : Zl κ ad am ct 239 [(0, .ref b), (1, .ref (ad 0)), (2, .ref (am 0)), (3, .int (nI j))] [] Mc Mr := by
  obtain ⟨rc, rm, hc, hm, he, hr⟩ := hal Mc Mr (xs (j + 1)) hR
  unfold Zl
  refine z_aload_n (X _) dL_law_239 1 rfl rfl ?_
  refine z_aload_n (X _) dL_law_240 0 rfl rfl ?_
  refine z_iload_n (X _) dL_law_241 3 rfl rfl ?_
  refine z_iconst (v := nI 1) (X _) dL_law_242 (by decide) ?_
  refine z_iadd (X _) dL_law_243 ?_
  refine z_sld (v := xs (j + 1)) (X _) (hX _) (sx_at xs (by omega) hL) dL_law_244 ?_
  refine z_cVI (As := [.int (xs (j + 1))]) (st := []) (X _) (tX6_row (kC_at ad ct (wMs am ct Mr)) Mc hc) w_631 mvX6_row (by rw [show kR (kset κ _) = room_1 from eR]; exact ⟨Nat.le_of_ble_eq_true rfl, Nat.le_of_ble_eq_true rfl⟩) ⟨rfl, rfl⟩ rfl (Nat.le_of_ble_eq_true rfl) (((kC_at ad ct (wMs am ct Mr)).2.2.2.2.2.2.1) _) rfl rfl dL_law_245 ?_
  refine z_aload_n (X _) dL_law_248 2 rfl rfl ?_
  refine z_aload_n (X _) dL_law_249 0 rfl rfl ?_
  refine z_iload_n (X _) dL_law_250 3 rfl rfl ?_
  refine z_iconst (v := nI 1) (X _) dL_law_251 (by decide) ?_
  refine z_iadd (X _) dL_law_252 ?_
  refine z_sld (v := xs (j + 1)) (X _) (hX _) (sx_at xs (by omega) hL) dL_law_253 ?_
  show Zj (kset κ (fun M => wCs ad ct (mk Mc [(15, rc.2.1)] Mc.2.1 [(41, rc.2.2.1), (44, rc.2.2.2)]) ++ wMs am ct M)) 4 _ _ _ Mr
  refine z_cVI (As := [.int (xs (j + 1))]) (st := [.int rc.1]) (X _) (tX7_row (kM_at ad am ct (mk Mc [(15, rc.2.1)] Mc.2.1 [(41, rc.2.2.1), (44, rc.2.2.2)])) Mr hm) w_635 mvX7_row (by rw [show kR (kset κ _) = room_1 from eR]; exact ⟨Nat.le_of_ble_eq_true rfl, Nat.le_of_ble_eq_true rfl⟩) ⟨rfl, rfl⟩ rfl (Nat.le_of_ble_eq_true rfl) (((kM_at ad am ct (mk Mc [(15, rc.2.1)] Mc.2.1 [(41, rc.2.2.1), (44, rc.2.2.2)])).1) _) rfl rfl dL_law_254 ?_
  refine z_icmp_eq (tgt := 1253) (X _) dL_law_257 (by decide) (fun _ => ?_) (fun c => absurd he c)
  exact hk _ _ hr
set_option maxHeartbeats 4000000 in
set_option maxRecDepth 100000 in
theorem lc_of {κ : Rx} {ct : Nat → ClassId} {tF : Nat} {ad am : Nat → Nat} {REL : Mm → Mm → Prop} {b L j : Nat} {xs : Nat → Int32} (X : ∀ w : Mm → va_W, CX (kset κ w) ct tF cL_law 4 RL) (eR : kR κ = room_1) (hX : ∀ w : Mm → va_W, SX (kset κ w) b L xs) (hL : L ≤ 2560) (hj : j + 5 ≤ L) {Mc Mr : Mm} (hR : REL Mc Mr) (hal : Al_of REL) (hk : ∀ Mc Mr, REL Mc Mr → Zl κ ad am ct 1253 [(0, .ref b), (1, .ref (ad 0)), (2, .ref (am 0)), (3, .int (nI j))] [] Mc Mr) : Zl κ ad am ct 262 [(0, .ref b), (1, .ref (ad 0)), (2, .ref (am 0)), (3, .int (nI j))] [] Mc Mr := by
  obtain ⟨rc, rm, hc, hm, he, hr⟩ := hal Mc Mr (xs (j + 1)) (xs (j + 2)) hR
  unfold Zl
  refine z_aload_n (X _) dL_law_262 1 rfl rfl ?_
  refine z_aload_n (X _) dL_law_263 0 rfl rfl ?_
  refine z_iload_n (X _) dL_law_264 3 rfl rfl ?_
  refine z_iconst (v := nI 1) (X _) dL_law_265 (by decide) ?_
  refine z_iadd (X _) dL_law_266 ?_
  refine z_sld (v := xs (j + 1)) (X _) (hX _) (sx_at xs (by omega) hL) dL_law_267 ?_
  refine z_aload_n (X _) dL_law_268 0 rfl rfl ?_
  refine z_iload_n (X _) dL_law_269 3 rfl rfl ?_
  refine z_iconst (v := nI 2) (X _) dL_law_270 (by decide) ?_
  refine z_iadd (X _) dL_law_271 ?_
  refine z_sld (v := xs (j + 2)) (X _) (hX _) (sx_at xs (by omega) hL) dL_law_272 ?_
  refine z_cVI (As := [.int (xs (j + 1)), .int (xs (j + 2))]) (st := []) (X _) (tX6_of (kC_at ad ct (wMs am ct Mr)) Mc hc) w_639 mvX6_of (by rw [show kR (kset κ _) = room_1 from eR]; exact ⟨Nat.le_of_ble_eq_true rfl, Nat.le_of_ble_eq_true rfl⟩) ⟨rfl, rfl⟩ rfl (Nat.le_of_ble_eq_true rfl) (((kC_at ad ct (wMs am ct Mr)).2.2.2.2.2.2.1) _) rfl rfl dL_law_273 ?_
  refine z_aload_n (X _) dL_law_276 2 rfl rfl ?_
  refine z_aload_n (X _) dL_law_277 0 rfl rfl ?_
  refine z_iload_n (X _) dL_law_278 3 rfl rfl ?_
  refine z_iconst (v := nI 1) (X _) dL_law_279 (by decide) ?_
  refine z_iadd (X _) dL_law_280 ?_
  refine z_sld (v := xs (j + 1)) (X _) (hX _) (sx_at xs (by omega) hL) dL_law_281 ?_
  refine z_aload_n (X _) dL_law_282 0 rfl rfl ?_
  refine z_iload_n (X _) dL_law_283 3 rfl rfl ?_
  refine z_iconst (v := nI 2) (X _) dL_law_284 (by decide) ?_
  refine z_iadd (X _) dL_law_285 ?_
  refine z_sld (v := xs (j + 2)) (X _) (hX _) (sx_at xs (by omega) hL) dL_law_286 ?_
  show Zj (kset κ (fun M => wCs ad ct Mc ++ wMs am ct M)) 4 _ _ _ Mr
  refine z_cVI (As := [.int (xs (j + 1)), .int (xs (j + 2))]) (st := [.int rc]) (X _) (tX7_of (kM_at ad am ct Mc) Mr hm) w_643 mvX7_of (by rw [show kR (kset κ _) = room_1 from eR]; exact ⟨Nat.le_of_ble_eq_true rfl, Nat.le_of_ble_eq_true rfl⟩) ⟨rfl, rfl⟩ rfl (Nat.le_of_ble_eq_true rfl) (((kM_at ad am ct Mc).1) _) rfl rfl dL_law_287 ?_
  refine z_icmp_eq (tgt := 1253) (X _) dL_law_290 (by decide) (fun _ => ?_) (fun c => absurd he c)
  exact hk _ _ hr
set_option maxHeartbeats 4000000 in
set_option maxRecDepth 100000 in
theorem lc_number {κ : Rx} {ct : Nat → ClassId} {tF : Nat} {ad am : Nat → Nat} {REL : Mm → Mm → Prop} {b L j : Nat} {xs : Nat → Int32} (X : ∀ w : Mm → va_W, CX (kset κ w) ct tF cL_law 4 RL) (eR : kR κ = room_1) (hX : ∀ w : Mm → va_W, SX (kset κ w) b L xs) (hL : L ≤ 2560) (hj : j + 5 ≤ L) {Mc Mr : Mm} (hR : REL Mc Mr) (hal : Al_number REL) (hk : ∀ Mc Mr, REL Mc Mr → Zl κ ad am ct 1253 [(0, .ref b), (1, .ref (ad 0)), (2, .ref (am 0)), (3, .int (nI j))] [] Mc Mr) : Zl κ ad am ct 295 [(0, .ref b), (1, .ref (ad 0)), (2, .ref (am 0)), (3, .int (nI j))] [] Mc Mr := by
  obtain ⟨rc, rm, hc, hm, he, hr⟩ := hal Mc Mr (xs (j + 1)) hR
  unfold Zl
  refine z_aload_n (X _) dL_law_295 1 rfl rfl ?_
  refine z_aload_n (X _) dL_law_296 0 rfl rfl ?_
  refine z_iload_n (X _) dL_law_297 3 rfl rfl ?_
  refine z_iconst (v := nI 1) (X _) dL_law_298 (by decide) ?_
  refine z_iadd (X _) dL_law_299 ?_
  refine z_sld (v := xs (j + 1)) (X _) (hX _) (sx_at xs (by omega) hL) dL_law_300 ?_
  refine z_cVI (As := [.int (xs (j + 1))]) (st := []) (X _) (tX6_number (kC_at ad ct (wMs am ct Mr)) Mc hc) w_647 mvX6_number (by rw [show kR (kset κ _) = room_1 from eR]; exact ⟨Nat.le_of_ble_eq_true rfl, Nat.le_of_ble_eq_true rfl⟩) ⟨rfl, rfl⟩ rfl (Nat.le_of_ble_eq_true rfl) (((kC_at ad ct (wMs am ct Mr)).2.2.2.2.2.2.1) _) rfl rfl dL_law_301 ?_
  refine z_aload_n (X _) dL_law_304 2 rfl rfl ?_
  refine z_aload_n (X _) dL_law_305 0 rfl rfl ?_
  refine z_iload_n (X _) dL_law_306 3 rfl rfl ?_
  refine z_iconst (v := nI 1) (X _) dL_law_307 (by decide) ?_
  refine z_iadd (X _) dL_law_308 ?_
  refine z_sld (v := xs (j + 1)) (X _) (hX _) (sx_at xs (by omega) hL) dL_law_309 ?_
  show Zj (kset κ (fun M => wCs ad ct (mk Mc [(15, rc.2.1)] Mc.2.1 [(41, rc.2.2.1), (44, rc.2.2.2)]) ++ wMs am ct M)) 4 _ _ _ Mr
  refine z_cVI (As := [.int (xs (j + 1))]) (st := [.int rc.1]) (X _) (tX7_number (kM_at ad am ct (mk Mc [(15, rc.2.1)] Mc.2.1 [(41, rc.2.2.1), (44, rc.2.2.2)])) Mr hm) w_651 mvX7_number (by rw [show kR (kset κ _) = room_1 from eR]; exact ⟨Nat.le_of_ble_eq_true rfl, Nat.le_of_ble_eq_true rfl⟩) ⟨rfl, rfl⟩ rfl (Nat.le_of_ble_eq_true rfl) (((kM_at ad am ct (mk Mc [(15, rc.2.1)] Mc.2.1 [(41, rc.2.2.1), (44, rc.2.2.2)])).1) _) rfl rfl dL_law_310 ?_
  refine z_icmp_eq (tgt := 1253) (X _) dL_law_313 (by decide) (fun _ => ?_) (fun c => absurd he c)
  exact hk _ _ hr
set_option maxHeartbeats 4000000 in
set_option maxRecDepth 100000 in
theorem lc_which {κ : Rx} {ct : Nat → ClassId} {tF : Nat} {ad am : Nat → Nat} {REL : Mm → Mm → Prop} {b L j : Nat} {xs : Nat → Int32} (X : ∀ w : Mm → va_W, CX (kset κ w) ct tF cL_law 4 RL) (eR : kR κ = room_1) (hX : ∀ w : Mm → va_W, SX (kset κ w) b L xs) (hL : L ≤ 2560) (hj : j + 5 ≤ L) {Mc Mr : Mm} (hR : REL Mc Mr) (hal : Al_which REL) (hk : ∀ Mc Mr, REL Mc Mr → Zl κ ad am ct 1253 [(0, .ref b), (1, .ref (ad 0)), (2, .ref (am 0)), (3, .int (nI j))] [] Mc Mr) : Zl κ ad am ct 318 [(0, .ref b), (1, .ref (ad 0)), (2, .ref (am 0)), (3, .int (nI j))] [] Mc Mr := by
  obtain ⟨rc, rm, hc, hm, he, hr⟩ := hal Mc Mr  hR
  unfold Zl
  refine z_aload_n (X _) dL_law_318 1 rfl rfl ?_
  refine z_cVI (As := []) (st := []) (X _) (tX6_which (kC_at ad ct (wMs am ct Mr)) Mc hc) w_655 mvX6_which (by rw [show kR (kset κ _) = room_1 from eR]; exact ⟨Nat.le_of_ble_eq_true rfl, Nat.le_of_ble_eq_true rfl⟩) ⟨rfl, rfl⟩ rfl (Nat.le_of_ble_eq_true rfl) (((kC_at ad ct (wMs am ct Mr)).2.2.2.2.2.2.1) _) rfl rfl dL_law_319 ?_
  refine z_aload_n (X _) dL_law_322 2 rfl rfl ?_
  show Zj (kset κ (fun M => wCs ad ct Mc ++ wMs am ct M)) 4 _ _ _ Mr
  refine z_cVI (As := []) (st := [.int rc]) (X _) (tX7_which (kM_at ad am ct Mc) Mr hm) w_659 mvX7_which (by rw [show kR (kset κ _) = room_1 from eR]; exact ⟨Nat.le_of_ble_eq_true rfl, Nat.le_of_ble_eq_true rfl⟩) ⟨rfl, rfl⟩ rfl (Nat.le_of_ble_eq_true rfl) (((kM_at ad am ct Mc).1) _) rfl rfl dL_law_323 ?_
  refine z_icmp_eq (tgt := 1253) (X _) dL_law_326 (by decide) (fun _ => ?_) (fun c => absurd he c)
  exact hk _ _ hr
set_option maxHeartbeats 4000000 in
set_option maxRecDepth 100000 in
theorem lc_many {κ : Rx} {ct : Nat → ClassId} {tF : Nat} {ad am : Nat → Nat} {REL : Mm → Mm → Prop} {b L j : Nat} {xs : Nat → Int32} (X : ∀ w : Mm → va_W, CX (kset κ w) ct tF cL_law 4 RL) (eR : kR κ = room_1) (hX : ∀ w : Mm → va_W, SX (kset κ w) b L xs) (hL : L ≤ 2560) (hj : j + 5 ≤ L) {Mc Mr : Mm} (hR : REL Mc Mr) (hal : Al_many REL) (hk : ∀ Mc Mr, REL Mc Mr → Zl κ ad am ct 1253 [(0, .ref b), (1, .ref (ad 0)), (2, .ref (am 0)), (3, .int (nI j))] [] Mc Mr) : Zl κ ad am ct 331 [(0, .ref b), (1, .ref (ad 0)), (2, .ref (am 0)), (3, .int (nI j))] [] Mc Mr := by
  obtain ⟨rc, rm, hc, hm, he, hr⟩ := hal Mc Mr (xs (j + 1)) hR
  unfold Zl
  refine z_aload_n (X _) dL_law_331 1 rfl rfl ?_
  refine z_aload_n (X _) dL_law_332 0 rfl rfl ?_
  refine z_iload_n (X _) dL_law_333 3 rfl rfl ?_
  refine z_iconst (v := nI 1) (X _) dL_law_334 (by decide) ?_
  refine z_iadd (X _) dL_law_335 ?_
  refine z_sld (v := xs (j + 1)) (X _) (hX _) (sx_at xs (by omega) hL) dL_law_336 ?_
  refine z_cVI (As := [.int (xs (j + 1))]) (st := []) (X _) (tX6_many (kC_at ad ct (wMs am ct Mr)) Mc hc) w_660 mvX6_many (by rw [show kR (kset κ _) = room_1 from eR]; exact ⟨Nat.le_of_ble_eq_true rfl, Nat.le_of_ble_eq_true rfl⟩) ⟨rfl, rfl⟩ rfl (Nat.le_of_ble_eq_true rfl) (((kC_at ad ct (wMs am ct Mr)).2.2.2.2.2.2.1) _) rfl rfl dL_law_337 ?_
  refine z_aload_n (X _) dL_law_340 2 rfl rfl ?_
  refine z_aload_n (X _) dL_law_341 0 rfl rfl ?_
  refine z_iload_n (X _) dL_law_342 3 rfl rfl ?_
  refine z_iconst (v := nI 1) (X _) dL_law_343 (by decide) ?_
  refine z_iadd (X _) dL_law_344 ?_
  refine z_sld (v := xs (j + 1)) (X _) (hX _) (sx_at xs (by omega) hL) dL_law_345 ?_
  show Zj (kset κ (fun M => wCs ad ct Mc ++ wMs am ct M)) 4 _ _ _ Mr
  refine z_cVI (As := [.int (xs (j + 1))]) (st := [.int rc]) (X _) (tX7_many (kM_at ad am ct Mc) Mr hm) w_664 mvX7_many (by rw [show kR (kset κ _) = room_1 from eR]; exact ⟨Nat.le_of_ble_eq_true rfl, Nat.le_of_ble_eq_true rfl⟩) ⟨rfl, rfl⟩ rfl (Nat.le_of_ble_eq_true rfl) (((kM_at ad am ct Mc).1) _) rfl rfl dL_law_346 ?_
  refine z_icmp_eq (tgt := 1253) (X _) dL_law_349 (by decide) (fun _ => ?_) (fun c => absurd he c)
  exact hk _ _ hr
set_option maxHeartbeats 4000000 in
set_option maxRecDepth 100000 in
theorem lc_digits {κ : Rx} {ct : Nat → ClassId} {tF : Nat} {ad am : Nat → Nat} {REL : Mm → Mm → Prop} {b L j : Nat} {xs : Nat → Int32} (X : ∀ w : Mm → va_W, CX (kset κ w) ct tF cL_law 4 RL) (eR : kR κ = room_1) (hX : ∀ w : Mm → va_W, SX (kset κ w) b L xs) (hL : L ≤ 2560) (hj : j + 5 ≤ L) {Mc Mr : Mm} (hR : REL Mc Mr) (hal : Al_digits REL) (hk : ∀ Mc Mr, REL Mc Mr → Zl κ ad am ct 1253 [(0, .ref b), (1, .ref (ad 0)), (2, .ref (am 0)), (3, .int (nI j))] [] Mc Mr) : Zl κ ad am ct 354 [(0, .ref b), (1, .ref (ad 0)), (2, .ref (am 0)), (3, .int (nI j))] [] Mc Mr := by
  obtain ⟨rc, rm, hc, hm, he, hr⟩ := hal Mc Mr  hR
  unfold Zl
  refine z_aload_n (X _) dL_law_354 1 rfl rfl ?_
  refine z_cVI (As := []) (st := []) (X _) (tX6_digits (kC_at ad ct (wMs am ct Mr)) Mc hc) w_668 mvX6_digits (by rw [show kR (kset κ _) = room_1 from eR]; exact ⟨Nat.le_of_ble_eq_true rfl, Nat.le_of_ble_eq_true rfl⟩) ⟨rfl, rfl⟩ rfl (Nat.le_of_ble_eq_true rfl) (((kC_at ad ct (wMs am ct Mr)).2.2.2.2.2.2.1) _) rfl rfl dL_law_355 ?_
  refine z_aload_n (X _) dL_law_358 2 rfl rfl ?_
  show Zj (kset κ (fun M => wCs ad ct Mc ++ wMs am ct M)) 4 _ _ _ Mr
  refine z_cVI (As := []) (st := [.int rc]) (X _) (tX7_digits (kM_at ad am ct Mc) Mr hm) w_672 mvX7_digits (by rw [show kR (kset κ _) = room_1 from eR]; exact ⟨Nat.le_of_ble_eq_true rfl, Nat.le_of_ble_eq_true rfl⟩) ⟨rfl, rfl⟩ rfl (Nat.le_of_ble_eq_true rfl) (((kM_at ad am ct Mc).1) _) rfl rfl dL_law_359 ?_
  refine z_icmp_eq (tgt := 1253) (X _) dL_law_362 (by decide) (fun _ => ?_) (fun c => absurd he c)
  exact hk _ _ hr
set_option maxHeartbeats 4000000 in
set_option maxRecDepth 100000 in
theorem lc_turn {κ : Rx} {ct : Nat → ClassId} {tF : Nat} {ad am : Nat → Nat} {REL : Mm → Mm → Prop} {b L j : Nat} {xs : Nat → Int32} (X : ∀ w : Mm → va_W, CX (kset κ w) ct tF cL_law 4 RL) (eR : kR κ = room_1) (hX : ∀ w : Mm → va_W, SX (kset κ w) b L xs) (hL : L ≤ 2560) (hj : j + 5 ≤ L) {Mc Mr : Mm} (hR : REL Mc Mr) (hal : Al_turn REL) (hk : ∀ Mc Mr, REL Mc Mr → Zl κ ad am ct 1253 [(0, .ref b), (1, .ref (ad 0)), (2, .ref (am 0)), (3, .int (nI j))] [] Mc Mr) : Zl κ ad am ct 367 [(0, .ref b), (1, .ref (ad 0)), (2, .ref (am 0)), (3, .int (nI j))] [] Mc Mr := by
  obtain ⟨rc, rm, hc, hm, he, hr⟩ := hal Mc Mr (xs (j + 1)) hR
  unfold Zl
  refine z_aload_n (X _) dL_law_367 1 rfl rfl ?_
  refine z_aload_n (X _) dL_law_368 0 rfl rfl ?_
  refine z_iload_n (X _) dL_law_369 3 rfl rfl ?_
  refine z_iconst (v := nI 1) (X _) dL_law_370 (by decide) ?_
  refine z_iadd (X _) dL_law_371 ?_
  refine z_sld (v := xs (j + 1)) (X _) (hX _) (sx_at xs (by omega) hL) dL_law_372 ?_
  refine z_cVI (As := [.int (xs (j + 1))]) (st := []) (X _) (tX6_turn (kC_at ad ct (wMs am ct Mr)) Mc hc) w_676 mvX6_turn (by rw [show kR (kset κ _) = room_1 from eR]; exact ⟨Nat.le_of_ble_eq_true rfl, Nat.le_of_ble_eq_true rfl⟩) ⟨rfl, rfl⟩ rfl (Nat.le_of_ble_eq_true rfl) (((kC_at ad ct (wMs am ct Mr)).2.2.2.2.2.2.1) _) rfl rfl dL_law_373 ?_
  refine z_aload_n (X _) dL_law_376 2 rfl rfl ?_
  refine z_aload_n (X _) dL_law_377 0 rfl rfl ?_
  refine z_iload_n (X _) dL_law_378 3 rfl rfl ?_
  refine z_iconst (v := nI 1) (X _) dL_law_379 (by decide) ?_
  refine z_iadd (X _) dL_law_380 ?_
  refine z_sld (v := xs (j + 1)) (X _) (hX _) (sx_at xs (by omega) hL) dL_law_381 ?_
  show Zj (kset κ (fun M => wCs ad ct (mk Mc [(15, rc.2.1)] Mc.2.1 [(41, rc.2.2.1), (44, rc.2.2.2)]) ++ wMs am ct M)) 4 _ _ _ Mr
  refine z_cVI (As := [.int (xs (j + 1))]) (st := [.int rc.1]) (X _) (tX7_turn (kM_at ad am ct (mk Mc [(15, rc.2.1)] Mc.2.1 [(41, rc.2.2.1), (44, rc.2.2.2)])) Mr hm) w_680 mvX7_turn (by rw [show kR (kset κ _) = room_1 from eR]; exact ⟨Nat.le_of_ble_eq_true rfl, Nat.le_of_ble_eq_true rfl⟩) ⟨rfl, rfl⟩ rfl (Nat.le_of_ble_eq_true rfl) (((kM_at ad am ct (mk Mc [(15, rc.2.1)] Mc.2.1 [(41, rc.2.2.1), (44, rc.2.2.2)])).1) _) rfl rfl dL_law_382 ?_
  refine z_icmp_eq (tgt := 1253) (X _) dL_law_385 (by decide) (fun _ => ?_) (fun c => absurd he c)
  exact hk _ _ hr
set_option maxHeartbeats 4000000 in
set_option maxRecDepth 100000 in
theorem lc_back {κ : Rx} {ct : Nat → ClassId} {tF : Nat} {ad am : Nat → Nat} {REL : Mm → Mm → Prop} {b L j : Nat} {xs : Nat → Int32} (X : ∀ w : Mm → va_W, CX (kset κ w) ct tF cL_law 4 RL) (eR : kR κ = room_1) (hX : ∀ w : Mm → va_W, SX (kset κ w) b L xs) (hL : L ≤ 2560) (hj : j + 5 ≤ L) {Mc Mr : Mm} (hR : REL Mc Mr) (hal : Al_back REL) (hk : ∀ Mc Mr, REL Mc Mr → Zl κ ad am ct 1253 [(0, .ref b), (1, .ref (ad 0)), (2, .ref (am 0)), (3, .int (nI j))] [] Mc Mr) : Zl κ ad am ct 390 [(0, .ref b), (1, .ref (ad 0)), (2, .ref (am 0)), (3, .int (nI j))] [] Mc Mr := by
  obtain ⟨rc, rm, hc, hm, he, hr⟩ := hal Mc Mr (xs (j + 1)) hR
  unfold Zl
  refine z_aload_n (X _) dL_law_390 1 rfl rfl ?_
  refine z_aload_n (X _) dL_law_391 0 rfl rfl ?_
  refine z_iload_n (X _) dL_law_392 3 rfl rfl ?_
  refine z_iconst (v := nI 1) (X _) dL_law_393 (by decide) ?_
  refine z_iadd (X _) dL_law_394 ?_
  refine z_sld (v := xs (j + 1)) (X _) (hX _) (sx_at xs (by omega) hL) dL_law_395 ?_
  refine z_cVI (As := [.int (xs (j + 1))]) (st := []) (X _) (tX6_back (kC_at ad ct (wMs am ct Mr)) Mc hc) w_684 mvX6_back (by rw [show kR (kset κ _) = room_1 from eR]; exact ⟨Nat.le_of_ble_eq_true rfl, Nat.le_of_ble_eq_true rfl⟩) ⟨rfl, rfl⟩ rfl (Nat.le_of_ble_eq_true rfl) (((kC_at ad ct (wMs am ct Mr)).2.2.2.2.2.2.1) _) rfl rfl dL_law_396 ?_
  refine z_aload_n (X _) dL_law_399 2 rfl rfl ?_
  refine z_aload_n (X _) dL_law_400 0 rfl rfl ?_
  refine z_iload_n (X _) dL_law_401 3 rfl rfl ?_
  refine z_iconst (v := nI 1) (X _) dL_law_402 (by decide) ?_
  refine z_iadd (X _) dL_law_403 ?_
  refine z_sld (v := xs (j + 1)) (X _) (hX _) (sx_at xs (by omega) hL) dL_law_404 ?_
  show Zj (kset κ (fun M => wCs ad ct (mk Mc [(15, rc.2.1)] Mc.2.1 [(41, rc.2.2.1), (44, rc.2.2.2)]) ++ wMs am ct M)) 4 _ _ _ Mr
  refine z_cVI (As := [.int (xs (j + 1))]) (st := [.int rc.1]) (X _) (tX7_back (kM_at ad am ct (mk Mc [(15, rc.2.1)] Mc.2.1 [(41, rc.2.2.1), (44, rc.2.2.2)])) Mr hm) w_688 mvX7_back (by rw [show kR (kset κ _) = room_1 from eR]; exact ⟨Nat.le_of_ble_eq_true rfl, Nat.le_of_ble_eq_true rfl⟩) ⟨rfl, rfl⟩ rfl (Nat.le_of_ble_eq_true rfl) (((kM_at ad am ct (mk Mc [(15, rc.2.1)] Mc.2.1 [(41, rc.2.2.1), (44, rc.2.2.2)])).1) _) rfl rfl dL_law_405 ?_
  refine z_icmp_eq (tgt := 1253) (X _) dL_law_408 (by decide) (fun _ => ?_) (fun c => absurd he c)
  exact hk _ _ hr
set_option maxHeartbeats 4000000 in
set_option maxRecDepth 100000 in
theorem lc_mayTurn {κ : Rx} {ct : Nat → ClassId} {tF : Nat} {ad am : Nat → Nat} {REL : Mm → Mm → Prop} {b L j : Nat} {xs : Nat → Int32} (X : ∀ w : Mm → va_W, CX (kset κ w) ct tF cL_law 4 RL) (eR : kR κ = room_1) (hX : ∀ w : Mm → va_W, SX (kset κ w) b L xs) (hL : L ≤ 2560) (hj : j + 5 ≤ L) {Mc Mr : Mm} (hR : REL Mc Mr) (hal : Al_mayTurn REL) (hk : ∀ Mc Mr, REL Mc Mr → Zl κ ad am ct 1253 [(0, .ref b), (1, .ref (ad 0)), (2, .ref (am 0)), (3, .int (nI j))] [] Mc Mr) : Zl κ ad am ct 413 [(0, .ref b), (1, .ref (ad 0)), (2, .ref (am 0)), (3, .int (nI j))] [] Mc Mr := by
  obtain ⟨rc, rm, hc, hm, he, hr⟩ := hal Mc Mr (xs (j + 1)) hR
  unfold Zl
  refine z_aload_n (X _) dL_law_413 1 rfl rfl ?_
  refine z_aload_n (X _) dL_law_414 0 rfl rfl ?_
  refine z_iload_n (X _) dL_law_415 3 rfl rfl ?_
  refine z_iconst (v := nI 1) (X _) dL_law_416 (by decide) ?_
  refine z_iadd (X _) dL_law_417 ?_
  refine z_sld (v := xs (j + 1)) (X _) (hX _) (sx_at xs (by omega) hL) dL_law_418 ?_
  refine z_cVI (As := [.int (xs (j + 1))]) (st := []) (X _) (tX6_mayTurn (kC_at ad ct (wMs am ct Mr)) Mc hc) w_692 mvX6_mayTurn (by rw [show kR (kset κ _) = room_1 from eR]; exact ⟨Nat.le_of_ble_eq_true rfl, Nat.le_of_ble_eq_true rfl⟩) ⟨rfl, rfl⟩ rfl (Nat.le_of_ble_eq_true rfl) (((kC_at ad ct (wMs am ct Mr)).2.2.2.2.2.2.1) _) rfl rfl dL_law_419 ?_
  refine z_aload_n (X _) dL_law_422 2 rfl rfl ?_
  refine z_aload_n (X _) dL_law_423 0 rfl rfl ?_
  refine z_iload_n (X _) dL_law_424 3 rfl rfl ?_
  refine z_iconst (v := nI 1) (X _) dL_law_425 (by decide) ?_
  refine z_iadd (X _) dL_law_426 ?_
  refine z_sld (v := xs (j + 1)) (X _) (hX _) (sx_at xs (by omega) hL) dL_law_427 ?_
  show Zj (kset κ (fun M => wCs ad ct Mc ++ wMs am ct M)) 4 _ _ _ Mr
  refine z_cVI (As := [.int (xs (j + 1))]) (st := [.int rc]) (X _) (tX7_mayTurn (kM_at ad am ct Mc) Mr hm) w_696 mvX7_mayTurn (by rw [show kR (kset κ _) = room_1 from eR]; exact ⟨Nat.le_of_ble_eq_true rfl, Nat.le_of_ble_eq_true rfl⟩) ⟨rfl, rfl⟩ rfl (Nat.le_of_ble_eq_true rfl) (((kM_at ad am ct Mc).1) _) rfl rfl dL_law_428 ?_
  refine z_icmp_eq (tgt := 1253) (X _) dL_law_431 (by decide) (fun _ => ?_) (fun c => absurd he c)
  exact hk _ _ hr
set_option maxHeartbeats 4000000 in
set_option maxRecDepth 100000 in
theorem lc_mirror {κ : Rx} {ct : Nat → ClassId} {tF : Nat} {ad am : Nat → Nat} {REL : Mm → Mm → Prop} {b L j : Nat} {xs : Nat → Int32} (X : ∀ w : Mm → va_W, CX (kset κ w) ct tF cL_law 4 RL) (eR : kR κ = room_1) (hX : ∀ w : Mm → va_W, SX (kset κ w) b L xs) (hL : L ≤ 2560) (hj : j + 5 ≤ L) {Mc Mr : Mm} (hR : REL Mc Mr) (hal : Al_mirror REL) (hk : ∀ Mc Mr, REL Mc Mr → Zl κ ad am ct 1253 [(0, .ref b), (1, .ref (ad 0)), (2, .ref (am 0)), (3, .int (nI j))] [] Mc Mr) : Zl κ ad am ct 436 [(0, .ref b), (1, .ref (ad 0)), (2, .ref (am 0)), (3, .int (nI j))] [] Mc Mr := by
  obtain ⟨rc, rm, hc, hm, he, hr⟩ := hal Mc Mr  hR
  unfold Zl
  refine z_aload_n (X _) dL_law_436 1 rfl rfl ?_
  refine z_cVI (As := []) (st := []) (X _) (tX6_mirror (kC_at ad ct (wMs am ct Mr)) Mc hc) w_700 mvX6_mirror (by rw [show kR (kset κ _) = room_1 from eR]; exact ⟨Nat.le_of_ble_eq_true rfl, Nat.le_of_ble_eq_true rfl⟩) ⟨rfl, rfl⟩ rfl (Nat.le_of_ble_eq_true rfl) (((kC_at ad ct (wMs am ct Mr)).2.2.2.2.2.2.1) _) rfl rfl dL_law_437 ?_
  refine z_aload_n (X _) dL_law_440 2 rfl rfl ?_
  show Zj (kset κ (fun M => wCs ad ct (mk Mc [(15, rc.2.1)] Mc.2.1 [(41, rc.2.2.1), (44, rc.2.2.2)]) ++ wMs am ct M)) 4 _ _ _ Mr
  refine z_cVI (As := []) (st := [.int rc.1]) (X _) (tX7_mirror (kM_at ad am ct (mk Mc [(15, rc.2.1)] Mc.2.1 [(41, rc.2.2.1), (44, rc.2.2.2)])) Mr hm) w_704 mvX7_mirror (by rw [show kR (kset κ _) = room_1 from eR]; exact ⟨Nat.le_of_ble_eq_true rfl, Nat.le_of_ble_eq_true rfl⟩) ⟨rfl, rfl⟩ rfl (Nat.le_of_ble_eq_true rfl) (((kM_at ad am ct (mk Mc [(15, rc.2.1)] Mc.2.1 [(41, rc.2.2.1), (44, rc.2.2.2)])).1) _) rfl rfl dL_law_441 ?_
  refine z_icmp_eq (tgt := 1253) (X _) dL_law_444 (by decide) (fun _ => ?_) (fun c => absurd he c)
  exact hk _ _ hr
set_option maxHeartbeats 4000000 in
set_option maxRecDepth 100000 in
theorem lc_off {κ : Rx} {ct : Nat → ClassId} {tF : Nat} {ad am : Nat → Nat} {REL : Mm → Mm → Prop} {b L j : Nat} {xs : Nat → Int32} (X : ∀ w : Mm → va_W, CX (kset κ w) ct tF cL_law 4 RL) (eR : kR κ = room_1) (hX : ∀ w : Mm → va_W, SX (kset κ w) b L xs) (hL : L ≤ 2560) (hj : j + 5 ≤ L) {Mc Mr : Mm} (hR : REL Mc Mr) (hal : Al_off REL) (hk : ∀ Mc Mr, REL Mc Mr → Zl κ ad am ct 1253 [(0, .ref b), (1, .ref (ad 0)), (2, .ref (am 0)), (3, .int (nI j))] [] Mc Mr) : Zl κ ad am ct 449 [(0, .ref b), (1, .ref (ad 0)), (2, .ref (am 0)), (3, .int (nI j))] [] Mc Mr := by
  obtain ⟨rc, rm, hc, hm, he, hr⟩ := hal Mc Mr  hR
  unfold Zl
  refine z_aload_n (X _) dL_law_449 1 rfl rfl ?_
  refine z_cVI (As := []) (st := []) (X _) (tX6_off (kC_at ad ct (wMs am ct Mr)) Mc hc) w_708 mvX6_off (by rw [show kR (kset κ _) = room_1 from eR]; exact ⟨Nat.le_of_ble_eq_true rfl, Nat.le_of_ble_eq_true rfl⟩) ⟨rfl, rfl⟩ rfl (Nat.le_of_ble_eq_true rfl) (((kC_at ad ct (wMs am ct Mr)).2.2.2.2.2.2.1) _) rfl rfl dL_law_450 ?_
  refine z_aload_n (X _) dL_law_453 2 rfl rfl ?_
  show Zj (kset κ (fun M => wCs ad ct (mk Mc [] Mc.2.1 [(41, rc.2.1), (44, rc.2.2)]) ++ wMs am ct M)) 4 _ _ _ Mr
  refine z_cVI (As := []) (st := [.int rc.1]) (X _) (tX7_off (kM_at ad am ct (mk Mc [] Mc.2.1 [(41, rc.2.1), (44, rc.2.2)])) Mr hm) w_712 mvX7_off (by rw [show kR (kset κ _) = room_1 from eR]; exact ⟨Nat.le_of_ble_eq_true rfl, Nat.le_of_ble_eq_true rfl⟩) ⟨rfl, rfl⟩ rfl (Nat.le_of_ble_eq_true rfl) (((kM_at ad am ct (mk Mc [] Mc.2.1 [(41, rc.2.1), (44, rc.2.2)])).1) _) rfl rfl dL_law_454 ?_
  refine z_icmp_eq (tgt := 1253) (X _) dL_law_457 (by decide) (fun _ => ?_) (fun c => absurd he c)
  exact hk _ _ hr
set_option maxHeartbeats 4000000 in
set_option maxRecDepth 100000 in
theorem lc_below {κ : Rx} {ct : Nat → ClassId} {tF : Nat} {ad am : Nat → Nat} {REL : Mm → Mm → Prop} {b L j : Nat} {xs : Nat → Int32} (X : ∀ w : Mm → va_W, CX (kset κ w) ct tF cL_law 4 RL) (eR : kR κ = room_1) (hX : ∀ w : Mm → va_W, SX (kset κ w) b L xs) (hL : L ≤ 2560) (hj : j + 5 ≤ L) {Mc Mr : Mm} (hR : REL Mc Mr) (hal : Al_below REL) (hk : ∀ Mc Mr, REL Mc Mr → Zl κ ad am ct 1253 [(0, .ref b), (1, .ref (ad 0)), (2, .ref (am 0)), (3, .int (nI j))] [] Mc Mr) : Zl κ ad am ct 462 [(0, .ref b), (1, .ref (ad 0)), (2, .ref (am 0)), (3, .int (nI j))] [] Mc Mr := by
  obtain ⟨rc, rm, hc, hm, he, hr⟩ := hal Mc Mr (xs (j + 1)) (xs (j + 2)) hR
  unfold Zl
  refine z_aload_n (X _) dL_law_462 1 rfl rfl ?_
  refine z_aload_n (X _) dL_law_463 0 rfl rfl ?_
  refine z_iload_n (X _) dL_law_464 3 rfl rfl ?_
  refine z_iconst (v := nI 1) (X _) dL_law_465 (by decide) ?_
  refine z_iadd (X _) dL_law_466 ?_
  refine z_sld (v := xs (j + 1)) (X _) (hX _) (sx_at xs (by omega) hL) dL_law_467 ?_
  refine z_aload_n (X _) dL_law_468 0 rfl rfl ?_
  refine z_iload_n (X _) dL_law_469 3 rfl rfl ?_
  refine z_iconst (v := nI 2) (X _) dL_law_470 (by decide) ?_
  refine z_iadd (X _) dL_law_471 ?_
  refine z_sld (v := xs (j + 2)) (X _) (hX _) (sx_at xs (by omega) hL) dL_law_472 ?_
  refine z_cVI (As := [.int (xs (j + 1)), .int (xs (j + 2))]) (st := []) (X _) (tX6_below (kC_at ad ct (wMs am ct Mr)) Mc hc) w_716 mvX6_below (by rw [show kR (kset κ _) = room_1 from eR]; exact ⟨Nat.le_of_ble_eq_true rfl, Nat.le_of_ble_eq_true rfl⟩) ⟨rfl, rfl⟩ rfl (Nat.le_of_ble_eq_true rfl) (((kC_at ad ct (wMs am ct Mr)).2.2.2.2.2.2.1) _) rfl rfl dL_law_473 ?_
  refine z_aload_n (X _) dL_law_476 2 rfl rfl ?_
  refine z_aload_n (X _) dL_law_477 0 rfl rfl ?_
  refine z_iload_n (X _) dL_law_478 3 rfl rfl ?_
  refine z_iconst (v := nI 1) (X _) dL_law_479 (by decide) ?_
  refine z_iadd (X _) dL_law_480 ?_
  refine z_sld (v := xs (j + 1)) (X _) (hX _) (sx_at xs (by omega) hL) dL_law_481 ?_
  refine z_aload_n (X _) dL_law_482 0 rfl rfl ?_
  refine z_iload_n (X _) dL_law_483 3 rfl rfl ?_
  refine z_iconst (v := nI 2) (X _) dL_law_484 (by decide) ?_
  refine z_iadd (X _) dL_law_485 ?_
  refine z_sld (v := xs (j + 2)) (X _) (hX _) (sx_at xs (by omega) hL) dL_law_486 ?_
  show Zj (kset κ (fun M => wCs ad ct Mc ++ wMs am ct M)) 4 _ _ _ Mr
  refine z_cVI (As := [.int (xs (j + 1)), .int (xs (j + 2))]) (st := [.int rc]) (X _) (tX7_below (kM_at ad am ct Mc) Mr hm) w_720 mvX7_below (by rw [show kR (kset κ _) = room_1 from eR]; exact ⟨Nat.le_of_ble_eq_true rfl, Nat.le_of_ble_eq_true rfl⟩) ⟨rfl, rfl⟩ rfl (Nat.le_of_ble_eq_true rfl) (((kM_at ad am ct Mc).1) _) rfl rfl dL_law_487 ?_
  refine z_icmp_eq (tgt := 1253) (X _) dL_law_490 (by decide) (fun _ => ?_) (fun c => absurd he c)
  exact hk _ _ hr
set_option maxHeartbeats 4000000 in
set_option maxRecDepth 100000 in
theorem lc_meet {κ : Rx} {ct : Nat → ClassId} {tF : Nat} {ad am : Nat → Nat} {REL : Mm → Mm → Prop} {b L j : Nat} {xs : Nat → Int32} (X : ∀ w : Mm → va_W, CX (kset κ w) ct tF cL_law 4 RL) (eR : kR κ = room_1) (hX : ∀ w : Mm → va_W, SX (kset κ w) b L xs) (hL : L ≤ 2560) (hj : j + 5 ≤ L) {Mc Mr : Mm} (hR : REL Mc Mr) (hal : Al_meet REL) (hk : ∀ Mc Mr, REL Mc Mr → Zl κ ad am ct 1253 [(0, .ref b), (1, .ref (ad 0)), (2, .ref (am 0)), (3, .int (nI j))] [] Mc Mr) : Zl κ ad am ct 495 [(0, .ref b), (1, .ref (ad 0)), (2, .ref (am 0)), (3, .int (nI j))] [] Mc Mr := by
  obtain ⟨rc, rm, hc, hm, he, hr⟩ := hal Mc Mr (xs (j + 1)) (xs (j + 2)) hR
  unfold Zl
  refine z_aload_n (X _) dL_law_495 1 rfl rfl ?_
  refine z_aload_n (X _) dL_law_496 0 rfl rfl ?_
  refine z_iload_n (X _) dL_law_497 3 rfl rfl ?_
  refine z_iconst (v := nI 1) (X _) dL_law_498 (by decide) ?_
  refine z_iadd (X _) dL_law_499 ?_
  refine z_sld (v := xs (j + 1)) (X _) (hX _) (sx_at xs (by omega) hL) dL_law_500 ?_
  refine z_aload_n (X _) dL_law_501 0 rfl rfl ?_
  refine z_iload_n (X _) dL_law_502 3 rfl rfl ?_
  refine z_iconst (v := nI 2) (X _) dL_law_503 (by decide) ?_
  refine z_iadd (X _) dL_law_504 ?_
  refine z_sld (v := xs (j + 2)) (X _) (hX _) (sx_at xs (by omega) hL) dL_law_505 ?_
  refine z_cVI (As := [.int (xs (j + 1)), .int (xs (j + 2))]) (st := []) (X _) (tX6_meet (kC_at ad ct (wMs am ct Mr)) Mc hc) w_724 mvX6_meet (by rw [show kR (kset κ _) = room_1 from eR]; exact ⟨Nat.le_of_ble_eq_true rfl, Nat.le_of_ble_eq_true rfl⟩) ⟨rfl, rfl⟩ rfl (Nat.le_of_ble_eq_true rfl) (((kC_at ad ct (wMs am ct Mr)).2.2.2.2.2.2.1) _) rfl rfl dL_law_506 ?_
  refine z_aload_n (X _) dL_law_509 2 rfl rfl ?_
  refine z_aload_n (X _) dL_law_510 0 rfl rfl ?_
  refine z_iload_n (X _) dL_law_511 3 rfl rfl ?_
  refine z_iconst (v := nI 1) (X _) dL_law_512 (by decide) ?_
  refine z_iadd (X _) dL_law_513 ?_
  refine z_sld (v := xs (j + 1)) (X _) (hX _) (sx_at xs (by omega) hL) dL_law_514 ?_
  refine z_aload_n (X _) dL_law_515 0 rfl rfl ?_
  refine z_iload_n (X _) dL_law_516 3 rfl rfl ?_
  refine z_iconst (v := nI 2) (X _) dL_law_517 (by decide) ?_
  refine z_iadd (X _) dL_law_518 ?_
  refine z_sld (v := xs (j + 2)) (X _) (hX _) (sx_at xs (by omega) hL) dL_law_519 ?_
  show Zj (kset κ (fun M => wCs ad ct Mc ++ wMs am ct M)) 4 _ _ _ Mr
  refine z_cVI (As := [.int (xs (j + 1)), .int (xs (j + 2))]) (st := [.int rc]) (X _) (tX7_meet (kM_at ad am ct Mc) Mr hm) w_728 mvX7_meet (by rw [show kR (kset κ _) = room_1 from eR]; exact ⟨Nat.le_of_ble_eq_true rfl, Nat.le_of_ble_eq_true rfl⟩) ⟨rfl, rfl⟩ rfl (Nat.le_of_ble_eq_true rfl) (((kM_at ad am ct Mc).1) _) rfl rfl dL_law_520 ?_
  refine z_icmp_eq (tgt := 1253) (X _) dL_law_523 (by decide) (fun _ => ?_) (fun c => absurd he c)
  exact hk _ _ hr
set_option maxHeartbeats 4000000 in
set_option maxRecDepth 100000 in
theorem lc_meetAll {κ : Rx} {ct : Nat → ClassId} {tF : Nat} {ad am : Nat → Nat} {REL : Mm → Mm → Prop} {b L j : Nat} {xs : Nat → Int32} (X : ∀ w : Mm → va_W, CX (kset κ w) ct tF cL_law 4 RL) (eR : kR κ = room_1) (hX : ∀ w : Mm → va_W, SX (kset κ w) b L xs) (hL : L ≤ 2560) (hj : j + 5 ≤ L) {Mc Mr : Mm} (hR : REL Mc Mr) (hal : Al_meetAll REL) (hk : ∀ Mc Mr, REL Mc Mr → Zl κ ad am ct 1253 [(0, .ref b), (1, .ref (ad 0)), (2, .ref (am 0)), (3, .int (nI j))] [] Mc Mr) : Zl κ ad am ct 528 [(0, .ref b), (1, .ref (ad 0)), (2, .ref (am 0)), (3, .int (nI j))] [] Mc Mr := by
  obtain ⟨rc, rm, hc, hm, he, hr⟩ := hal Mc Mr (xs (j + 1)) hR
  unfold Zl
  refine z_aload_n (X _) dL_law_528 1 rfl rfl ?_
  refine z_aload_n (X _) dL_law_529 0 rfl rfl ?_
  refine z_iload_n (X _) dL_law_530 3 rfl rfl ?_
  refine z_iconst (v := nI 1) (X _) dL_law_531 (by decide) ?_
  refine z_iadd (X _) dL_law_532 ?_
  refine z_sld (v := xs (j + 1)) (X _) (hX _) (sx_at xs (by omega) hL) dL_law_533 ?_
  refine z_cVI (As := [.int (xs (j + 1))]) (st := []) (X _) (tX6_meetAll (kC_at ad ct (wMs am ct Mr)) Mc hc) w_732 mvX6_meetAll (by rw [show kR (kset κ _) = room_1 from eR]; exact ⟨Nat.le_of_ble_eq_true rfl, Nat.le_of_ble_eq_true rfl⟩) ⟨rfl, rfl⟩ rfl (Nat.le_of_ble_eq_true rfl) (((kC_at ad ct (wMs am ct Mr)).2.2.2.2.2.2.1) _) rfl rfl dL_law_534 ?_
  refine z_aload_n (X _) dL_law_537 2 rfl rfl ?_
  refine z_aload_n (X _) dL_law_538 0 rfl rfl ?_
  refine z_iload_n (X _) dL_law_539 3 rfl rfl ?_
  refine z_iconst (v := nI 1) (X _) dL_law_540 (by decide) ?_
  refine z_iadd (X _) dL_law_541 ?_
  refine z_sld (v := xs (j + 1)) (X _) (hX _) (sx_at xs (by omega) hL) dL_law_542 ?_
  show Zj (kset κ (fun M => wCs ad ct Mc ++ wMs am ct M)) 4 _ _ _ Mr
  refine z_cVI (As := [.int (xs (j + 1))]) (st := [.int rc]) (X _) (tX7_meetAll (kM_at ad am ct Mc) Mr hm) w_736 mvX7_meetAll (by rw [show kR (kset κ _) = room_1 from eR]; exact ⟨Nat.le_of_ble_eq_true rfl, Nat.le_of_ble_eq_true rfl⟩) ⟨rfl, rfl⟩ rfl (Nat.le_of_ble_eq_true rfl) (((kM_at ad am ct Mc).1) _) rfl rfl dL_law_543 ?_
  refine z_icmp_eq (tgt := 1253) (X _) dL_law_546 (by decide) (fun _ => ?_) (fun c => absurd he c)
  exact hk _ _ hr
set_option maxHeartbeats 4000000 in
set_option maxRecDepth 100000 in
theorem lc_between {κ : Rx} {ct : Nat → ClassId} {tF : Nat} {ad am : Nat → Nat} {REL : Mm → Mm → Prop} {b L j : Nat} {xs : Nat → Int32} (X : ∀ w : Mm → va_W, CX (kset κ w) ct tF cL_law 4 RL) (eR : kR κ = room_1) (hX : ∀ w : Mm → va_W, SX (kset κ w) b L xs) (hL : L ≤ 2560) (hj : j + 5 ≤ L) {Mc Mr : Mm} (hR : REL Mc Mr) (hal : Al_between REL) (hk : ∀ Mc Mr, REL Mc Mr → Zl κ ad am ct 1253 [(0, .ref b), (1, .ref (ad 0)), (2, .ref (am 0)), (3, .int (nI j))] [] Mc Mr) : Zl κ ad am ct 551 [(0, .ref b), (1, .ref (ad 0)), (2, .ref (am 0)), (3, .int (nI j))] [] Mc Mr := by
  obtain ⟨rc, rm, hc, hm, he, hr⟩ := hal Mc Mr (xs (j + 1)) (xs (j + 2)) hR
  unfold Zl
  refine z_aload_n (X _) dL_law_551 1 rfl rfl ?_
  refine z_aload_n (X _) dL_law_552 0 rfl rfl ?_
  refine z_iload_n (X _) dL_law_553 3 rfl rfl ?_
  refine z_iconst (v := nI 1) (X _) dL_law_554 (by decide) ?_
  refine z_iadd (X _) dL_law_555 ?_
  refine z_sld (v := xs (j + 1)) (X _) (hX _) (sx_at xs (by omega) hL) dL_law_556 ?_
  refine z_aload_n (X _) dL_law_557 0 rfl rfl ?_
  refine z_iload_n (X _) dL_law_558 3 rfl rfl ?_
  refine z_iconst (v := nI 2) (X _) dL_law_559 (by decide) ?_
  refine z_iadd (X _) dL_law_560 ?_
  refine z_sld (v := xs (j + 2)) (X _) (hX _) (sx_at xs (by omega) hL) dL_law_561 ?_
  refine z_cVI (As := [.int (xs (j + 1)), .int (xs (j + 2))]) (st := []) (X _) (tX6_between (kC_at ad ct (wMs am ct Mr)) Mc hc) w_740 mvX6_between (by rw [show kR (kset κ _) = room_1 from eR]; exact ⟨Nat.le_of_ble_eq_true rfl, Nat.le_of_ble_eq_true rfl⟩) ⟨rfl, rfl⟩ rfl (Nat.le_of_ble_eq_true rfl) (((kC_at ad ct (wMs am ct Mr)).2.2.2.2.2.2.1) _) rfl rfl dL_law_562 ?_
  refine z_aload_n (X _) dL_law_565 2 rfl rfl ?_
  refine z_aload_n (X _) dL_law_566 0 rfl rfl ?_
  refine z_iload_n (X _) dL_law_567 3 rfl rfl ?_
  refine z_iconst (v := nI 1) (X _) dL_law_568 (by decide) ?_
  refine z_iadd (X _) dL_law_569 ?_
  refine z_sld (v := xs (j + 1)) (X _) (hX _) (sx_at xs (by omega) hL) dL_law_570 ?_
  refine z_aload_n (X _) dL_law_571 0 rfl rfl ?_
  refine z_iload_n (X _) dL_law_572 3 rfl rfl ?_
  refine z_iconst (v := nI 2) (X _) dL_law_573 (by decide) ?_
  refine z_iadd (X _) dL_law_574 ?_
  refine z_sld (v := xs (j + 2)) (X _) (hX _) (sx_at xs (by omega) hL) dL_law_575 ?_
  show Zj (kset κ (fun M => wCs ad ct Mc ++ wMs am ct M)) 4 _ _ _ Mr
  refine z_cVI (As := [.int (xs (j + 1)), .int (xs (j + 2))]) (st := [.int rc]) (X _) (tX7_between (kM_at ad am ct Mc) Mr hm) w_744 mvX7_between (by rw [show kR (kset κ _) = room_1 from eR]; exact ⟨Nat.le_of_ble_eq_true rfl, Nat.le_of_ble_eq_true rfl⟩) ⟨rfl, rfl⟩ rfl (Nat.le_of_ble_eq_true rfl) (((kM_at ad am ct Mc).1) _) rfl rfl dL_law_576 ?_
  refine z_icmp_eq (tgt := 1253) (X _) dL_law_579 (by decide) (fun _ => ?_) (fun c => absurd he c)
  exact hk _ _ hr
set_option maxHeartbeats 4000000 in
set_option maxRecDepth 100000 in
theorem lc_way {κ : Rx} {ct : Nat → ClassId} {tF : Nat} {ad am : Nat → Nat} {REL : Mm → Mm → Prop} {b L j : Nat} {xs : Nat → Int32} (X : ∀ w : Mm → va_W, CX (kset κ w) ct tF cL_law 4 RL) (eR : kR κ = room_1) (hX : ∀ w : Mm → va_W, SX (kset κ w) b L xs) (hL : L ≤ 2560) (hj : j + 5 ≤ L) {Mc Mr : Mm} (hR : REL Mc Mr) (hal : Al_way REL) (hk : ∀ Mc Mr, REL Mc Mr → Zl κ ad am ct 1253 [(0, .ref b), (1, .ref (ad 0)), (2, .ref (am 0)), (3, .int (nI j))] [] Mc Mr) : Zl κ ad am ct 584 [(0, .ref b), (1, .ref (ad 0)), (2, .ref (am 0)), (3, .int (nI j))] [] Mc Mr := by
  obtain ⟨rc, rm, hc, hm, he, hr⟩ := hal Mc Mr (xs (j + 1)) (xs (j + 2)) hR
  unfold Zl
  refine z_aload_n (X _) dL_law_584 1 rfl rfl ?_
  refine z_aload_n (X _) dL_law_585 0 rfl rfl ?_
  refine z_iload_n (X _) dL_law_586 3 rfl rfl ?_
  refine z_iconst (v := nI 1) (X _) dL_law_587 (by decide) ?_
  refine z_iadd (X _) dL_law_588 ?_
  refine z_sld (v := xs (j + 1)) (X _) (hX _) (sx_at xs (by omega) hL) dL_law_589 ?_
  refine z_aload_n (X _) dL_law_590 0 rfl rfl ?_
  refine z_iload_n (X _) dL_law_591 3 rfl rfl ?_
  refine z_iconst (v := nI 2) (X _) dL_law_592 (by decide) ?_
  refine z_iadd (X _) dL_law_593 ?_
  refine z_sld (v := xs (j + 2)) (X _) (hX _) (sx_at xs (by omega) hL) dL_law_594 ?_
  refine z_cVI (As := [.int (xs (j + 1)), .int (xs (j + 2))]) (st := []) (X _) (tX6_way (kC_at ad ct (wMs am ct Mr)) Mc hc) w_748 mvX6_way (by rw [show kR (kset κ _) = room_1 from eR]; exact ⟨Nat.le_of_ble_eq_true rfl, Nat.le_of_ble_eq_true rfl⟩) ⟨rfl, rfl⟩ rfl (Nat.le_of_ble_eq_true rfl) (((kC_at ad ct (wMs am ct Mr)).2.2.2.2.2.2.1) _) rfl rfl dL_law_595 ?_
  refine z_aload_n (X _) dL_law_598 2 rfl rfl ?_
  refine z_aload_n (X _) dL_law_599 0 rfl rfl ?_
  refine z_iload_n (X _) dL_law_600 3 rfl rfl ?_
  refine z_iconst (v := nI 1) (X _) dL_law_601 (by decide) ?_
  refine z_iadd (X _) dL_law_602 ?_
  refine z_sld (v := xs (j + 1)) (X _) (hX _) (sx_at xs (by omega) hL) dL_law_603 ?_
  refine z_aload_n (X _) dL_law_604 0 rfl rfl ?_
  refine z_iload_n (X _) dL_law_605 3 rfl rfl ?_
  refine z_iconst (v := nI 2) (X _) dL_law_606 (by decide) ?_
  refine z_iadd (X _) dL_law_607 ?_
  refine z_sld (v := xs (j + 2)) (X _) (hX _) (sx_at xs (by omega) hL) dL_law_608 ?_
  show Zj (kset κ (fun M => wCs ad ct (mk Mc [(8, rc.2.1), (9, rc.2.2.1), (10, rc.2.2.2.1), (11, rc.2.2.2.2.1), (12, rc.2.2.2.2.2.1)] Mc.2.1 [(42, rc.2.2.2.2.2.2.1), (43, rc.2.2.2.2.2.2.2)]) ++ wMs am ct M)) 4 _ _ _ Mr
  refine z_cVI (As := [.int (xs (j + 1)), .int (xs (j + 2))]) (st := [.int rc.1]) (X _) (tX7_way (kM_at ad am ct (mk Mc [(8, rc.2.1), (9, rc.2.2.1), (10, rc.2.2.2.1), (11, rc.2.2.2.2.1), (12, rc.2.2.2.2.2.1)] Mc.2.1 [(42, rc.2.2.2.2.2.2.1), (43, rc.2.2.2.2.2.2.2)])) Mr hm) w_752 mvX7_way (by rw [show kR (kset κ _) = room_1 from eR]; exact ⟨Nat.le_of_ble_eq_true rfl, Nat.le_of_ble_eq_true rfl⟩) ⟨rfl, rfl⟩ rfl (Nat.le_of_ble_eq_true rfl) (((kM_at ad am ct (mk Mc [(8, rc.2.1), (9, rc.2.2.1), (10, rc.2.2.2.1), (11, rc.2.2.2.2.1), (12, rc.2.2.2.2.2.1)] Mc.2.1 [(42, rc.2.2.2.2.2.2.1), (43, rc.2.2.2.2.2.2.2)])).1) _) rfl rfl dL_law_609 ?_
  refine z_icmp_eq (tgt := 1253) (X _) dL_law_612 (by decide) (fun _ => ?_) (fun c => absurd he c)
  exact hk _ _ hr
set_option maxHeartbeats 4000000 in
set_option maxRecDepth 100000 in
theorem lc_chain {κ : Rx} {ct : Nat → ClassId} {tF : Nat} {ad am : Nat → Nat} {REL : Mm → Mm → Prop} {b L j : Nat} {xs : Nat → Int32} (X : ∀ w : Mm → va_W, CX (kset κ w) ct tF cL_law 4 RL) (eR : kR κ = room_1) (hX : ∀ w : Mm → va_W, SX (kset κ w) b L xs) (hL : L ≤ 2560) (hj : j + 5 ≤ L) {Mc Mr : Mm} (hR : REL Mc Mr) (hal : Al_chain REL) (hk : ∀ Mc Mr, REL Mc Mr → Zl κ ad am ct 1253 [(0, .ref b), (1, .ref (ad 0)), (2, .ref (am 0)), (3, .int (nI j))] [] Mc Mr) : Zl κ ad am ct 617 [(0, .ref b), (1, .ref (ad 0)), (2, .ref (am 0)), (3, .int (nI j))] [] Mc Mr := by
  obtain ⟨rc, rm, hc, hm, he, hr⟩ := hal Mc Mr (xs (j + 1)) (xs (j + 2)) hR
  unfold Zl
  refine z_aload_n (X _) dL_law_617 1 rfl rfl ?_
  refine z_aload_n (X _) dL_law_618 0 rfl rfl ?_
  refine z_iload_n (X _) dL_law_619 3 rfl rfl ?_
  refine z_iconst (v := nI 1) (X _) dL_law_620 (by decide) ?_
  refine z_iadd (X _) dL_law_621 ?_
  refine z_sld (v := xs (j + 1)) (X _) (hX _) (sx_at xs (by omega) hL) dL_law_622 ?_
  refine z_aload_n (X _) dL_law_623 0 rfl rfl ?_
  refine z_iload_n (X _) dL_law_624 3 rfl rfl ?_
  refine z_iconst (v := nI 2) (X _) dL_law_625 (by decide) ?_
  refine z_iadd (X _) dL_law_626 ?_
  refine z_sld (v := xs (j + 2)) (X _) (hX _) (sx_at xs (by omega) hL) dL_law_627 ?_
  refine z_cVI (As := [.int (xs (j + 1)), .int (xs (j + 2))]) (st := []) (X _) (tX6_chain (kC_at ad ct (wMs am ct Mr)) Mc hc) w_756 mvX6_chain (by rw [show kR (kset κ _) = room_1 from eR]; exact ⟨Nat.le_of_ble_eq_true rfl, Nat.le_of_ble_eq_true rfl⟩) ⟨rfl, rfl⟩ rfl (Nat.le_of_ble_eq_true rfl) (((kC_at ad ct (wMs am ct Mr)).2.2.2.2.2.2.1) _) rfl rfl dL_law_628 ?_
  refine z_aload_n (X _) dL_law_631 2 rfl rfl ?_
  refine z_aload_n (X _) dL_law_632 0 rfl rfl ?_
  refine z_iload_n (X _) dL_law_633 3 rfl rfl ?_
  refine z_iconst (v := nI 1) (X _) dL_law_634 (by decide) ?_
  refine z_iadd (X _) dL_law_635 ?_
  refine z_sld (v := xs (j + 1)) (X _) (hX _) (sx_at xs (by omega) hL) dL_law_636 ?_
  refine z_aload_n (X _) dL_law_637 0 rfl rfl ?_
  refine z_iload_n (X _) dL_law_638 3 rfl rfl ?_
  refine z_iconst (v := nI 2) (X _) dL_law_639 (by decide) ?_
  refine z_iadd (X _) dL_law_640 ?_
  refine z_sld (v := xs (j + 2)) (X _) (hX _) (sx_at xs (by omega) hL) dL_law_641 ?_
  show Zj (kset κ (fun M => wCs ad ct (mk Mc [(8, rc.2.1), (9, rc.2.2.1), (10, rc.2.2.2.1), (13, rc.2.2.2.2)] Mc.2.1 []) ++ wMs am ct M)) 4 _ _ _ Mr
  refine z_cVI (As := [.int (xs (j + 1)), .int (xs (j + 2))]) (st := [.int rc.1]) (X _) (tX7_chain (kM_at ad am ct (mk Mc [(8, rc.2.1), (9, rc.2.2.1), (10, rc.2.2.2.1), (13, rc.2.2.2.2)] Mc.2.1 [])) Mr hm) w_760 mvX7_chain (by rw [show kR (kset κ _) = room_1 from eR]; exact ⟨Nat.le_of_ble_eq_true rfl, Nat.le_of_ble_eq_true rfl⟩) ⟨rfl, rfl⟩ rfl (Nat.le_of_ble_eq_true rfl) (((kM_at ad am ct (mk Mc [(8, rc.2.1), (9, rc.2.2.1), (10, rc.2.2.2.1), (13, rc.2.2.2.2)] Mc.2.1 [])).1) _) rfl rfl dL_law_642 ?_
  refine z_icmp_eq (tgt := 1253) (X _) dL_law_645 (by decide) (fun _ => ?_) (fun c => absurd he c)
  exact hk _ _ hr
set_option maxHeartbeats 4000000 in
set_option maxRecDepth 100000 in
theorem lc_mark {κ : Rx} {ct : Nat → ClassId} {tF : Nat} {ad am : Nat → Nat} {REL : Mm → Mm → Prop} {b L j : Nat} {xs : Nat → Int32} (X : ∀ w : Mm → va_W, CX (kset κ w) ct tF cL_law 4 RL) (eR : kR κ = room_1) (hX : ∀ w : Mm → va_W, SX (kset κ w) b L xs) (hL : L ≤ 2560) (hj : j + 5 ≤ L) {Mc Mr : Mm} (hR : REL Mc Mr) (hal : Al_mark REL) (hk : ∀ Mc Mr, REL Mc Mr → Zl κ ad am ct 1253 [(0, .ref b), (1, .ref (ad 0)), (2, .ref (am 0)), (3, .int (nI j))] [] Mc Mr) : Zl κ ad am ct 650 [(0, .ref b), (1, .ref (ad 0)), (2, .ref (am 0)), (3, .int (nI j))] [] Mc Mr := by
  obtain ⟨rc, rm, hc, hm, he, hr⟩ := hal Mc Mr (xs (j + 1)) hR
  unfold Zl
  refine z_aload_n (X _) dL_law_650 1 rfl rfl ?_
  refine z_aload_n (X _) dL_law_651 0 rfl rfl ?_
  refine z_iload_n (X _) dL_law_652 3 rfl rfl ?_
  refine z_iconst (v := nI 1) (X _) dL_law_653 (by decide) ?_
  refine z_iadd (X _) dL_law_654 ?_
  refine z_sld (v := xs (j + 1)) (X _) (hX _) (sx_at xs (by omega) hL) dL_law_655 ?_
  refine z_cVI (As := [.int (xs (j + 1))]) (st := []) (X _) (tX6_mark (kC_at ad ct (wMs am ct Mr)) Mc hc) w_764 mvX6_mark (by rw [show kR (kset κ _) = room_1 from eR]; exact ⟨Nat.le_of_ble_eq_true rfl, Nat.le_of_ble_eq_true rfl⟩) ⟨rfl, rfl⟩ rfl (Nat.le_of_ble_eq_true rfl) (((kC_at ad ct (wMs am ct Mr)).2.2.2.2.2.2.1) _) rfl rfl dL_law_656 ?_
  refine z_aload_n (X _) dL_law_659 2 rfl rfl ?_
  refine z_aload_n (X _) dL_law_660 0 rfl rfl ?_
  refine z_iload_n (X _) dL_law_661 3 rfl rfl ?_
  refine z_iconst (v := nI 1) (X _) dL_law_662 (by decide) ?_
  refine z_iadd (X _) dL_law_663 ?_
  refine z_sld (v := xs (j + 1)) (X _) (hX _) (sx_at xs (by omega) hL) dL_law_664 ?_
  show Zj (kset κ (fun M => wCs ad ct (mk Mc [(5, rc.2.1), (6, rc.2.2)] Mc.2.1 []) ++ wMs am ct M)) 4 _ _ _ Mr
  refine z_cVI (As := [.int (xs (j + 1))]) (st := [.int rc.1]) (X _) (tX7_mark (kM_at ad am ct (mk Mc [(5, rc.2.1), (6, rc.2.2)] Mc.2.1 [])) Mr hm) w_768 mvX7_mark (by rw [show kR (kset κ _) = room_1 from eR]; exact ⟨Nat.le_of_ble_eq_true rfl, Nat.le_of_ble_eq_true rfl⟩) ⟨rfl, rfl⟩ rfl (Nat.le_of_ble_eq_true rfl) (((kM_at ad am ct (mk Mc [(5, rc.2.1), (6, rc.2.2)] Mc.2.1 [])).1) _) rfl rfl dL_law_665 ?_
  refine z_icmp_eq (tgt := 1253) (X _) dL_law_668 (by decide) (fun _ => ?_) (fun c => absurd he c)
  exact hk _ _ hr
set_option maxHeartbeats 4000000 in
set_option maxRecDepth 100000 in
theorem lc_pairs {κ : Rx} {ct : Nat → ClassId} {tF : Nat} {ad am : Nat → Nat} {REL : Mm → Mm → Prop} {b L j : Nat} {xs : Nat → Int32} (X : ∀ w : Mm → va_W, CX (kset κ w) ct tF cL_law 4 RL) (eR : kR κ = room_1) (hX : ∀ w : Mm → va_W, SX (kset κ w) b L xs) (hL : L ≤ 2560) (hj : j + 5 ≤ L) {Mc Mr : Mm} (hR : REL Mc Mr) (hal : Al_pairs REL) (hk : ∀ Mc Mr, REL Mc Mr → Zl κ ad am ct 1253 [(0, .ref b), (1, .ref (ad 0)), (2, .ref (am 0)), (3, .int (nI j))] [] Mc Mr) : Zl κ ad am ct 673 [(0, .ref b), (1, .ref (ad 0)), (2, .ref (am 0)), (3, .int (nI j))] [] Mc Mr := by
  obtain ⟨rc, rm, hc, hm, he, hr⟩ := hal Mc Mr (xs (j + 1)) hR
  unfold Zl
  refine z_aload_n (X _) dL_law_673 1 rfl rfl ?_
  refine z_aload_n (X _) dL_law_674 0 rfl rfl ?_
  refine z_iload_n (X _) dL_law_675 3 rfl rfl ?_
  refine z_iconst (v := nI 1) (X _) dL_law_676 (by decide) ?_
  refine z_iadd (X _) dL_law_677 ?_
  refine z_sld (v := xs (j + 1)) (X _) (hX _) (sx_at xs (by omega) hL) dL_law_678 ?_
  refine z_cVI (As := [.int (xs (j + 1))]) (st := []) (X _) (tX6_pairs (kC_at ad ct (wMs am ct Mr)) Mc hc) w_772 mvX6_pairs (by rw [show kR (kset κ _) = room_1 from eR]; exact ⟨Nat.le_of_ble_eq_true rfl, Nat.le_of_ble_eq_true rfl⟩) ⟨rfl, rfl⟩ rfl (Nat.le_of_ble_eq_true rfl) (((kC_at ad ct (wMs am ct Mr)).2.2.2.2.2.2.1) _) rfl rfl dL_law_679 ?_
  refine z_aload_n (X _) dL_law_682 2 rfl rfl ?_
  refine z_aload_n (X _) dL_law_683 0 rfl rfl ?_
  refine z_iload_n (X _) dL_law_684 3 rfl rfl ?_
  refine z_iconst (v := nI 1) (X _) dL_law_685 (by decide) ?_
  refine z_iadd (X _) dL_law_686 ?_
  refine z_sld (v := xs (j + 1)) (X _) (hX _) (sx_at xs (by omega) hL) dL_law_687 ?_
  show Zj (kset κ (fun M => wCs ad ct Mc ++ wMs am ct M)) 4 _ _ _ Mr
  refine z_cVI (As := [.int (xs (j + 1))]) (st := [.int rc]) (X _) (tX7_pairs (kM_at ad am ct Mc) Mr hm) w_776 mvX7_pairs (by rw [show kR (kset κ _) = room_1 from eR]; exact ⟨Nat.le_of_ble_eq_true rfl, Nat.le_of_ble_eq_true rfl⟩) ⟨rfl, rfl⟩ rfl (Nat.le_of_ble_eq_true rfl) (((kM_at ad am ct Mc).1) _) rfl rfl dL_law_688 ?_
  refine z_icmp_eq (tgt := 1253) (X _) dL_law_691 (by decide) (fun _ => ?_) (fun c => absurd he c)
  exact hk _ _ hr
set_option maxHeartbeats 4000000 in
set_option maxRecDepth 100000 in
theorem lc_far {κ : Rx} {ct : Nat → ClassId} {tF : Nat} {ad am : Nat → Nat} {REL : Mm → Mm → Prop} {b L j : Nat} {xs : Nat → Int32} (X : ∀ w : Mm → va_W, CX (kset κ w) ct tF cL_law 4 RL) (eR : kR κ = room_1) (hX : ∀ w : Mm → va_W, SX (kset κ w) b L xs) (hL : L ≤ 2560) (hj : j + 5 ≤ L) {Mc Mr : Mm} (hR : REL Mc Mr) (hal : Al_far REL) (hk : ∀ Mc Mr, REL Mc Mr → Zl κ ad am ct 1253 [(0, .ref b), (1, .ref (ad 0)), (2, .ref (am 0)), (3, .int (nI j))] [] Mc Mr) : Zl κ ad am ct 696 [(0, .ref b), (1, .ref (ad 0)), (2, .ref (am 0)), (3, .int (nI j))] [] Mc Mr := by
  obtain ⟨rc, rm, hc, hm, he, hr⟩ := hal Mc Mr (xs (j + 1)) hR
  unfold Zl
  refine z_aload_n (X _) dL_law_696 1 rfl rfl ?_
  refine z_aload_n (X _) dL_law_697 0 rfl rfl ?_
  refine z_iload_n (X _) dL_law_698 3 rfl rfl ?_
  refine z_iconst (v := nI 1) (X _) dL_law_699 (by decide) ?_
  refine z_iadd (X _) dL_law_700 ?_
  refine z_sld (v := xs (j + 1)) (X _) (hX _) (sx_at xs (by omega) hL) dL_law_701 ?_
  refine z_cVI (As := [.int (xs (j + 1))]) (st := []) (X _) (tX6_far (kC_at ad ct (wMs am ct Mr)) Mc hc) w_780 mvX6_far (by rw [show kR (kset κ _) = room_1 from eR]; exact ⟨Nat.le_of_ble_eq_true rfl, Nat.le_of_ble_eq_true rfl⟩) ⟨rfl, rfl⟩ rfl (Nat.le_of_ble_eq_true rfl) (((kC_at ad ct (wMs am ct Mr)).2.2.2.2.2.2.1) _) rfl rfl dL_law_702 ?_
  refine z_aload_n (X _) dL_law_705 2 rfl rfl ?_
  refine z_aload_n (X _) dL_law_706 0 rfl rfl ?_
  refine z_iload_n (X _) dL_law_707 3 rfl rfl ?_
  refine z_iconst (v := nI 1) (X _) dL_law_708 (by decide) ?_
  refine z_iadd (X _) dL_law_709 ?_
  refine z_sld (v := xs (j + 1)) (X _) (hX _) (sx_at xs (by omega) hL) dL_law_710 ?_
  show Zj (kset κ (fun M => wCs ad ct (mk Mc [(8, rc.2.1), (9, rc.2.2.1), (10, rc.2.2.2.1), (11, rc.2.2.2.2.1), (12, rc.2.2.2.2.2.1)] Mc.2.1 [(42, rc.2.2.2.2.2.2.1), (43, rc.2.2.2.2.2.2.2)]) ++ wMs am ct M)) 4 _ _ _ Mr
  refine z_cVI (As := [.int (xs (j + 1))]) (st := [.int rc.1]) (X _) (tX7_far (kM_at ad am ct (mk Mc [(8, rc.2.1), (9, rc.2.2.1), (10, rc.2.2.2.1), (11, rc.2.2.2.2.1), (12, rc.2.2.2.2.2.1)] Mc.2.1 [(42, rc.2.2.2.2.2.2.1), (43, rc.2.2.2.2.2.2.2)])) Mr hm) w_784 mvX7_far (by rw [show kR (kset κ _) = room_1 from eR]; exact ⟨Nat.le_of_ble_eq_true rfl, Nat.le_of_ble_eq_true rfl⟩) ⟨rfl, rfl⟩ rfl (Nat.le_of_ble_eq_true rfl) (((kM_at ad am ct (mk Mc [(8, rc.2.1), (9, rc.2.2.1), (10, rc.2.2.2.1), (11, rc.2.2.2.2.1), (12, rc.2.2.2.2.2.1)] Mc.2.1 [(42, rc.2.2.2.2.2.2.1), (43, rc.2.2.2.2.2.2.2)])).1) _) rfl rfl dL_law_711 ?_
  refine z_icmp_eq (tgt := 1253) (X _) dL_law_714 (by decide) (fun _ => ?_) (fun c => absurd he c)
  exact hk _ _ hr
set_option maxHeartbeats 4000000 in
set_option maxRecDepth 100000 in
theorem lc_canopy {κ : Rx} {ct : Nat → ClassId} {tF : Nat} {ad am : Nat → Nat} {REL : Mm → Mm → Prop} {b L j : Nat} {xs : Nat → Int32} (X : ∀ w : Mm → va_W, CX (kset κ w) ct tF cL_law 4 RL) (eR : kR κ = room_1) (hX : ∀ w : Mm → va_W, SX (kset κ w) b L xs) (hL : L ≤ 2560) (hj : j + 5 ≤ L) {Mc Mr : Mm} (hR : REL Mc Mr) (hal : Al_canopy REL) (hk : ∀ Mc Mr, REL Mc Mr → Zl κ ad am ct 1253 [(0, .ref b), (1, .ref (ad 0)), (2, .ref (am 0)), (3, .int (nI j))] [] Mc Mr) : Zl κ ad am ct 719 [(0, .ref b), (1, .ref (ad 0)), (2, .ref (am 0)), (3, .int (nI j))] [] Mc Mr := by
  obtain ⟨rc, rm, hc, hm, he, hr⟩ := hal Mc Mr  hR
  unfold Zl
  refine z_aload_n (X _) dL_law_719 1 rfl rfl ?_
  refine z_cVI (As := []) (st := []) (X _) (tX6_canopy (kC_at ad ct (wMs am ct Mr)) Mc hc) w_788 mvX6_canopy (by rw [show kR (kset κ _) = room_1 from eR]; exact ⟨Nat.le_of_ble_eq_true rfl, Nat.le_of_ble_eq_true rfl⟩) ⟨rfl, rfl⟩ rfl (Nat.le_of_ble_eq_true rfl) (((kC_at ad ct (wMs am ct Mr)).2.2.2.2.2.2.1) _) rfl rfl dL_law_720 ?_
  refine z_aload_n (X _) dL_law_723 2 rfl rfl ?_
  show Zj (kset κ (fun M => wCs ad ct Mc ++ wMs am ct M)) 4 _ _ _ Mr
  refine z_cVI (As := []) (st := [.int rc]) (X _) (tX7_canopy (kM_at ad am ct Mc) Mr hm) w_792 mvX7_canopy (by rw [show kR (kset κ _) = room_1 from eR]; exact ⟨Nat.le_of_ble_eq_true rfl, Nat.le_of_ble_eq_true rfl⟩) ⟨rfl, rfl⟩ rfl (Nat.le_of_ble_eq_true rfl) (((kM_at ad am ct Mc).1) _) rfl rfl dL_law_724 ?_
  refine z_icmp_eq (tgt := 1253) (X _) dL_law_727 (by decide) (fun _ => ?_) (fun c => absurd he c)
  exact hk _ _ hr
set_option maxHeartbeats 4000000 in
set_option maxRecDepth 100000 in
theorem lc_inClass {κ : Rx} {ct : Nat → ClassId} {tF : Nat} {ad am : Nat → Nat} {REL : Mm → Mm → Prop} {b L j : Nat} {xs : Nat → Int32} (X : ∀ w : Mm → va_W, CX (kset κ w) ct tF cL_law 4 RL) (eR : kR κ = room_1) (hX : ∀ w : Mm → va_W, SX (kset κ w) b L xs) (hL : L ≤ 2560) (hj : j + 5 ≤ L) {Mc Mr : Mm} (hR : REL Mc Mr) (hal : Al_inClass REL) (hk : ∀ Mc Mr, REL Mc Mr → Zl κ ad am ct 1253 [(0, .ref b), (1, .ref (ad 0)), (2, .ref (am 0)), (3, .int (nI j))] [] Mc Mr) : Zl κ ad am ct 732 [(0, .ref b), (1, .ref (ad 0)), (2, .ref (am 0)), (3, .int (nI j))] [] Mc Mr := by
  obtain ⟨rc, rm, hc, hm, he, hr⟩ := hal Mc Mr (xs (j + 1)) (xs (j + 2)) hR
  unfold Zl
  refine z_aload_n (X _) dL_law_732 1 rfl rfl ?_
  refine z_aload_n (X _) dL_law_733 0 rfl rfl ?_
  refine z_iload_n (X _) dL_law_734 3 rfl rfl ?_
  refine z_iconst (v := nI 1) (X _) dL_law_735 (by decide) ?_
  refine z_iadd (X _) dL_law_736 ?_
  refine z_sld (v := xs (j + 1)) (X _) (hX _) (sx_at xs (by omega) hL) dL_law_737 ?_
  refine z_aload_n (X _) dL_law_738 0 rfl rfl ?_
  refine z_iload_n (X _) dL_law_739 3 rfl rfl ?_
  refine z_iconst (v := nI 2) (X _) dL_law_740 (by decide) ?_
  refine z_iadd (X _) dL_law_741 ?_
  refine z_sld (v := xs (j + 2)) (X _) (hX _) (sx_at xs (by omega) hL) dL_law_742 ?_
  refine z_cVI (As := [.int (xs (j + 1)), .int (xs (j + 2))]) (st := []) (X _) (tX6_inClass (kC_at ad ct (wMs am ct Mr)) Mc hc) w_793 mvX6_inClass (by rw [show kR (kset κ _) = room_1 from eR]; exact ⟨Nat.le_of_ble_eq_true rfl, Nat.le_of_ble_eq_true rfl⟩) ⟨rfl, rfl⟩ rfl (Nat.le_of_ble_eq_true rfl) (((kC_at ad ct (wMs am ct Mr)).2.2.2.2.2.2.1) _) rfl rfl dL_law_743 ?_
  refine z_aload_n (X _) dL_law_746 2 rfl rfl ?_
  refine z_aload_n (X _) dL_law_747 0 rfl rfl ?_
  refine z_iload_n (X _) dL_law_748 3 rfl rfl ?_
  refine z_iconst (v := nI 1) (X _) dL_law_749 (by decide) ?_
  refine z_iadd (X _) dL_law_750 ?_
  refine z_sld (v := xs (j + 1)) (X _) (hX _) (sx_at xs (by omega) hL) dL_law_751 ?_
  refine z_aload_n (X _) dL_law_752 0 rfl rfl ?_
  refine z_iload_n (X _) dL_law_753 3 rfl rfl ?_
  refine z_iconst (v := nI 2) (X _) dL_law_754 (by decide) ?_
  refine z_iadd (X _) dL_law_755 ?_
  refine z_sld (v := xs (j + 2)) (X _) (hX _) (sx_at xs (by omega) hL) dL_law_756 ?_
  show Zj (kset κ (fun M => wCs ad ct Mc ++ wMs am ct M)) 4 _ _ _ Mr
  refine z_cVI (As := [.int (xs (j + 1)), .int (xs (j + 2))]) (st := [.int rc]) (X _) (tX7_inClass (kM_at ad am ct Mc) Mr hm) w_797 mvX7_inClass (by rw [show kR (kset κ _) = room_1 from eR]; exact ⟨Nat.le_of_ble_eq_true rfl, Nat.le_of_ble_eq_true rfl⟩) ⟨rfl, rfl⟩ rfl (Nat.le_of_ble_eq_true rfl) (((kM_at ad am ct Mc).1) _) rfl rfl dL_law_757 ?_
  refine z_icmp_eq (tgt := 1253) (X _) dL_law_760 (by decide) (fun _ => ?_) (fun c => absurd he c)
  exact hk _ _ hr
set_option maxHeartbeats 4000000 in
set_option maxRecDepth 100000 in
theorem lc_likeness {κ : Rx} {ct : Nat → ClassId} {tF : Nat} {ad am : Nat → Nat} {REL : Mm → Mm → Prop} {b L j : Nat} {xs : Nat → Int32} (X : ∀ w : Mm → va_W, CX (kset κ w) ct tF cL_law 4 RL) (eR : kR κ = room_1) (hX : ∀ w : Mm → va_W, SX (kset κ w) b L xs) (hL : L ≤ 2560) (hj : j + 5 ≤ L) {Mc Mr : Mm} (hR : REL Mc Mr) (hal : Al_likeness REL) (hk : ∀ Mc Mr, REL Mc Mr → Zl κ ad am ct 1253 [(0, .ref b), (1, .ref (ad 0)), (2, .ref (am 0)), (3, .int (nI j))] [] Mc Mr) : Zl κ ad am ct 765 [(0, .ref b), (1, .ref (ad 0)), (2, .ref (am 0)), (3, .int (nI j))] [] Mc Mr := by
  obtain ⟨rc, rm, hc, hm, he, hr⟩ := hal Mc Mr (xs (j + 1)) hR
  unfold Zl
  refine z_aload_n (X _) dL_law_765 1 rfl rfl ?_
  refine z_aload_n (X _) dL_law_766 0 rfl rfl ?_
  refine z_iload_n (X _) dL_law_767 3 rfl rfl ?_
  refine z_iconst (v := nI 1) (X _) dL_law_768 (by decide) ?_
  refine z_iadd (X _) dL_law_769 ?_
  refine z_sld (v := xs (j + 1)) (X _) (hX _) (sx_at xs (by omega) hL) dL_law_770 ?_
  refine z_cVI (As := [.int (xs (j + 1))]) (st := []) (X _) (tX6_likeness (kC_at ad ct (wMs am ct Mr)) Mc hc) w_801 mvX6_likeness (by rw [show kR (kset κ _) = room_1 from eR]; exact ⟨Nat.le_of_ble_eq_true rfl, Nat.le_of_ble_eq_true rfl⟩) ⟨rfl, rfl⟩ rfl (Nat.le_of_ble_eq_true rfl) (((kC_at ad ct (wMs am ct Mr)).2.2.2.2.2.2.1) _) rfl rfl dL_law_771 ?_
  refine z_aload_n (X _) dL_law_774 2 rfl rfl ?_
  refine z_aload_n (X _) dL_law_775 0 rfl rfl ?_
  refine z_iload_n (X _) dL_law_776 3 rfl rfl ?_
  refine z_iconst (v := nI 1) (X _) dL_law_777 (by decide) ?_
  refine z_iadd (X _) dL_law_778 ?_
  refine z_sld (v := xs (j + 1)) (X _) (hX _) (sx_at xs (by omega) hL) dL_law_779 ?_
  show Zj (kset κ (fun M => wCs ad ct Mc ++ wMs am ct M)) 4 _ _ _ Mr
  refine z_cVI (As := [.int (xs (j + 1))]) (st := [.int rc]) (X _) (tX7_likeness (kM_at ad am ct Mc) Mr hm) w_805 mvX7_likeness (by rw [show kR (kset κ _) = room_1 from eR]; exact ⟨Nat.le_of_ble_eq_true rfl, Nat.le_of_ble_eq_true rfl⟩) ⟨rfl, rfl⟩ rfl (Nat.le_of_ble_eq_true rfl) (((kM_at ad am ct Mc).1) _) rfl rfl dL_law_780 ?_
  refine z_icmp_eq (tgt := 1253) (X _) dL_law_783 (by decide) (fun _ => ?_) (fun c => absurd he c)
  exact hk _ _ hr
set_option maxHeartbeats 4000000 in
set_option maxRecDepth 100000 in
theorem lc_keep {κ : Rx} {ct : Nat → ClassId} {tF : Nat} {ad am : Nat → Nat} {REL : Mm → Mm → Prop} {b L j : Nat} {xs : Nat → Int32} (X : ∀ w : Mm → va_W, CX (kset κ w) ct tF cL_law 4 RL) (eR : kR κ = room_1) (hX : ∀ w : Mm → va_W, SX (kset κ w) b L xs) (hL : L ≤ 2560) (hj : j + 5 ≤ L) {Mc Mr : Mm} (hR : REL Mc Mr) (hal : Al_keep REL) (hk : ∀ Mc Mr, REL Mc Mr → Zl κ ad am ct 1253 [(0, .ref b), (1, .ref (ad 0)), (2, .ref (am 0)), (3, .int (nI j))] [] Mc Mr) : Zl κ ad am ct 788 [(0, .ref b), (1, .ref (ad 0)), (2, .ref (am 0)), (3, .int (nI j))] [] Mc Mr := by
  obtain ⟨rc, rm, hc, hm, he, hr⟩ := hal Mc Mr (xs (j + 1)) hR
  unfold Zl
  refine z_aload_n (X _) dL_law_788 1 rfl rfl ?_
  refine z_aload_n (X _) dL_law_789 0 rfl rfl ?_
  refine z_iload_n (X _) dL_law_790 3 rfl rfl ?_
  refine z_iconst (v := nI 1) (X _) dL_law_791 (by decide) ?_
  refine z_iadd (X _) dL_law_792 ?_
  refine z_sld (v := xs (j + 1)) (X _) (hX _) (sx_at xs (by omega) hL) dL_law_793 ?_
  refine z_cVI (As := [.int (xs (j + 1))]) (st := []) (X _) (tX6_keep (kC_at ad ct (wMs am ct Mr)) Mc hc) w_809 mvX6_keep (by rw [show kR (kset κ _) = room_1 from eR]; exact ⟨Nat.le_of_ble_eq_true rfl, Nat.le_of_ble_eq_true rfl⟩) ⟨rfl, rfl⟩ rfl (Nat.le_of_ble_eq_true rfl) (((kC_at ad ct (wMs am ct Mr)).2.2.2.2.2.2.1) _) rfl rfl dL_law_794 ?_
  refine z_aload_n (X _) dL_law_797 2 rfl rfl ?_
  refine z_aload_n (X _) dL_law_798 0 rfl rfl ?_
  refine z_iload_n (X _) dL_law_799 3 rfl rfl ?_
  refine z_iconst (v := nI 1) (X _) dL_law_800 (by decide) ?_
  refine z_iadd (X _) dL_law_801 ?_
  refine z_sld (v := xs (j + 1)) (X _) (hX _) (sx_at xs (by omega) hL) dL_law_802 ?_
  show Zj (kset κ (fun M => wCs ad ct (mk Mc [(27, rc.2)] Mc.2.1 []) ++ wMs am ct M)) 4 _ _ _ Mr
  refine z_cVI (As := [.int (xs (j + 1))]) (st := [.int rc.1]) (X _) (tX7_keep (kM_at ad am ct (mk Mc [(27, rc.2)] Mc.2.1 [])) Mr hm) w_813 mvX7_keep (by rw [show kR (kset κ _) = room_1 from eR]; exact ⟨Nat.le_of_ble_eq_true rfl, Nat.le_of_ble_eq_true rfl⟩) ⟨rfl, rfl⟩ rfl (Nat.le_of_ble_eq_true rfl) (((kM_at ad am ct (mk Mc [(27, rc.2)] Mc.2.1 [])).1) _) rfl rfl dL_law_803 ?_
  refine z_icmp_eq (tgt := 1253) (X _) dL_law_806 (by decide) (fun _ => ?_) (fun c => absurd he c)
  exact hk _ _ hr
set_option maxHeartbeats 4000000 in
set_option maxRecDepth 100000 in
theorem lc_lay {κ : Rx} {ct : Nat → ClassId} {tF : Nat} {ad am : Nat → Nat} {REL : Mm → Mm → Prop} {b L j : Nat} {xs : Nat → Int32} (X : ∀ w : Mm → va_W, CX (kset κ w) ct tF cL_law 4 RL) (eR : kR κ = room_1) (hX : ∀ w : Mm → va_W, SX (kset κ w) b L xs) (hL : L ≤ 2560) (hj : j + 5 ≤ L) {Mc Mr : Mm} (hR : REL Mc Mr) (hal : Al_lay REL) (hk : ∀ Mc Mr, REL Mc Mr → Zl κ ad am ct 1253 [(0, .ref b), (1, .ref (ad 0)), (2, .ref (am 0)), (3, .int (nI j))] [] Mc Mr) : Zl κ ad am ct 811 [(0, .ref b), (1, .ref (ad 0)), (2, .ref (am 0)), (3, .int (nI j))] [] Mc Mr := by
  obtain ⟨rc, rm, hc, hm, he, hr⟩ := hal Mc Mr (xs (j + 1)) hR
  unfold Zl
  refine z_aload_n (X _) dL_law_811 1 rfl rfl ?_
  refine z_aload_n (X _) dL_law_812 0 rfl rfl ?_
  refine z_iload_n (X _) dL_law_813 3 rfl rfl ?_
  refine z_iconst (v := nI 1) (X _) dL_law_814 (by decide) ?_
  refine z_iadd (X _) dL_law_815 ?_
  refine z_sld (v := xs (j + 1)) (X _) (hX _) (sx_at xs (by omega) hL) dL_law_816 ?_
  refine z_cVI (As := [.int (xs (j + 1))]) (st := []) (X _) (tX6_lay (kC_at ad ct (wMs am ct Mr)) Mc hc) w_817 mvX6_lay (by rw [show kR (kset κ _) = room_1 from eR]; exact ⟨Nat.le_of_ble_eq_true rfl, Nat.le_of_ble_eq_true rfl⟩) ⟨rfl, rfl⟩ rfl (Nat.le_of_ble_eq_true rfl) (((kC_at ad ct (wMs am ct Mr)).2.2.2.2.2.2.1) _) rfl rfl dL_law_817 ?_
  refine z_aload_n (X _) dL_law_820 2 rfl rfl ?_
  refine z_aload_n (X _) dL_law_821 0 rfl rfl ?_
  refine z_iload_n (X _) dL_law_822 3 rfl rfl ?_
  refine z_iconst (v := nI 1) (X _) dL_law_823 (by decide) ?_
  refine z_iadd (X _) dL_law_824 ?_
  refine z_sld (v := xs (j + 1)) (X _) (hX _) (sx_at xs (by omega) hL) dL_law_825 ?_
  show Zj (kset κ (fun M => wCs ad ct (mk Mc [(15, rc.2.1)] Mc.2.1 [(41, rc.2.2.1), (44, rc.2.2.2)]) ++ wMs am ct M)) 4 _ _ _ Mr
  refine z_cVI (As := [.int (xs (j + 1))]) (st := [.int rc.1]) (X _) (tX7_lay (kM_at ad am ct (mk Mc [(15, rc.2.1)] Mc.2.1 [(41, rc.2.2.1), (44, rc.2.2.2)])) Mr hm) w_821 mvX7_lay (by rw [show kR (kset κ _) = room_1 from eR]; exact ⟨Nat.le_of_ble_eq_true rfl, Nat.le_of_ble_eq_true rfl⟩) ⟨rfl, rfl⟩ rfl (Nat.le_of_ble_eq_true rfl) (((kM_at ad am ct (mk Mc [(15, rc.2.1)] Mc.2.1 [(41, rc.2.2.1), (44, rc.2.2.2)])).1) _) rfl rfl dL_law_826 ?_
  refine z_icmp_eq (tgt := 1253) (X _) dL_law_829 (by decide) (fun _ => ?_) (fun c => absurd he c)
  exact hk _ _ hr
set_option maxHeartbeats 4000000 in
set_option maxRecDepth 100000 in
theorem lc_lose {κ : Rx} {ct : Nat → ClassId} {tF : Nat} {ad am : Nat → Nat} {REL : Mm → Mm → Prop} {b L j : Nat} {xs : Nat → Int32} (X : ∀ w : Mm → va_W, CX (kset κ w) ct tF cL_law 4 RL) (eR : kR κ = room_1) (hX : ∀ w : Mm → va_W, SX (kset κ w) b L xs) (hL : L ≤ 2560) (hj : j + 5 ≤ L) {Mc Mr : Mm} (hR : REL Mc Mr) (hal : Al_lose REL) (hk : ∀ Mc Mr, REL Mc Mr → Zl κ ad am ct 1253 [(0, .ref b), (1, .ref (ad 0)), (2, .ref (am 0)), (3, .int (nI j))] [] Mc Mr) : Zl κ ad am ct 834 [(0, .ref b), (1, .ref (ad 0)), (2, .ref (am 0)), (3, .int (nI j))] [] Mc Mr := by
  obtain ⟨rc, rm, hc, hm, he, hr⟩ := hal Mc Mr (xs (j + 1)) hR
  unfold Zl
  refine z_aload_n (X _) dL_law_834 1 rfl rfl ?_
  refine z_aload_n (X _) dL_law_835 0 rfl rfl ?_
  refine z_iload_n (X _) dL_law_836 3 rfl rfl ?_
  refine z_iconst (v := nI 1) (X _) dL_law_837 (by decide) ?_
  refine z_iadd (X _) dL_law_838 ?_
  refine z_sld (v := xs (j + 1)) (X _) (hX _) (sx_at xs (by omega) hL) dL_law_839 ?_
  refine z_cVI (As := [.int (xs (j + 1))]) (st := []) (X _) (tX6_lose (kC_at ad ct (wMs am ct Mr)) Mc hc) w_825 mvX6_lose (by rw [show kR (kset κ _) = room_1 from eR]; exact ⟨Nat.le_of_ble_eq_true rfl, Nat.le_of_ble_eq_true rfl⟩) ⟨rfl, rfl⟩ rfl (Nat.le_of_ble_eq_true rfl) (((kC_at ad ct (wMs am ct Mr)).2.2.2.2.2.2.1) _) rfl rfl dL_law_840 ?_
  refine z_aload_n (X _) dL_law_843 2 rfl rfl ?_
  refine z_aload_n (X _) dL_law_844 0 rfl rfl ?_
  refine z_iload_n (X _) dL_law_845 3 rfl rfl ?_
  refine z_iconst (v := nI 1) (X _) dL_law_846 (by decide) ?_
  refine z_iadd (X _) dL_law_847 ?_
  refine z_sld (v := xs (j + 1)) (X _) (hX _) (sx_at xs (by omega) hL) dL_law_848 ?_
  show Zj (kset κ (fun M => wCs ad ct (mk Mc [(27, rc.2)] Mc.2.1 []) ++ wMs am ct M)) 4 _ _ _ Mr
  refine z_cVI (As := [.int (xs (j + 1))]) (st := [.int rc.1]) (X _) (tX7_lose (kM_at ad am ct (mk Mc [(27, rc.2)] Mc.2.1 [])) Mr hm) w_829 mvX7_lose (by rw [show kR (kset κ _) = room_1 from eR]; exact ⟨Nat.le_of_ble_eq_true rfl, Nat.le_of_ble_eq_true rfl⟩) ⟨rfl, rfl⟩ rfl (Nat.le_of_ble_eq_true rfl) (((kM_at ad am ct (mk Mc [(27, rc.2)] Mc.2.1 [])).1) _) rfl rfl dL_law_849 ?_
  refine z_icmp_eq (tgt := 1253) (X _) dL_law_852 (by decide) (fun _ => ?_) (fun c => absurd he c)
  exact hk _ _ hr
set_option maxHeartbeats 4000000 in
set_option maxRecDepth 100000 in
theorem lc_over {κ : Rx} {ct : Nat → ClassId} {tF : Nat} {ad am : Nat → Nat} {REL : Mm → Mm → Prop} {b L j : Nat} {xs : Nat → Int32} (X : ∀ w : Mm → va_W, CX (kset κ w) ct tF cL_law 4 RL) (eR : kR κ = room_1) (hX : ∀ w : Mm → va_W, SX (kset κ w) b L xs) (hL : L ≤ 2560) (hj : j + 5 ≤ L) {Mc Mr : Mm} (hR : REL Mc Mr) (hal : Al_over REL) (hk : ∀ Mc Mr, REL Mc Mr → Zl κ ad am ct 1253 [(0, .ref b), (1, .ref (ad 0)), (2, .ref (am 0)), (3, .int (nI j))] [] Mc Mr) : Zl κ ad am ct 857 [(0, .ref b), (1, .ref (ad 0)), (2, .ref (am 0)), (3, .int (nI j))] [] Mc Mr := by
  obtain ⟨rc, rm, hc, hm, he, hr⟩ := hal Mc Mr (xs (j + 1)) hR
  unfold Zl
  refine z_aload_n (X _) dL_law_857 1 rfl rfl ?_
  refine z_aload_n (X _) dL_law_858 0 rfl rfl ?_
  refine z_iload_n (X _) dL_law_859 3 rfl rfl ?_
  refine z_iconst (v := nI 1) (X _) dL_law_860 (by decide) ?_
  refine z_iadd (X _) dL_law_861 ?_
  refine z_sld (v := xs (j + 1)) (X _) (hX _) (sx_at xs (by omega) hL) dL_law_862 ?_
  refine z_cVI (As := [.int (xs (j + 1))]) (st := []) (X _) (tX6_over (kC_at ad ct (wMs am ct Mr)) Mc hc) w_833 mvX6_over (by rw [show kR (kset κ _) = room_1 from eR]; exact ⟨Nat.le_of_ble_eq_true rfl, Nat.le_of_ble_eq_true rfl⟩) ⟨rfl, rfl⟩ rfl (Nat.le_of_ble_eq_true rfl) (((kC_at ad ct (wMs am ct Mr)).2.2.2.2.2.2.1) _) rfl rfl dL_law_863 ?_
  refine z_aload_n (X _) dL_law_866 2 rfl rfl ?_
  refine z_aload_n (X _) dL_law_867 0 rfl rfl ?_
  refine z_iload_n (X _) dL_law_868 3 rfl rfl ?_
  refine z_iconst (v := nI 1) (X _) dL_law_869 (by decide) ?_
  refine z_iadd (X _) dL_law_870 ?_
  refine z_sld (v := xs (j + 1)) (X _) (hX _) (sx_at xs (by omega) hL) dL_law_871 ?_
  show Zj (kset κ (fun M => wCs ad ct (mk Mc [(15, rc.2.1)] Mc.2.1 [(41, rc.2.2.1), (44, rc.2.2.2)]) ++ wMs am ct M)) 4 _ _ _ Mr
  refine z_cVI (As := [.int (xs (j + 1))]) (st := [.int rc.1]) (X _) (tX7_over (kM_at ad am ct (mk Mc [(15, rc.2.1)] Mc.2.1 [(41, rc.2.2.1), (44, rc.2.2.2)])) Mr hm) w_837 mvX7_over (by rw [show kR (kset κ _) = room_1 from eR]; exact ⟨Nat.le_of_ble_eq_true rfl, Nat.le_of_ble_eq_true rfl⟩) ⟨rfl, rfl⟩ rfl (Nat.le_of_ble_eq_true rfl) (((kM_at ad am ct (mk Mc [(15, rc.2.1)] Mc.2.1 [(41, rc.2.2.1), (44, rc.2.2.2)])).1) _) rfl rfl dL_law_872 ?_
  refine z_icmp_eq (tgt := 1253) (X _) dL_law_875 (by decide) (fun _ => ?_) (fun c => absurd he c)
  exact hk _ _ hr
set_option maxHeartbeats 4000000 in
set_option maxRecDepth 100000 in
theorem lc_under {κ : Rx} {ct : Nat → ClassId} {tF : Nat} {ad am : Nat → Nat} {REL : Mm → Mm → Prop} {b L j : Nat} {xs : Nat → Int32} (X : ∀ w : Mm → va_W, CX (kset κ w) ct tF cL_law 4 RL) (eR : kR κ = room_1) (hX : ∀ w : Mm → va_W, SX (kset κ w) b L xs) (hL : L ≤ 2560) (hj : j + 5 ≤ L) {Mc Mr : Mm} (hR : REL Mc Mr) (hal : Al_under REL) (hk : ∀ Mc Mr, REL Mc Mr → Zl κ ad am ct 1253 [(0, .ref b), (1, .ref (ad 0)), (2, .ref (am 0)), (3, .int (nI j))] [] Mc Mr) : Zl κ ad am ct 880 [(0, .ref b), (1, .ref (ad 0)), (2, .ref (am 0)), (3, .int (nI j))] [] Mc Mr := by
  obtain ⟨rc, rm, hc, hm, he, hr⟩ := hal Mc Mr (xs (j + 1)) hR
  unfold Zl
  refine z_aload_n (X _) dL_law_880 1 rfl rfl ?_
  refine z_aload_n (X _) dL_law_881 0 rfl rfl ?_
  refine z_iload_n (X _) dL_law_882 3 rfl rfl ?_
  refine z_iconst (v := nI 1) (X _) dL_law_883 (by decide) ?_
  refine z_iadd (X _) dL_law_884 ?_
  refine z_sld (v := xs (j + 1)) (X _) (hX _) (sx_at xs (by omega) hL) dL_law_885 ?_
  refine z_cVI (As := [.int (xs (j + 1))]) (st := []) (X _) (tX6_under (kC_at ad ct (wMs am ct Mr)) Mc hc) w_841 mvX6_under (by rw [show kR (kset κ _) = room_1 from eR]; exact ⟨Nat.le_of_ble_eq_true rfl, Nat.le_of_ble_eq_true rfl⟩) ⟨rfl, rfl⟩ rfl (Nat.le_of_ble_eq_true rfl) (((kC_at ad ct (wMs am ct Mr)).2.2.2.2.2.2.1) _) rfl rfl dL_law_886 ?_
  refine z_aload_n (X _) dL_law_889 2 rfl rfl ?_
  refine z_aload_n (X _) dL_law_890 0 rfl rfl ?_
  refine z_iload_n (X _) dL_law_891 3 rfl rfl ?_
  refine z_iconst (v := nI 1) (X _) dL_law_892 (by decide) ?_
  refine z_iadd (X _) dL_law_893 ?_
  refine z_sld (v := xs (j + 1)) (X _) (hX _) (sx_at xs (by omega) hL) dL_law_894 ?_
  show Zj (kset κ (fun M => wCs ad ct (mk Mc [(15, rc.2.1)] Mc.2.1 [(41, rc.2.2.1), (44, rc.2.2.2)]) ++ wMs am ct M)) 4 _ _ _ Mr
  refine z_cVI (As := [.int (xs (j + 1))]) (st := [.int rc.1]) (X _) (tX7_under (kM_at ad am ct (mk Mc [(15, rc.2.1)] Mc.2.1 [(41, rc.2.2.1), (44, rc.2.2.2)])) Mr hm) w_845 mvX7_under (by rw [show kR (kset κ _) = room_1 from eR]; exact ⟨Nat.le_of_ble_eq_true rfl, Nat.le_of_ble_eq_true rfl⟩) ⟨rfl, rfl⟩ rfl (Nat.le_of_ble_eq_true rfl) (((kM_at ad am ct (mk Mc [(15, rc.2.1)] Mc.2.1 [(41, rc.2.2.1), (44, rc.2.2.2)])).1) _) rfl rfl dL_law_895 ?_
  refine z_icmp_eq (tgt := 1253) (X _) dL_law_898 (by decide) (fun _ => ?_) (fun c => absurd he c)
  exact hk _ _ hr
set_option maxHeartbeats 4000000 in
set_option maxRecDepth 100000 in
theorem lc_shelf {κ : Rx} {ct : Nat → ClassId} {tF : Nat} {ad am : Nat → Nat} {REL : Mm → Mm → Prop} {b L j : Nat} {xs : Nat → Int32} (X : ∀ w : Mm → va_W, CX (kset κ w) ct tF cL_law 4 RL) (eR : kR κ = room_1) (hX : ∀ w : Mm → va_W, SX (kset κ w) b L xs) (hL : L ≤ 2560) (hj : j + 5 ≤ L) {Mc Mr : Mm} (hR : REL Mc Mr) (hal : Al_shelf REL) (hk : ∀ Mc Mr, REL Mc Mr → Zl κ ad am ct 1253 [(0, .ref b), (1, .ref (ad 0)), (2, .ref (am 0)), (3, .int (nI j))] [] Mc Mr) : Zl κ ad am ct 903 [(0, .ref b), (1, .ref (ad 0)), (2, .ref (am 0)), (3, .int (nI j))] [] Mc Mr := by
  obtain ⟨rc, rm, hc, hm, he, hr⟩ := hal Mc Mr (xs (j + 1)) (xs (j + 2)) hR
  unfold Zl
  refine z_aload_n (X _) dL_law_903 1 rfl rfl ?_
  refine z_aload_n (X _) dL_law_904 0 rfl rfl ?_
  refine z_iload_n (X _) dL_law_905 3 rfl rfl ?_
  refine z_iconst (v := nI 1) (X _) dL_law_906 (by decide) ?_
  refine z_iadd (X _) dL_law_907 ?_
  refine z_sld (v := xs (j + 1)) (X _) (hX _) (sx_at xs (by omega) hL) dL_law_908 ?_
  refine z_aload_n (X _) dL_law_909 0 rfl rfl ?_
  refine z_iload_n (X _) dL_law_910 3 rfl rfl ?_
  refine z_iconst (v := nI 2) (X _) dL_law_911 (by decide) ?_
  refine z_iadd (X _) dL_law_912 ?_
  refine z_sld (v := xs (j + 2)) (X _) (hX _) (sx_at xs (by omega) hL) dL_law_913 ?_
  refine z_cVI (As := [.int (xs (j + 1)), .int (xs (j + 2))]) (st := []) (X _) (tX6_shelf (kC_at ad ct (wMs am ct Mr)) Mc hc) w_849 mvX6_shelf (by rw [show kR (kset κ _) = room_1 from eR]; exact ⟨Nat.le_of_ble_eq_true rfl, Nat.le_of_ble_eq_true rfl⟩) ⟨rfl, rfl⟩ rfl (Nat.le_of_ble_eq_true rfl) (((kC_at ad ct (wMs am ct Mr)).2.2.2.2.2.2.1) _) rfl rfl dL_law_914 ?_
  refine z_aload_n (X _) dL_law_917 2 rfl rfl ?_
  refine z_aload_n (X _) dL_law_918 0 rfl rfl ?_
  refine z_iload_n (X _) dL_law_919 3 rfl rfl ?_
  refine z_iconst (v := nI 1) (X _) dL_law_920 (by decide) ?_
  refine z_iadd (X _) dL_law_921 ?_
  refine z_sld (v := xs (j + 1)) (X _) (hX _) (sx_at xs (by omega) hL) dL_law_922 ?_
  refine z_aload_n (X _) dL_law_923 0 rfl rfl ?_
  refine z_iload_n (X _) dL_law_924 3 rfl rfl ?_
  refine z_iconst (v := nI 2) (X _) dL_law_925 (by decide) ?_
  refine z_iadd (X _) dL_law_926 ?_
  refine z_sld (v := xs (j + 2)) (X _) (hX _) (sx_at xs (by omega) hL) dL_law_927 ?_
  show Zj (kset κ (fun M => wCs ad ct Mc ++ wMs am ct M)) 4 _ _ _ Mr
  refine z_cVI (As := [.int (xs (j + 1)), .int (xs (j + 2))]) (st := [.int rc]) (X _) (tX7_shelf (kM_at ad am ct Mc) Mr hm) w_853 mvX7_shelf (by rw [show kR (kset κ _) = room_1 from eR]; exact ⟨Nat.le_of_ble_eq_true rfl, Nat.le_of_ble_eq_true rfl⟩) ⟨rfl, rfl⟩ rfl (Nat.le_of_ble_eq_true rfl) (((kM_at ad am ct Mc).1) _) rfl rfl dL_law_928 ?_
  refine z_icmp_eq (tgt := 1253) (X _) dL_law_931 (by decide) (fun _ => ?_) (fun c => absurd he c)
  exact hk _ _ hr
set_option maxHeartbeats 4000000 in
set_option maxRecDepth 100000 in
theorem lc_list {κ : Rx} {ct : Nat → ClassId} {tF : Nat} {ad am : Nat → Nat} {REL : Mm → Mm → Prop} {b L j : Nat} {xs : Nat → Int32} (X : ∀ w : Mm → va_W, CX (kset κ w) ct tF cL_law 4 RL) (eR : kR κ = room_1) (hX : ∀ w : Mm → va_W, SX (kset κ w) b L xs) (hL : L ≤ 2560) (hj : j + 5 ≤ L) {Mc Mr : Mm} (hR : REL Mc Mr) (hal : Al_list REL) (hk : ∀ Mc Mr, REL Mc Mr → Zl κ ad am ct 1253 [(0, .ref b), (1, .ref (ad 0)), (2, .ref (am 0)), (3, .int (nI j))] [] Mc Mr) : Zl κ ad am ct 936 [(0, .ref b), (1, .ref (ad 0)), (2, .ref (am 0)), (3, .int (nI j))] [] Mc Mr := by
  obtain ⟨rc, rm, hc, hm, he, hr⟩ := hal Mc Mr (xs (j + 1)) (xs (j + 2)) hR
  unfold Zl
  refine z_aload_n (X _) dL_law_936 1 rfl rfl ?_
  refine z_aload_n (X _) dL_law_937 0 rfl rfl ?_
  refine z_iload_n (X _) dL_law_938 3 rfl rfl ?_
  refine z_iconst (v := nI 1) (X _) dL_law_939 (by decide) ?_
  refine z_iadd (X _) dL_law_940 ?_
  refine z_sld (v := xs (j + 1)) (X _) (hX _) (sx_at xs (by omega) hL) dL_law_941 ?_
  refine z_aload_n (X _) dL_law_942 0 rfl rfl ?_
  refine z_iload_n (X _) dL_law_943 3 rfl rfl ?_
  refine z_iconst (v := nI 2) (X _) dL_law_944 (by decide) ?_
  refine z_iadd (X _) dL_law_945 ?_
  refine z_sld (v := xs (j + 2)) (X _) (hX _) (sx_at xs (by omega) hL) dL_law_946 ?_
  refine z_cVI (As := [.int (xs (j + 1)), .int (xs (j + 2))]) (st := []) (X _) (tX6_list (kC_at ad ct (wMs am ct Mr)) Mc hc) w_857 mvX6_list (by rw [show kR (kset κ _) = room_1 from eR]; exact ⟨Nat.le_of_ble_eq_true rfl, Nat.le_of_ble_eq_true rfl⟩) ⟨rfl, rfl⟩ rfl (Nat.le_of_ble_eq_true rfl) (((kC_at ad ct (wMs am ct Mr)).2.2.2.2.2.2.1) _) rfl rfl dL_law_947 ?_
  refine z_aload_n (X _) dL_law_950 2 rfl rfl ?_
  refine z_aload_n (X _) dL_law_951 0 rfl rfl ?_
  refine z_iload_n (X _) dL_law_952 3 rfl rfl ?_
  refine z_iconst (v := nI 1) (X _) dL_law_953 (by decide) ?_
  refine z_iadd (X _) dL_law_954 ?_
  refine z_sld (v := xs (j + 1)) (X _) (hX _) (sx_at xs (by omega) hL) dL_law_955 ?_
  refine z_aload_n (X _) dL_law_956 0 rfl rfl ?_
  refine z_iload_n (X _) dL_law_957 3 rfl rfl ?_
  refine z_iconst (v := nI 2) (X _) dL_law_958 (by decide) ?_
  refine z_iadd (X _) dL_law_959 ?_
  refine z_sld (v := xs (j + 2)) (X _) (hX _) (sx_at xs (by omega) hL) dL_law_960 ?_
  show Zj (kset κ (fun M => wCs ad ct (mk Mc [(21, rc.2.1)] rc.2.2 []) ++ wMs am ct M)) 4 _ _ _ Mr
  refine z_cVI (As := [.int (xs (j + 1)), .int (xs (j + 2))]) (st := [.int rc.1]) (X _) (tX7_list (kM_at ad am ct (mk Mc [(21, rc.2.1)] rc.2.2 [])) Mr hm) w_861 mvX7_list (by rw [show kR (kset κ _) = room_1 from eR]; exact ⟨Nat.le_of_ble_eq_true rfl, Nat.le_of_ble_eq_true rfl⟩) ⟨rfl, rfl⟩ rfl (Nat.le_of_ble_eq_true rfl) (((kM_at ad am ct (mk Mc [(21, rc.2.1)] rc.2.2 [])).1) _) rfl rfl dL_law_961 ?_
  refine z_icmp_eq (tgt := 1253) (X _) dL_law_964 (by decide) (fun _ => ?_) (fun c => absurd he c)
  exact hk _ _ hr
set_option maxHeartbeats 4000000 in
set_option maxRecDepth 100000 in
theorem lc_put {κ : Rx} {ct : Nat → ClassId} {tF : Nat} {ad am : Nat → Nat} {REL : Mm → Mm → Prop} {b L j : Nat} {xs : Nat → Int32} (X : ∀ w : Mm → va_W, CX (kset κ w) ct tF cL_law 4 RL) (eR : kR κ = room_1) (hX : ∀ w : Mm → va_W, SX (kset κ w) b L xs) (hL : L ≤ 2560) (hj : j + 5 ≤ L) {Mc Mr : Mm} (hR : REL Mc Mr) (hal : Al_put REL) (hk : ∀ Mc Mr, REL Mc Mr → Zl κ ad am ct 1253 [(0, .ref b), (1, .ref (ad 0)), (2, .ref (am 0)), (3, .int (nI j))] [] Mc Mr) : Zl κ ad am ct 969 [(0, .ref b), (1, .ref (ad 0)), (2, .ref (am 0)), (3, .int (nI j))] [] Mc Mr := by
  obtain ⟨rc, rm, hc, hm, he, hr⟩ := hal Mc Mr (xs (j + 1)) (xs (j + 2)) ((((xs (j + 3))).toInt64 <<< (((32 : Int32)).toInt64 &&& 63)) ||| (((xs (j + 4))).toInt64 &&& (4294967295 : Int64))) hR
  unfold Zl
  refine z_aload_n (X _) dL_law_969 1 rfl rfl ?_
  refine z_aload_n (X _) dL_law_970 0 rfl rfl ?_
  refine z_iload_n (X _) dL_law_971 3 rfl rfl ?_
  refine z_iconst (v := nI 1) (X _) dL_law_972 (by decide) ?_
  refine z_iadd (X _) dL_law_973 ?_
  refine z_sld (v := xs (j + 1)) (X _) (hX _) (sx_at xs (by omega) hL) dL_law_974 ?_
  refine z_aload_n (X _) dL_law_975 0 rfl rfl ?_
  refine z_iload_n (X _) dL_law_976 3 rfl rfl ?_
  refine z_iconst (v := nI 2) (X _) dL_law_977 (by decide) ?_
  refine z_iadd (X _) dL_law_978 ?_
  refine z_sld (v := xs (j + 2)) (X _) (hX _) (sx_at xs (by omega) hL) dL_law_979 ?_
  refine z_aload_n (X _) dL_law_980 0 rfl rfl ?_
  refine z_iload_n (X _) dL_law_981 3 rfl rfl ?_
  refine z_iconst (v := nI 3) (X _) dL_law_982 (by decide) ?_
  refine z_iadd (X _) dL_law_983 ?_
  refine z_sld (v := xs (j + 3)) (X _) (hX _) (sx_at xs (by omega) hL) dL_law_984 ?_
  refine z_i2l (X _) dL_law_985 ?_
  refine z_bipush (v := (32 : Int32)) (X _) dL_law_986 (by decide) ?_
  refine z_lshl (X _) dL_law_988 ?_
  refine z_aload_n (X _) dL_law_989 0 rfl rfl ?_
  refine z_iload_n (X _) dL_law_990 3 rfl rfl ?_
  refine z_iconst (v := nI 4) (X _) dL_law_991 (by decide) ?_
  refine z_iadd (X _) dL_law_992 ?_
  refine z_sld (v := xs (j + 4)) (X _) (hX _) (sx_at xs (by omega) hL) dL_law_993 ?_
  refine z_i2l (X _) dL_law_994 ?_
  refine z_ldc2 (X _) w_865 dL_law_995 ?_
  refine z_land (X _) dL_law_998 ?_
  refine z_lor (X _) dL_law_999 ?_
  refine z_cVI (As := [.int (xs (j + 1)), .int (xs (j + 2)), .long ((((xs (j + 3))).toInt64 <<< (((32 : Int32)).toInt64 &&& 63)) ||| (((xs (j + 4))).toInt64 &&& (4294967295 : Int64)))]) (st := []) (X _) (tX6_put (kC_at ad ct (wMs am ct Mr)) Mc hc) w_866 mvX6_put (by rw [show kR (kset κ _) = room_1 from eR]; exact ⟨Nat.le_of_ble_eq_true rfl, Nat.le_of_ble_eq_true rfl⟩) ⟨rfl, rfl⟩ rfl (Nat.le_of_ble_eq_true rfl) (((kC_at ad ct (wMs am ct Mr)).2.2.2.2.2.2.1) _) rfl rfl dL_law_1000 ?_
  refine z_aload_n (X _) dL_law_1003 2 rfl rfl ?_
  refine z_aload_n (X _) dL_law_1004 0 rfl rfl ?_
  refine z_iload_n (X _) dL_law_1005 3 rfl rfl ?_
  refine z_iconst (v := nI 1) (X _) dL_law_1006 (by decide) ?_
  refine z_iadd (X _) dL_law_1007 ?_
  refine z_sld (v := xs (j + 1)) (X _) (hX _) (sx_at xs (by omega) hL) dL_law_1008 ?_
  refine z_aload_n (X _) dL_law_1009 0 rfl rfl ?_
  refine z_iload_n (X _) dL_law_1010 3 rfl rfl ?_
  refine z_iconst (v := nI 2) (X _) dL_law_1011 (by decide) ?_
  refine z_iadd (X _) dL_law_1012 ?_
  refine z_sld (v := xs (j + 2)) (X _) (hX _) (sx_at xs (by omega) hL) dL_law_1013 ?_
  refine z_aload_n (X _) dL_law_1014 0 rfl rfl ?_
  refine z_iload_n (X _) dL_law_1015 3 rfl rfl ?_
  refine z_iconst (v := nI 3) (X _) dL_law_1016 (by decide) ?_
  refine z_iadd (X _) dL_law_1017 ?_
  refine z_sld (v := xs (j + 3)) (X _) (hX _) (sx_at xs (by omega) hL) dL_law_1018 ?_
  refine z_i2l (X _) dL_law_1019 ?_
  refine z_bipush (v := (32 : Int32)) (X _) dL_law_1020 (by decide) ?_
  refine z_lshl (X _) dL_law_1022 ?_
  refine z_aload_n (X _) dL_law_1023 0 rfl rfl ?_
  refine z_iload_n (X _) dL_law_1024 3 rfl rfl ?_
  refine z_iconst (v := nI 4) (X _) dL_law_1025 (by decide) ?_
  refine z_iadd (X _) dL_law_1026 ?_
  refine z_sld (v := xs (j + 4)) (X _) (hX _) (sx_at xs (by omega) hL) dL_law_1027 ?_
  refine z_i2l (X _) dL_law_1028 ?_
  refine z_ldc2 (X _) w_865 dL_law_1029 ?_
  refine z_land (X _) dL_law_1032 ?_
  refine z_lor (X _) dL_law_1033 ?_
  show Zj (kset κ (fun M => wCs ad ct (mk Mc [] rc.2 []) ++ wMs am ct M)) 4 _ _ _ Mr
  refine z_cVI (As := [.int (xs (j + 1)), .int (xs (j + 2)), .long ((((xs (j + 3))).toInt64 <<< (((32 : Int32)).toInt64 &&& 63)) ||| (((xs (j + 4))).toInt64 &&& (4294967295 : Int64)))]) (st := [.int rc.1]) (X _) (tX7_put (kM_at ad am ct (mk Mc [] rc.2 [])) Mr hm) w_870 mvX7_put (by rw [show kR (kset κ _) = room_1 from eR]; exact ⟨Nat.le_of_ble_eq_true rfl, Nat.le_of_ble_eq_true rfl⟩) ⟨rfl, rfl⟩ rfl (Nat.le_of_ble_eq_true rfl) (((kM_at ad am ct (mk Mc [] rc.2 [])).1) _) rfl rfl dL_law_1034 ?_
  refine z_icmp_eq (tgt := 1253) (X _) dL_law_1037 (by decide) (fun _ => ?_) (fun c => absurd he c)
  exact hk _ _ hr
set_option maxHeartbeats 4000000 in
set_option maxRecDepth 100000 in
theorem lc_get {κ : Rx} {ct : Nat → ClassId} {tF : Nat} {ad am : Nat → Nat} {REL : Mm → Mm → Prop} {b L j : Nat} {xs : Nat → Int32} (X : ∀ w : Mm → va_W, CX (kset κ w) ct tF cL_law 4 RL) (eR : kR κ = room_1) (hX : ∀ w : Mm → va_W, SX (kset κ w) b L xs) (hL : L ≤ 2560) (hj : j + 5 ≤ L) {Mc Mr : Mm} (hR : REL Mc Mr) (hal : Al_get REL) (hk : ∀ Mc Mr, REL Mc Mr → Zl κ ad am ct 1253 [(0, .ref b), (1, .ref (ad 0)), (2, .ref (am 0)), (3, .int (nI j))] [] Mc Mr) : Zl κ ad am ct 1042 [(0, .ref b), (1, .ref (ad 0)), (2, .ref (am 0)), (3, .int (nI j))] [] Mc Mr := by
  obtain ⟨rc, rm, hc, hm, he, hr⟩ := hal Mc Mr (xs (j + 1)) (xs (j + 2)) hR
  unfold Zl
  refine z_aload_n (X _) dL_law_1042 1 rfl rfl ?_
  refine z_aload_n (X _) dL_law_1043 0 rfl rfl ?_
  refine z_iload_n (X _) dL_law_1044 3 rfl rfl ?_
  refine z_iconst (v := nI 1) (X _) dL_law_1045 (by decide) ?_
  refine z_iadd (X _) dL_law_1046 ?_
  refine z_sld (v := xs (j + 1)) (X _) (hX _) (sx_at xs (by omega) hL) dL_law_1047 ?_
  refine z_aload_n (X _) dL_law_1048 0 rfl rfl ?_
  refine z_iload_n (X _) dL_law_1049 3 rfl rfl ?_
  refine z_iconst (v := nI 2) (X _) dL_law_1050 (by decide) ?_
  refine z_iadd (X _) dL_law_1051 ?_
  refine z_sld (v := xs (j + 2)) (X _) (hX _) (sx_at xs (by omega) hL) dL_law_1052 ?_
  refine z_cVL (As := [.int (xs (j + 1)), .int (xs (j + 2))]) (st := []) (X _) (tX6_get (kC_at ad ct (wMs am ct Mr)) Mc hc) w_874 mvX6_get (by rw [show kR (kset κ _) = room_1 from eR]; exact ⟨Nat.le_of_ble_eq_true rfl, Nat.le_of_ble_eq_true rfl⟩) ⟨rfl, rfl⟩ rfl (Nat.le_of_ble_eq_true rfl) (((kC_at ad ct (wMs am ct Mr)).2.2.2.2.2.2.1) _) rfl rfl dL_law_1053 ?_
  refine z_aload_n (X _) dL_law_1056 2 rfl rfl ?_
  refine z_aload_n (X _) dL_law_1057 0 rfl rfl ?_
  refine z_iload_n (X _) dL_law_1058 3 rfl rfl ?_
  refine z_iconst (v := nI 1) (X _) dL_law_1059 (by decide) ?_
  refine z_iadd (X _) dL_law_1060 ?_
  refine z_sld (v := xs (j + 1)) (X _) (hX _) (sx_at xs (by omega) hL) dL_law_1061 ?_
  refine z_aload_n (X _) dL_law_1062 0 rfl rfl ?_
  refine z_iload_n (X _) dL_law_1063 3 rfl rfl ?_
  refine z_iconst (v := nI 2) (X _) dL_law_1064 (by decide) ?_
  refine z_iadd (X _) dL_law_1065 ?_
  refine z_sld (v := xs (j + 2)) (X _) (hX _) (sx_at xs (by omega) hL) dL_law_1066 ?_
  show Zj (kset κ (fun M => wCs ad ct Mc ++ wMs am ct M)) 4 _ _ _ Mr
  refine z_cVL (As := [.int (xs (j + 1)), .int (xs (j + 2))]) (st := [.long rc]) (X _) (tX7_get (kM_at ad am ct Mc) Mr hm) w_878 mvX7_get (by rw [show kR (kset κ _) = room_1 from eR]; exact ⟨Nat.le_of_ble_eq_true rfl, Nat.le_of_ble_eq_true rfl⟩) ⟨rfl, rfl⟩ rfl (Nat.le_of_ble_eq_true rfl) (((kM_at ad am ct Mc).1) _) rfl rfl dL_law_1067 ?_
  refine z_lcmp (X _) dL_law_1070 ?_
  refine z_if_eq (tgt := 1253) (X _) dL_law_1071 (by decide) (fun _ => ?_) (fun c => absurd (by rw [he]; exact lg_cmp_same _) c)
  exact hk _ _ hr
set_option maxHeartbeats 4000000 in
set_option maxRecDepth 100000 in
theorem lc_play {κ : Rx} {ct : Nat → ClassId} {tF : Nat} {ad am : Nat → Nat} {REL : Mm → Mm → Prop} {b L j : Nat} {xs : Nat → Int32} (X : ∀ w : Mm → va_W, CX (kset κ w) ct tF cL_law 4 RL) (eR : kR κ = room_1) (hX : ∀ w : Mm → va_W, SX (kset κ w) b L xs) (hL : L ≤ 2560) (hj : j + 5 ≤ L) {Mc Mr : Mm} (hR : REL Mc Mr) (hal : Al_play REL) (hk : ∀ Mc Mr, REL Mc Mr → Zl κ ad am ct 1253 [(0, .ref b), (1, .ref (ad 0)), (2, .ref (am 0)), (3, .int (nI j))] [] Mc Mr) : Zl κ ad am ct 1076 [(0, .ref b), (1, .ref (ad 0)), (2, .ref (am 0)), (3, .int (nI j))] [] Mc Mr := by
  obtain ⟨rc, rm, hc, hm, he, hr⟩ := hal Mc Mr (xs (j + 1)) hR
  unfold Zl
  refine z_aload_n (X _) dL_law_1076 1 rfl rfl ?_
  refine z_aload_n (X _) dL_law_1077 0 rfl rfl ?_
  refine z_iload_n (X _) dL_law_1078 3 rfl rfl ?_
  refine z_iconst (v := nI 1) (X _) dL_law_1079 (by decide) ?_
  refine z_iadd (X _) dL_law_1080 ?_
  refine z_sld (v := xs (j + 1)) (X _) (hX _) (sx_at xs (by omega) hL) dL_law_1081 ?_
  refine z_cVI (As := [.int (xs (j + 1))]) (st := []) (X _) (tX6_play (kC_at ad ct (wMs am ct Mr)) Mc hc) w_882 mvX6_play (by rw [show kR (kset κ _) = room_1 from eR]; exact ⟨Nat.le_of_ble_eq_true rfl, Nat.le_of_ble_eq_true rfl⟩) ⟨rfl, rfl⟩ rfl (Nat.le_of_ble_eq_true rfl) (((kC_at ad ct (wMs am ct Mr)).2.2.2.2.2.2.1) _) rfl rfl dL_law_1082 ?_
  refine z_aload_n (X _) dL_law_1085 2 rfl rfl ?_
  refine z_aload_n (X _) dL_law_1086 0 rfl rfl ?_
  refine z_iload_n (X _) dL_law_1087 3 rfl rfl ?_
  refine z_iconst (v := nI 1) (X _) dL_law_1088 (by decide) ?_
  refine z_iadd (X _) dL_law_1089 ?_
  refine z_sld (v := xs (j + 1)) (X _) (hX _) (sx_at xs (by omega) hL) dL_law_1090 ?_
  show Zj (kset κ (fun M => wCs ad ct (mk Mc [(15, rc.2.1)] Mc.2.1 [(41, rc.2.2.1), (44, rc.2.2.2)]) ++ wMs am ct M)) 4 _ _ _ Mr
  refine z_cVI (As := [.int (xs (j + 1))]) (st := [.int rc.1]) (X _) (tX7_play (kM_at ad am ct (mk Mc [(15, rc.2.1)] Mc.2.1 [(41, rc.2.2.1), (44, rc.2.2.2)])) Mr hm) w_886 mvX7_play (by rw [show kR (kset κ _) = room_1 from eR]; exact ⟨Nat.le_of_ble_eq_true rfl, Nat.le_of_ble_eq_true rfl⟩) ⟨rfl, rfl⟩ rfl (Nat.le_of_ble_eq_true rfl) (((kM_at ad am ct (mk Mc [(15, rc.2.1)] Mc.2.1 [(41, rc.2.2.1), (44, rc.2.2.2)])).1) _) rfl rfl dL_law_1091 ?_
  refine z_icmp_eq (tgt := 1253) (X _) dL_law_1094 (by decide) (fun _ => ?_) (fun c => absurd he c)
  exact hk _ _ hr
set_option maxHeartbeats 4000000 in
set_option maxRecDepth 100000 in
theorem lc_film {κ : Rx} {ct : Nat → ClassId} {tF : Nat} {ad am : Nat → Nat} {REL : Mm → Mm → Prop} {b L j : Nat} {xs : Nat → Int32} (X : ∀ w : Mm → va_W, CX (kset κ w) ct tF cL_law 4 RL) (eR : kR κ = room_1) (hX : ∀ w : Mm → va_W, SX (kset κ w) b L xs) (hL : L ≤ 2560) (hj : j + 5 ≤ L) {Mc Mr : Mm} (hR : REL Mc Mr) (hal : Al_film REL) (hk : ∀ Mc Mr, REL Mc Mr → Zl κ ad am ct 1253 [(0, .ref b), (1, .ref (ad 0)), (2, .ref (am 0)), (3, .int (nI j))] [] Mc Mr) : Zl κ ad am ct 1099 [(0, .ref b), (1, .ref (ad 0)), (2, .ref (am 0)), (3, .int (nI j))] [] Mc Mr := by
  obtain ⟨rc, rm, hc, hm, he, hr⟩ := hal Mc Mr (xs (j + 1)) (xs (j + 2)) hR
  unfold Zl
  refine z_aload_n (X _) dL_law_1099 1 rfl rfl ?_
  refine z_aload_n (X _) dL_law_1100 0 rfl rfl ?_
  refine z_iload_n (X _) dL_law_1101 3 rfl rfl ?_
  refine z_iconst (v := nI 1) (X _) dL_law_1102 (by decide) ?_
  refine z_iadd (X _) dL_law_1103 ?_
  refine z_sld (v := xs (j + 1)) (X _) (hX _) (sx_at xs (by omega) hL) dL_law_1104 ?_
  refine z_aload_n (X _) dL_law_1105 0 rfl rfl ?_
  refine z_iload_n (X _) dL_law_1106 3 rfl rfl ?_
  refine z_iconst (v := nI 2) (X _) dL_law_1107 (by decide) ?_
  refine z_iadd (X _) dL_law_1108 ?_
  refine z_sld (v := xs (j + 2)) (X _) (hX _) (sx_at xs (by omega) hL) dL_law_1109 ?_
  refine z_cVI (As := [.int (xs (j + 1)), .int (xs (j + 2))]) (st := []) (X _) (tX6_film (kC_at ad ct (wMs am ct Mr)) Mc hc) w_890 mvX6_film (by rw [show kR (kset κ _) = room_1 from eR]; exact ⟨Nat.le_of_ble_eq_true rfl, Nat.le_of_ble_eq_true rfl⟩) ⟨rfl, rfl⟩ rfl (Nat.le_of_ble_eq_true rfl) (((kC_at ad ct (wMs am ct Mr)).2.2.2.2.2.2.1) _) rfl rfl dL_law_1110 ?_
  refine z_aload_n (X _) dL_law_1113 2 rfl rfl ?_
  refine z_aload_n (X _) dL_law_1114 0 rfl rfl ?_
  refine z_iload_n (X _) dL_law_1115 3 rfl rfl ?_
  refine z_iconst (v := nI 1) (X _) dL_law_1116 (by decide) ?_
  refine z_iadd (X _) dL_law_1117 ?_
  refine z_sld (v := xs (j + 1)) (X _) (hX _) (sx_at xs (by omega) hL) dL_law_1118 ?_
  refine z_aload_n (X _) dL_law_1119 0 rfl rfl ?_
  refine z_iload_n (X _) dL_law_1120 3 rfl rfl ?_
  refine z_iconst (v := nI 2) (X _) dL_law_1121 (by decide) ?_
  refine z_iadd (X _) dL_law_1122 ?_
  refine z_sld (v := xs (j + 2)) (X _) (hX _) (sx_at xs (by omega) hL) dL_law_1123 ?_
  show Zj (kset κ (fun M => wCs ad ct (mk Mc [(8, rc.2.1), (9, rc.2.2.1), (10, rc.2.2.2.1), (11, rc.2.2.2.2.1), (12, rc.2.2.2.2.2.1), (21, rc.2.2.2.2.2.2.1)] rc.2.2.2.2.2.2.2.1 [(42, rc.2.2.2.2.2.2.2.2.1), (43, rc.2.2.2.2.2.2.2.2.2)]) ++ wMs am ct M)) 4 _ _ _ Mr
  refine z_cVI (As := [.int (xs (j + 1)), .int (xs (j + 2))]) (st := [.int rc.1]) (X _) (tX7_film (kM_at ad am ct (mk Mc [(8, rc.2.1), (9, rc.2.2.1), (10, rc.2.2.2.1), (11, rc.2.2.2.2.1), (12, rc.2.2.2.2.2.1), (21, rc.2.2.2.2.2.2.1)] rc.2.2.2.2.2.2.2.1 [(42, rc.2.2.2.2.2.2.2.2.1), (43, rc.2.2.2.2.2.2.2.2.2)])) Mr hm) w_894 mvX7_film (by rw [show kR (kset κ _) = room_1 from eR]; exact ⟨Nat.le_of_ble_eq_true rfl, Nat.le_of_ble_eq_true rfl⟩) ⟨rfl, rfl⟩ rfl (Nat.le_of_ble_eq_true rfl) (((kM_at ad am ct (mk Mc [(8, rc.2.1), (9, rc.2.2.1), (10, rc.2.2.2.1), (11, rc.2.2.2.2.1), (12, rc.2.2.2.2.2.1), (21, rc.2.2.2.2.2.2.1)] rc.2.2.2.2.2.2.2.1 [(42, rc.2.2.2.2.2.2.2.2.1), (43, rc.2.2.2.2.2.2.2.2.2)])).1) _) rfl rfl dL_law_1124 ?_
  refine z_icmp_eq (tgt := 1253) (X _) dL_law_1127 (by decide) (fun _ => ?_) (fun c => absurd he c)
  exact hk _ _ hr
set_option maxHeartbeats 4000000 in
set_option maxRecDepth 100000 in
theorem lc_feed {κ : Rx} {ct : Nat → ClassId} {tF : Nat} {ad am : Nat → Nat} {REL : Mm → Mm → Prop} {b L j : Nat} {xs : Nat → Int32} (X : ∀ w : Mm → va_W, CX (kset κ w) ct tF cL_law 4 RL) (eR : kR κ = room_1) (hX : ∀ w : Mm → va_W, SX (kset κ w) b L xs) (hL : L ≤ 2560) (hj : j + 5 ≤ L) {Mc Mr : Mm} (hR : REL Mc Mr) (hal : Al_feed REL) (hk : ∀ Mc Mr, REL Mc Mr → Zl κ ad am ct 1253 [(0, .ref b), (1, .ref (ad 0)), (2, .ref (am 0)), (3, .int (nI j))] [] Mc Mr) : Zl κ ad am ct 1132 [(0, .ref b), (1, .ref (ad 0)), (2, .ref (am 0)), (3, .int (nI j))] [] Mc Mr := by
  obtain ⟨rc, rm, hc, hm, he, hr⟩ := hal Mc Mr (xs (j + 1)) hR
  unfold Zl
  refine z_aload_n (X _) dL_law_1132 1 rfl rfl ?_
  refine z_aload_n (X _) dL_law_1133 0 rfl rfl ?_
  refine z_iload_n (X _) dL_law_1134 3 rfl rfl ?_
  refine z_iconst (v := nI 1) (X _) dL_law_1135 (by decide) ?_
  refine z_iadd (X _) dL_law_1136 ?_
  refine z_sld (v := xs (j + 1)) (X _) (hX _) (sx_at xs (by omega) hL) dL_law_1137 ?_
  refine z_cVI (As := [.int (xs (j + 1))]) (st := []) (X _) (tX6_feed (kC_at ad ct (wMs am ct Mr)) Mc hc) w_898 mvX6_feed (by rw [show kR (kset κ _) = room_1 from eR]; exact ⟨Nat.le_of_ble_eq_true rfl, Nat.le_of_ble_eq_true rfl⟩) ⟨rfl, rfl⟩ rfl (Nat.le_of_ble_eq_true rfl) (((kC_at ad ct (wMs am ct Mr)).2.2.2.2.2.2.1) _) rfl rfl dL_law_1138 ?_
  refine z_aload_n (X _) dL_law_1141 2 rfl rfl ?_
  refine z_aload_n (X _) dL_law_1142 0 rfl rfl ?_
  refine z_iload_n (X _) dL_law_1143 3 rfl rfl ?_
  refine z_iconst (v := nI 1) (X _) dL_law_1144 (by decide) ?_
  refine z_iadd (X _) dL_law_1145 ?_
  refine z_sld (v := xs (j + 1)) (X _) (hX _) (sx_at xs (by omega) hL) dL_law_1146 ?_
  show Zj (kset κ (fun M => wCs ad ct (mk Mc [(23, rc.2.1)] Mc.2.1 [(45, rc.2.2)]) ++ wMs am ct M)) 4 _ _ _ Mr
  refine z_cVI (As := [.int (xs (j + 1))]) (st := [.int rc.1]) (X _) (tX7_feed (kM_at ad am ct (mk Mc [(23, rc.2.1)] Mc.2.1 [(45, rc.2.2)])) Mr hm) w_902 mvX7_feed (by rw [show kR (kset κ _) = room_1 from eR]; exact ⟨Nat.le_of_ble_eq_true rfl, Nat.le_of_ble_eq_true rfl⟩) ⟨rfl, rfl⟩ rfl (Nat.le_of_ble_eq_true rfl) (((kM_at ad am ct (mk Mc [(23, rc.2.1)] Mc.2.1 [(45, rc.2.2)])).1) _) rfl rfl dL_law_1147 ?_
  refine z_icmp_eq (tgt := 1253) (X _) dL_law_1150 (by decide) (fun _ => ?_) (fun c => absurd he c)
  exact hk _ _ hr
set_option maxHeartbeats 4000000 in
set_option maxRecDepth 100000 in
theorem lc_wipe {κ : Rx} {ct : Nat → ClassId} {tF : Nat} {ad am : Nat → Nat} {REL : Mm → Mm → Prop} {b L j : Nat} {xs : Nat → Int32} (X : ∀ w : Mm → va_W, CX (kset κ w) ct tF cL_law 4 RL) (eR : kR κ = room_1) (hX : ∀ w : Mm → va_W, SX (kset κ w) b L xs) (hL : L ≤ 2560) (hj : j + 5 ≤ L) {Mc Mr : Mm} (hR : REL Mc Mr) (hal : Al_wipe REL) (hk : ∀ Mc Mr, REL Mc Mr → Zl κ ad am ct 1253 [(0, .ref b), (1, .ref (ad 0)), (2, .ref (am 0)), (3, .int (nI j))] [] Mc Mr) : Zl κ ad am ct 1155 [(0, .ref b), (1, .ref (ad 0)), (2, .ref (am 0)), (3, .int (nI j))] [] Mc Mr := by
  obtain ⟨rc, rm, hc, hm, he, hr⟩ := hal Mc Mr  hR
  unfold Zl
  refine z_aload_n (X _) dL_law_1155 1 rfl rfl ?_
  refine z_cVI (As := []) (st := []) (X _) (tX6_wipe (kC_at ad ct (wMs am ct Mr)) Mc hc) w_906 mvX6_wipe (by rw [show kR (kset κ _) = room_1 from eR]; exact ⟨Nat.le_of_ble_eq_true rfl, Nat.le_of_ble_eq_true rfl⟩) ⟨rfl, rfl⟩ rfl (Nat.le_of_ble_eq_true rfl) (((kC_at ad ct (wMs am ct Mr)).2.2.2.2.2.2.1) _) rfl rfl dL_law_1156 ?_
  refine z_aload_n (X _) dL_law_1159 2 rfl rfl ?_
  show Zj (kset κ (fun M => wCs ad ct (mk Mc [] Mc.2.1 [(45, rc.2)]) ++ wMs am ct M)) 4 _ _ _ Mr
  refine z_cVI (As := []) (st := [.int rc.1]) (X _) (tX7_wipe (kM_at ad am ct (mk Mc [] Mc.2.1 [(45, rc.2)])) Mr hm) w_910 mvX7_wipe (by rw [show kR (kset κ _) = room_1 from eR]; exact ⟨Nat.le_of_ble_eq_true rfl, Nat.le_of_ble_eq_true rfl⟩) ⟨rfl, rfl⟩ rfl (Nat.le_of_ble_eq_true rfl) (((kM_at ad am ct (mk Mc [] Mc.2.1 [(45, rc.2)])).1) _) rfl rfl dL_law_1160 ?_
  refine z_icmp_eq (tgt := 1253) (X _) dL_law_1163 (by decide) (fun _ => ?_) (fun c => absurd he c)
  exact hk _ _ hr
set_option maxHeartbeats 4000000 in
set_option maxRecDepth 100000 in
theorem lc_read {κ : Rx} {ct : Nat → ClassId} {tF : Nat} {ad am : Nat → Nat} {REL : Mm → Mm → Prop} {b L j : Nat} {xs : Nat → Int32} (X : ∀ w : Mm → va_W, CX (kset κ w) ct tF cL_law 4 RL) (eR : kR κ = room_1) (hX : ∀ w : Mm → va_W, SX (kset κ w) b L xs) (hL : L ≤ 2560) (hj : j + 5 ≤ L) {Mc Mr : Mm} (hR : REL Mc Mr) (hal : Al_read REL) (hk : ∀ Mc Mr, REL Mc Mr → Zl κ ad am ct 1253 [(0, .ref b), (1, .ref (ad 0)), (2, .ref (am 0)), (3, .int (nI j))] [] Mc Mr) : Zl κ ad am ct 1168 [(0, .ref b), (1, .ref (ad 0)), (2, .ref (am 0)), (3, .int (nI j))] [] Mc Mr := by
  obtain ⟨rc, rm, hc, hm, he, hr⟩ := hal Mc Mr  hR
  unfold Zl
  refine z_aload_n (X _) dL_law_1168 1 rfl rfl ?_
  refine z_cVI (As := []) (st := []) (X _) (tX6_read (kC_at ad ct (wMs am ct Mr)) Mc hc) w_914 mvX6_read (by rw [show kR (kset κ _) = room_1 from eR]; exact ⟨Nat.le_of_ble_eq_true rfl, Nat.le_of_ble_eq_true rfl⟩) ⟨rfl, rfl⟩ rfl (Nat.le_of_ble_eq_true rfl) (((kC_at ad ct (wMs am ct Mr)).2.2.2.2.2.2.1) _) rfl rfl dL_law_1169 ?_
  refine z_aload_n (X _) dL_law_1172 2 rfl rfl ?_
  show Zj (kset κ (fun M => wCs ad ct (mk Mc [(24, rc.2.1), (25, rc.2.2.1), (26, rc.2.2.2.1)] Mc.2.1 [(41, rc.2.2.2.2.1), (44, rc.2.2.2.2.2.1), (45, rc.2.2.2.2.2.2.1), (46, rc.2.2.2.2.2.2.2.1), (47, rc.2.2.2.2.2.2.2.2.1), (48, rc.2.2.2.2.2.2.2.2.2)]) ++ wMs am ct M)) 4 _ _ _ Mr
  refine z_cVI (As := []) (st := [.int rc.1]) (X _) (tX7_read (kM_at ad am ct (mk Mc [(24, rc.2.1), (25, rc.2.2.1), (26, rc.2.2.2.1)] Mc.2.1 [(41, rc.2.2.2.2.1), (44, rc.2.2.2.2.2.1), (45, rc.2.2.2.2.2.2.1), (46, rc.2.2.2.2.2.2.2.1), (47, rc.2.2.2.2.2.2.2.2.1), (48, rc.2.2.2.2.2.2.2.2.2)])) Mr hm) w_918 mvX7_read (by rw [show kR (kset κ _) = room_1 from eR]; exact ⟨Nat.le_of_ble_eq_true rfl, Nat.le_of_ble_eq_true rfl⟩) ⟨rfl, rfl⟩ rfl (Nat.le_of_ble_eq_true rfl) (((kM_at ad am ct (mk Mc [(24, rc.2.1), (25, rc.2.2.1), (26, rc.2.2.2.1)] Mc.2.1 [(41, rc.2.2.2.2.1), (44, rc.2.2.2.2.2.1), (45, rc.2.2.2.2.2.2.1), (46, rc.2.2.2.2.2.2.2.1), (47, rc.2.2.2.2.2.2.2.2.1), (48, rc.2.2.2.2.2.2.2.2.2)])).1) _) rfl rfl dL_law_1173 ?_
  refine z_icmp_eq (tgt := 1253) (X _) dL_law_1176 (by decide) (fun _ => ?_) (fun c => absurd he c)
  exact hk _ _ hr
set_option maxHeartbeats 4000000 in
set_option maxRecDepth 100000 in
theorem lc_written {κ : Rx} {ct : Nat → ClassId} {tF : Nat} {ad am : Nat → Nat} {REL : Mm → Mm → Prop} {b L j : Nat} {xs : Nat → Int32} (X : ∀ w : Mm → va_W, CX (kset κ w) ct tF cL_law 4 RL) (eR : kR κ = room_1) (hX : ∀ w : Mm → va_W, SX (kset κ w) b L xs) (hL : L ≤ 2560) (hj : j + 5 ≤ L) {Mc Mr : Mm} (hR : REL Mc Mr) (hal : Al_written REL) (hk : ∀ Mc Mr, REL Mc Mr → Zl κ ad am ct 1253 [(0, .ref b), (1, .ref (ad 0)), (2, .ref (am 0)), (3, .int (nI j))] [] Mc Mr) : Zl κ ad am ct 1181 [(0, .ref b), (1, .ref (ad 0)), (2, .ref (am 0)), (3, .int (nI j))] [] Mc Mr := by
  obtain ⟨rc, rm, hc, hm, he, hr⟩ := hal Mc Mr (xs (j + 1)) hR
  unfold Zl
  refine z_aload_n (X _) dL_law_1181 1 rfl rfl ?_
  refine z_aload_n (X _) dL_law_1182 0 rfl rfl ?_
  refine z_iload_n (X _) dL_law_1183 3 rfl rfl ?_
  refine z_iconst (v := nI 1) (X _) dL_law_1184 (by decide) ?_
  refine z_iadd (X _) dL_law_1185 ?_
  refine z_sld (v := xs (j + 1)) (X _) (hX _) (sx_at xs (by omega) hL) dL_law_1186 ?_
  refine z_cVI (As := [.int (xs (j + 1))]) (st := []) (X _) (tX6_written (kC_at ad ct (wMs am ct Mr)) Mc hc) w_922 mvX6_written (by rw [show kR (kset κ _) = room_1 from eR]; exact ⟨Nat.le_of_ble_eq_true rfl, Nat.le_of_ble_eq_true rfl⟩) ⟨rfl, rfl⟩ rfl (Nat.le_of_ble_eq_true rfl) (((kC_at ad ct (wMs am ct Mr)).2.2.2.2.2.2.1) _) rfl rfl dL_law_1187 ?_
  refine z_aload_n (X _) dL_law_1190 2 rfl rfl ?_
  refine z_aload_n (X _) dL_law_1191 0 rfl rfl ?_
  refine z_iload_n (X _) dL_law_1192 3 rfl rfl ?_
  refine z_iconst (v := nI 1) (X _) dL_law_1193 (by decide) ?_
  refine z_iadd (X _) dL_law_1194 ?_
  refine z_sld (v := xs (j + 1)) (X _) (hX _) (sx_at xs (by omega) hL) dL_law_1195 ?_
  show Zj (kset κ (fun M => wCs ad ct Mc ++ wMs am ct M)) 4 _ _ _ Mr
  refine z_cVI (As := [.int (xs (j + 1))]) (st := [.int rc]) (X _) (tX7_written (kM_at ad am ct Mc) Mr hm) w_926 mvX7_written (by rw [show kR (kset κ _) = room_1 from eR]; exact ⟨Nat.le_of_ble_eq_true rfl, Nat.le_of_ble_eq_true rfl⟩) ⟨rfl, rfl⟩ rfl (Nat.le_of_ble_eq_true rfl) (((kM_at ad am ct Mc).1) _) rfl rfl dL_law_1196 ?_
  refine z_icmp_eq (tgt := 1253) (X _) dL_law_1199 (by decide) (fun _ => ?_) (fun c => absurd he c)
  exact hk _ _ hr
set_option maxHeartbeats 4000000 in
set_option maxRecDepth 100000 in
theorem lc_image {κ : Rx} {ct : Nat → ClassId} {tF : Nat} {ad am : Nat → Nat} {REL : Mm → Mm → Prop} {b L j : Nat} {xs : Nat → Int32} (X : ∀ w : Mm → va_W, CX (kset κ w) ct tF cL_law 4 RL) (eR : kR κ = room_1) (hX : ∀ w : Mm → va_W, SX (kset κ w) b L xs) (hL : L ≤ 2560) (hj : j + 5 ≤ L) {Mc Mr : Mm} (hR : REL Mc Mr) (hal : Al_image REL) (hk : ∀ Mc Mr, REL Mc Mr → Zl κ ad am ct 1253 [(0, .ref b), (1, .ref (ad 0)), (2, .ref (am 0)), (3, .int (nI j))] [] Mc Mr) : Zl κ ad am ct 1204 [(0, .ref b), (1, .ref (ad 0)), (2, .ref (am 0)), (3, .int (nI j))] [] Mc Mr := by
  obtain ⟨rc, rm, hc, hm, he, hr⟩ := hal Mc Mr  hR
  unfold Zl
  refine z_aload_n (X _) dL_law_1204 1 rfl rfl ?_
  refine z_cVI (As := []) (st := []) (X _) (tX6_image (kC_at ad ct (wMs am ct Mr)) Mc hc) w_930 mvX6_image (by rw [show kR (kset κ _) = room_1 from eR]; exact ⟨Nat.le_of_ble_eq_true rfl, Nat.le_of_ble_eq_true rfl⟩) ⟨rfl, rfl⟩ rfl (Nat.le_of_ble_eq_true rfl) (((kC_at ad ct (wMs am ct Mr)).2.2.2.2.2.2.1) _) rfl rfl dL_law_1205 ?_
  refine z_aload_n (X _) dL_law_1208 2 rfl rfl ?_
  show Zj (kset κ (fun M => wCs ad ct (mk Mc [(28, rc.2.1)] Mc.2.1 [(40, rc.2.2)]) ++ wMs am ct M)) 4 _ _ _ Mr
  refine z_cVI (As := []) (st := [.int rc.1]) (X _) (tX7_image (kM_at ad am ct (mk Mc [(28, rc.2.1)] Mc.2.1 [(40, rc.2.2)])) Mr hm) w_934 mvX7_image (by rw [show kR (kset κ _) = room_1 from eR]; exact ⟨Nat.le_of_ble_eq_true rfl, Nat.le_of_ble_eq_true rfl⟩) ⟨rfl, rfl⟩ rfl (Nat.le_of_ble_eq_true rfl) (((kM_at ad am ct (mk Mc [(28, rc.2.1)] Mc.2.1 [(40, rc.2.2)])).1) _) rfl rfl dL_law_1209 ?_
  refine z_icmp_eq (tgt := 1253) (X _) dL_law_1212 (by decide) (fun _ => ?_) (fun c => absurd he c)
  exact hk _ _ hr
set_option maxHeartbeats 4000000 in
set_option maxRecDepth 100000 in
theorem lc_undo {κ : Rx} {ct : Nat → ClassId} {tF : Nat} {ad am : Nat → Nat} {REL : Mm → Mm → Prop} {b L j : Nat} {xs : Nat → Int32} (X : ∀ w : Mm → va_W, CX (kset κ w) ct tF cL_law 4 RL) (eR : kR κ = room_1) (hX : ∀ w : Mm → va_W, SX (kset κ w) b L xs) (hL : L ≤ 2560) (hj : j + 5 ≤ L) {Mc Mr : Mm} (hR : REL Mc Mr) (hal : Al_undo REL) (hk : ∀ Mc Mr, REL Mc Mr → Zl κ ad am ct 1253 [(0, .ref b), (1, .ref (ad 0)), (2, .ref (am 0)), (3, .int (nI j))] [] Mc Mr) : Zl κ ad am ct 1217 [(0, .ref b), (1, .ref (ad 0)), (2, .ref (am 0)), (3, .int (nI j))] [] Mc Mr := by
  obtain ⟨rc, rm, hc, hm, he, hr⟩ := hal Mc Mr  hR
  unfold Zl
  refine z_aload_n (X _) dL_law_1217 1 rfl rfl ?_
  refine z_cVI (As := []) (st := []) (X _) (tX6_undo (kC_at ad ct (wMs am ct Mr)) Mc hc) w_938 mvX6_undo (by rw [show kR (kset κ _) = room_1 from eR]; exact ⟨Nat.le_of_ble_eq_true rfl, Nat.le_of_ble_eq_true rfl⟩) ⟨rfl, rfl⟩ rfl (Nat.le_of_ble_eq_true rfl) (((kC_at ad ct (wMs am ct Mr)).2.2.2.2.2.2.1) _) rfl rfl dL_law_1218 ?_
  refine z_aload_n (X _) dL_law_1221 2 rfl rfl ?_
  show Zj (kset κ (fun M => wCs ad ct (mk Mc [(27, rc.2.1)] Mc.2.1 [(41, rc.2.2.1), (44, rc.2.2.2)]) ++ wMs am ct M)) 4 _ _ _ Mr
  refine z_cVI (As := []) (st := [.int rc.1]) (X _) (tX7_undo (kM_at ad am ct (mk Mc [(27, rc.2.1)] Mc.2.1 [(41, rc.2.2.1), (44, rc.2.2.2)])) Mr hm) w_942 mvX7_undo (by rw [show kR (kset κ _) = room_1 from eR]; exact ⟨Nat.le_of_ble_eq_true rfl, Nat.le_of_ble_eq_true rfl⟩) ⟨rfl, rfl⟩ rfl (Nat.le_of_ble_eq_true rfl) (((kM_at ad am ct (mk Mc [(27, rc.2.1)] Mc.2.1 [(41, rc.2.2.1), (44, rc.2.2.2)])).1) _) rfl rfl dL_law_1222 ?_
  refine z_icmp_eq (tgt := 1253) (X _) dL_law_1225 (by decide) (fun _ => ?_) (fun c => absurd he c)
  exact hk _ _ hr
set_option maxHeartbeats 4000000 in
set_option maxRecDepth 100000 in
theorem lc_count {κ : Rx} {ct : Nat → ClassId} {tF : Nat} {ad am : Nat → Nat} {REL : Mm → Mm → Prop} {b L j : Nat} {xs : Nat → Int32} (X : ∀ w : Mm → va_W, CX (kset κ w) ct tF cL_law 4 RL) (eR : kR κ = room_1) (hX : ∀ w : Mm → va_W, SX (kset κ w) b L xs) (hL : L ≤ 2560) (hj : j + 5 ≤ L) {Mc Mr : Mm} (hR : REL Mc Mr) (hal : Al_count REL) (hk : ∀ Mc Mr, REL Mc Mr → Zl κ ad am ct 1253 [(0, .ref b), (1, .ref (ad 0)), (2, .ref (am 0)), (3, .int (nI j))] [] Mc Mr) : Zl κ ad am ct 1230 [(0, .ref b), (1, .ref (ad 0)), (2, .ref (am 0)), (3, .int (nI j))] [] Mc Mr := by
  obtain ⟨rc, rm, hc, hm, he, hr⟩ := hal Mc Mr (xs (j + 1)) hR
  unfold Zl
  refine z_aload_n (X _) dL_law_1230 1 rfl rfl ?_
  refine z_aload_n (X _) dL_law_1231 0 rfl rfl ?_
  refine z_iload_n (X _) dL_law_1232 3 rfl rfl ?_
  refine z_iconst (v := nI 1) (X _) dL_law_1233 (by decide) ?_
  refine z_iadd (X _) dL_law_1234 ?_
  refine z_sld (v := xs (j + 1)) (X _) (hX _) (sx_at xs (by omega) hL) dL_law_1235 ?_
  refine z_cVI (As := [.int (xs (j + 1))]) (st := []) (X _) (tX6_count (kC_at ad ct (wMs am ct Mr)) Mc hc) w_946 mvX6_count (by rw [show kR (kset κ _) = room_1 from eR]; exact ⟨Nat.le_of_ble_eq_true rfl, Nat.le_of_ble_eq_true rfl⟩) ⟨rfl, rfl⟩ rfl (Nat.le_of_ble_eq_true rfl) (((kC_at ad ct (wMs am ct Mr)).2.2.2.2.2.2.1) _) rfl rfl dL_law_1236 ?_
  refine z_aload_n (X _) dL_law_1239 2 rfl rfl ?_
  refine z_aload_n (X _) dL_law_1240 0 rfl rfl ?_
  refine z_iload_n (X _) dL_law_1241 3 rfl rfl ?_
  refine z_iconst (v := nI 1) (X _) dL_law_1242 (by decide) ?_
  refine z_iadd (X _) dL_law_1243 ?_
  refine z_sld (v := xs (j + 1)) (X _) (hX _) (sx_at xs (by omega) hL) dL_law_1244 ?_
  show Zj (kset κ (fun M => wCs ad ct Mc ++ wMs am ct M)) 4 _ _ _ Mr
  refine z_cVI (As := [.int (xs (j + 1))]) (st := [.int rc]) (X _) (tX7_count (kM_at ad am ct Mc) Mr hm) w_950 mvX7_count (by rw [show kR (kset κ _) = room_1 from eR]; exact ⟨Nat.le_of_ble_eq_true rfl, Nat.le_of_ble_eq_true rfl⟩) ⟨rfl, rfl⟩ rfl (Nat.le_of_ble_eq_true rfl) (((kM_at ad am ct Mc).1) _) rfl rfl dL_law_1245 ?_
  refine z_icmp_eq (tgt := 1253) (X _) dL_law_1248 (by decide) (fun _ => ?_) (fun c => absurd he c)
  exact hk _ _ hr
