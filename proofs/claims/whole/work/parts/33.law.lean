set_option maxHeartbeats 8000000 in
set_option maxRecDepth 100000 in
theorem q_law_reset {p : Program} {l : Launch} {e : Env} {s : State} {m : MethodId} {below : List Frame} {meth : Method} {c0 : Code} {D : va_G} {dA : Nat → ClassId} {b L : Nat} {xs : Nat → Int32} (C0 : lw_At p s m meth c0 b L xs) (hK : q_K D dA s) {N : Nat} {Inv : Nat → q_M → q_M → Prop} (hs0 : q_st_reset N Inv) {z : Nat} (hz : z = s.heap.size) {i : Int} (hi0 : 0 ≤ i) (hi1 : i ≤ (L : Int) - 5) (hL : L ≤ 2560) {c : Nat} (hc : c < 512) {μC μM : q_M} {H : Heap} {locs : List Loc} (hI : Inv c μC μM) (hPC : q_P D dA q_kdC q_rhoC 77 z (z + 99) μC H) (hPM : q_P D dA q_kdM q_rhoM 22 (z + 77) (z + 99) μM H) (hS : va_S (fun q : Nat => s.heap.size ≤ q) s.heap H locs) {ls : Array Slot} (hl : lv_has ls 4 [(0, .ref b), (1, .ref (z + 0)), (2, .ref (z + 77 + 0)), (3, .int (q_I i))])
    (hnext : ∀ (μC μM : q_M) (H : Heap) (locs : List Loc), Inv (c + 1) μC μM → q_P D dA q_kdC q_rhoC 77 z (z + 99) μC H → q_P D dA q_kdM q_rhoM 22 (z + 77) (z + 99) μM H → va_S (fun q : Nat => s.heap.size ≤ q) s.heap H locs → ∀ (ls : Array Slot), lv_has ls 4 [(0, .ref b), (1, .ref (z + 0)), (2, .ref (z + 77 + 0)), (3, .int (q_I i))] → W p l e room_1 s m #[Value.ref b] below meth c0 H locs 99 19249 (lw_Z below #[Value.ref b] s) (F0 m 1297 ls [])) : W p l e room_1 s m #[Value.ref b] below meth c0 H locs 99 19249 (lw_Z below #[Value.ref b] s) (F0 m 196 ls []) := by
  obtain ⟨hx, hb, hr, hml, hown, hts0, hX, hbl, hlocks, hgv⟩ := id C0
  have hts : ∀ w ∈ q_W, w.before #[Value.ref b] s = true := fun w hw => hts0 w (List.mem_filter.mp hw).1
  have hbA : ¬ (fun q : Nat => s.heap.size ≤ q) b := Nat.not_le.mpr hbl
  have hAC : ∀ q, q_A z 77 q → (fun q : Nat => s.heap.size ≤ q) q := fun q h => by rw [← hz]; exact h.1
  have hAM : ∀ q, q_A (z + 77) 22 q → (fun q : Nat => s.heap.size ≤ q) q := fun q h => by rw [← hz]; exact Nat.le_trans (Nat.le_add_right z 77) h.1
  obtain ⟨r, μ1, μ2, h1, h2, hI2⟩ := hs0 c μC μM hc hI _ (q_rI (xs (i + 1).toNat))
  refine lv_aload_n hx hb dL_law_196 rfl (lv_at hl 1 rfl) ?_
  refine lv_aload_n hx hb dL_law_197 rfl (lv_at hl 0 rfl) ?_
  refine lv_iload_n hx hb dL_law_198 rfl (lv_at hl 3 rfl) ?_
  refine lv_iconst (v := q_I 1) hx hb dL_law_199 rfl ?_
  refine lv_iadd hx hb dL_law_200 ?_
  rw [q_addI]
  refine q_sld (i := i + 1) hx hb hX hbl hbA hS ⟨by omega, by omega⟩ (by omega) (by omega) dL_law_201 ?_
  refine q_callV hx hb hml hts hown hK hPC hS (As := [.int (q_I (xs (i + 1).toNat).toInt)]) (rest := []) (st1 := .int (q_I r) :: []) cv_RL_13 (c_CR_reset l D dA (q_rI _) h1) (Nat.le_of_ble_eq_true rfl) q_kdC_0 rfl ⟨rfl, rfl, Nat.le_of_ble_eq_true rfl, Nat.le_of_ble_eq_true rfl⟩ ⟨Nat.le_of_ble_eq_true rfl, Nat.le_of_ble_eq_true rfl⟩ rfl hl.1 rfl (Nat.le_of_ble_eq_true rfl) rfl hAC dL_law_202 ?_
  clear hS; intro H1 locs _ hPC1 hS hF
  replace hPM := hPM.keep hPC1.1 (fun k hk => hF _ (hPM.lt2 hk) (by rintro ⟨u1, u2⟩; omega))
  clear hF
  refine lv_aload_n hx hb dL_law_205 rfl (lv_at hl 2 rfl) ?_
  refine lv_aload_n hx hb dL_law_206 rfl (lv_at hl 0 rfl) ?_
  refine lv_iload_n hx hb dL_law_207 rfl (lv_at hl 3 rfl) ?_
  refine lv_iconst (v := q_I 1) hx hb dL_law_208 rfl ?_
  refine lv_iadd hx hb dL_law_209 ?_
  rw [q_addI]
  refine q_sld (i := i + 1) hx hb hX hbl hbA hS ⟨by omega, by omega⟩ (by omega) (by omega) dL_law_210 ?_
  refine q_callV hx hb hml hts hown hK hPM hS (As := [.int (q_I (xs (i + 1).toNat).toInt)]) (rest := [.int (q_I r)]) (st1 := .int (q_I r) :: [.int (q_I r)]) cv_RL_17 (c_M_reset l D dA (q_rI _) h2) (Nat.le_of_ble_eq_true rfl) q_kdM_0 rfl ⟨rfl, rfl, Nat.le_of_ble_eq_true rfl, Nat.le_of_ble_eq_true rfl⟩ ⟨Nat.le_of_ble_eq_true rfl, Nat.le_of_ble_eq_true rfl⟩ rfl hl.1 rfl (Nat.le_of_ble_eq_true rfl) rfl hAM dL_law_211 ?_
  clear hS; intro H2 locs _ hPM1 hS hF
  replace hPC1 := hPC1.keep hPM1.1 (fun k hk => hF _ (hPC1.lt2 hk) (by rintro ⟨u1, u2⟩; omega))
  refine lv_icmp_eq (tgt := 1297) hx hb dL_law_214 (by decide) (fun _ => ?_) (fun q => absurd rfl q)
  exact hnext _ _ _ _ hI2 hPC1 hPM1 hS ls hl
set_option maxHeartbeats 8000000 in
set_option maxRecDepth 100000 in
theorem q_law_setStock {p : Program} {l : Launch} {e : Env} {s : State} {m : MethodId} {below : List Frame} {meth : Method} {c0 : Code} {D : va_G} {dA : Nat → ClassId} {b L : Nat} {xs : Nat → Int32} (C0 : lw_At p s m meth c0 b L xs) (hK : q_K D dA s) {N : Nat} {Inv : Nat → q_M → q_M → Prop} (hs1 : q_st_setStock N Inv) {z : Nat} (hz : z = s.heap.size) {i : Int} (hi0 : 0 ≤ i) (hi1 : i ≤ (L : Int) - 5) (hL : L ≤ 2560) {c : Nat} (hc : c < 512) {μC μM : q_M} {H : Heap} {locs : List Loc} (hI : Inv c μC μM) (hPC : q_P D dA q_kdC q_rhoC 77 z (z + 99) μC H) (hPM : q_P D dA q_kdM q_rhoM 22 (z + 77) (z + 99) μM H) (hS : va_S (fun q : Nat => s.heap.size ≤ q) s.heap H locs) {ls : Array Slot} (hl : lv_has ls 4 [(0, .ref b), (1, .ref (z + 0)), (2, .ref (z + 77 + 0)), (3, .int (q_I i))])
    (hnext : ∀ (μC μM : q_M) (H : Heap) (locs : List Loc), Inv (c + 1) μC μM → q_P D dA q_kdC q_rhoC 77 z (z + 99) μC H → q_P D dA q_kdM q_rhoM 22 (z + 77) (z + 99) μM H → va_S (fun q : Nat => s.heap.size ≤ q) s.heap H locs → ∀ (ls : Array Slot), lv_has ls 4 [(0, .ref b), (1, .ref (z + 0)), (2, .ref (z + 77 + 0)), (3, .int (q_I i))] → W p l e room_1 s m #[Value.ref b] below meth c0 H locs 99 19249 (lw_Z below #[Value.ref b] s) (F0 m 1297 ls [])) : W p l e room_1 s m #[Value.ref b] below meth c0 H locs 99 19249 (lw_Z below #[Value.ref b] s) (F0 m 219 ls []) := by
  obtain ⟨hx, hb, hr, hml, hown, hts0, hX, hbl, hlocks, hgv⟩ := id C0
  have hts : ∀ w ∈ q_W, w.before #[Value.ref b] s = true := fun w hw => hts0 w (List.mem_filter.mp hw).1
  have hbA : ¬ (fun q : Nat => s.heap.size ≤ q) b := Nat.not_le.mpr hbl
  have hAC : ∀ q, q_A z 77 q → (fun q : Nat => s.heap.size ≤ q) q := fun q h => by rw [← hz]; exact h.1
  have hAM : ∀ q, q_A (z + 77) 22 q → (fun q : Nat => s.heap.size ≤ q) q := fun q h => by rw [← hz]; exact Nat.le_trans (Nat.le_add_right z 77) h.1
  obtain ⟨r, μ1, μ2, h1, h2, hI2⟩ := hs1 c μC μM hc hI _ (q_rI (xs (i + 1).toNat)) _ (q_rI (xs (i + 2).toNat)) _ (q_rI (xs (i + 3).toNat))
  refine lv_aload_n hx hb dL_law_219 rfl (lv_at hl 1 rfl) ?_
  refine lv_aload_n hx hb dL_law_220 rfl (lv_at hl 0 rfl) ?_
  refine lv_iload_n hx hb dL_law_221 rfl (lv_at hl 3 rfl) ?_
  refine lv_iconst (v := q_I 1) hx hb dL_law_222 rfl ?_
  refine lv_iadd hx hb dL_law_223 ?_
  rw [q_addI]
  refine q_sld (i := i + 1) hx hb hX hbl hbA hS ⟨by omega, by omega⟩ (by omega) (by omega) dL_law_224 ?_
  refine lv_aload_n hx hb dL_law_225 rfl (lv_at hl 0 rfl) ?_
  refine lv_iload_n hx hb dL_law_226 rfl (lv_at hl 3 rfl) ?_
  refine lv_iconst (v := q_I 2) hx hb dL_law_227 rfl ?_
  refine lv_iadd hx hb dL_law_228 ?_
  rw [q_addI]
  refine q_sld (i := i + 2) hx hb hX hbl hbA hS ⟨by omega, by omega⟩ (by omega) (by omega) dL_law_229 ?_
  refine lv_aload_n hx hb dL_law_230 rfl (lv_at hl 0 rfl) ?_
  refine lv_iload_n hx hb dL_law_231 rfl (lv_at hl 3 rfl) ?_
  refine lv_iconst (v := q_I 3) hx hb dL_law_232 rfl ?_
  refine lv_iadd hx hb dL_law_233 ?_
  rw [q_addI]
  refine q_sld (i := i + 3) hx hb hX hbl hbA hS ⟨by omega, by omega⟩ (by omega) (by omega) dL_law_234 ?_
  refine q_callV hx hb hml hts hown hK hPC hS (As := [.int (q_I (xs (i + 1).toNat).toInt), .int (q_I (xs (i + 2).toNat).toInt), .int (q_I (xs (i + 3).toNat).toInt)]) (rest := []) (st1 := .int (q_I r) :: []) cv_RL_18 (c_CR_setStock l D dA (q_rI _) (q_rI _) (q_rI _) h1) (Nat.le_of_ble_eq_true rfl) q_kdC_0 rfl ⟨rfl, rfl, Nat.le_of_ble_eq_true rfl, Nat.le_of_ble_eq_true rfl⟩ ⟨Nat.le_of_ble_eq_true rfl, Nat.le_of_ble_eq_true rfl⟩ rfl hl.1 rfl (Nat.le_of_ble_eq_true rfl) rfl hAC dL_law_235 ?_
  clear hS; intro H1 locs _ hPC1 hS hF
  replace hPM := hPM.keep hPC1.1 (fun k hk => hF _ (hPM.lt2 hk) (by rintro ⟨u1, u2⟩; omega))
  clear hF
  refine lv_aload_n hx hb dL_law_238 rfl (lv_at hl 2 rfl) ?_
  refine lv_aload_n hx hb dL_law_239 rfl (lv_at hl 0 rfl) ?_
  refine lv_iload_n hx hb dL_law_240 rfl (lv_at hl 3 rfl) ?_
  refine lv_iconst (v := q_I 1) hx hb dL_law_241 rfl ?_
  refine lv_iadd hx hb dL_law_242 ?_
  rw [q_addI]
  refine q_sld (i := i + 1) hx hb hX hbl hbA hS ⟨by omega, by omega⟩ (by omega) (by omega) dL_law_243 ?_
  refine lv_aload_n hx hb dL_law_244 rfl (lv_at hl 0 rfl) ?_
  refine lv_iload_n hx hb dL_law_245 rfl (lv_at hl 3 rfl) ?_
  refine lv_iconst (v := q_I 2) hx hb dL_law_246 rfl ?_
  refine lv_iadd hx hb dL_law_247 ?_
  rw [q_addI]
  refine q_sld (i := i + 2) hx hb hX hbl hbA hS ⟨by omega, by omega⟩ (by omega) (by omega) dL_law_248 ?_
  refine lv_aload_n hx hb dL_law_249 rfl (lv_at hl 0 rfl) ?_
  refine lv_iload_n hx hb dL_law_250 rfl (lv_at hl 3 rfl) ?_
  refine lv_iconst (v := q_I 3) hx hb dL_law_251 rfl ?_
  refine lv_iadd hx hb dL_law_252 ?_
  rw [q_addI]
  refine q_sld (i := i + 3) hx hb hX hbl hbA hS ⟨by omega, by omega⟩ (by omega) (by omega) dL_law_253 ?_
  refine q_callV hx hb hml hts hown hK hPM hS (As := [.int (q_I (xs (i + 1).toNat).toInt), .int (q_I (xs (i + 2).toNat).toInt), .int (q_I (xs (i + 3).toNat).toInt)]) (rest := [.int (q_I r)]) (st1 := .int (q_I r) :: [.int (q_I r)]) cv_RL_22 (c_M_setStock l D dA (q_rI _) (q_rI _) (q_rI _) h2) (Nat.le_of_ble_eq_true rfl) q_kdM_0 rfl ⟨rfl, rfl, Nat.le_of_ble_eq_true rfl, Nat.le_of_ble_eq_true rfl⟩ ⟨Nat.le_of_ble_eq_true rfl, Nat.le_of_ble_eq_true rfl⟩ rfl hl.1 rfl (Nat.le_of_ble_eq_true rfl) rfl hAM dL_law_254 ?_
  clear hS; intro H2 locs _ hPM1 hS hF
  replace hPC1 := hPC1.keep hPM1.1 (fun k hk => hF _ (hPC1.lt2 hk) (by rintro ⟨u1, u2⟩; omega))
  refine lv_icmp_eq (tgt := 1297) hx hb dL_law_257 (by decide) (fun _ => ?_) (fun q => absurd rfl q)
  exact hnext _ _ _ _ hI2 hPC1 hPM1 hS ls hl
set_option maxHeartbeats 8000000 in
set_option maxRecDepth 100000 in
theorem q_law_change {p : Program} {l : Launch} {e : Env} {s : State} {m : MethodId} {below : List Frame} {meth : Method} {c0 : Code} {D : va_G} {dA : Nat → ClassId} {b L : Nat} {xs : Nat → Int32} (C0 : lw_At p s m meth c0 b L xs) (hK : q_K D dA s) {N : Nat} {Inv : Nat → q_M → q_M → Prop} (hs2 : q_st_change N Inv) {z : Nat} (hz : z = s.heap.size) {i : Int} (hi0 : 0 ≤ i) (hi1 : i ≤ (L : Int) - 5) (hL : L ≤ 2560) {c : Nat} (hc : c < 512) {μC μM : q_M} {H : Heap} {locs : List Loc} (hI : Inv c μC μM) (hPC : q_P D dA q_kdC q_rhoC 77 z (z + 99) μC H) (hPM : q_P D dA q_kdM q_rhoM 22 (z + 77) (z + 99) μM H) (hS : va_S (fun q : Nat => s.heap.size ≤ q) s.heap H locs) {ls : Array Slot} (hl : lv_has ls 4 [(0, .ref b), (1, .ref (z + 0)), (2, .ref (z + 77 + 0)), (3, .int (q_I i))])
    (hnext : ∀ (μC μM : q_M) (H : Heap) (locs : List Loc), Inv (c + 1) μC μM → q_P D dA q_kdC q_rhoC 77 z (z + 99) μC H → q_P D dA q_kdM q_rhoM 22 (z + 77) (z + 99) μM H → va_S (fun q : Nat => s.heap.size ≤ q) s.heap H locs → ∀ (ls : Array Slot), lv_has ls 4 [(0, .ref b), (1, .ref (z + 0)), (2, .ref (z + 77 + 0)), (3, .int (q_I i))] → W p l e room_1 s m #[Value.ref b] below meth c0 H locs 99 19249 (lw_Z below #[Value.ref b] s) (F0 m 1297 ls [])) : W p l e room_1 s m #[Value.ref b] below meth c0 H locs 99 19249 (lw_Z below #[Value.ref b] s) (F0 m 262 ls []) := by
  obtain ⟨hx, hb, hr, hml, hown, hts0, hX, hbl, hlocks, hgv⟩ := id C0
  have hts : ∀ w ∈ q_W, w.before #[Value.ref b] s = true := fun w hw => hts0 w (List.mem_filter.mp hw).1
  have hbA : ¬ (fun q : Nat => s.heap.size ≤ q) b := Nat.not_le.mpr hbl
  have hAC : ∀ q, q_A z 77 q → (fun q : Nat => s.heap.size ≤ q) q := fun q h => by rw [← hz]; exact h.1
  have hAM : ∀ q, q_A (z + 77) 22 q → (fun q : Nat => s.heap.size ≤ q) q := fun q h => by rw [← hz]; exact Nat.le_trans (Nat.le_add_right z 77) h.1
  obtain ⟨r, μ1, μ2, h1, h2, hI2⟩ := hs2 c μC μM hc hI _ (q_rI (xs (i + 1).toNat)) _ (q_rI (xs (i + 2).toNat)) _ (q_rI (xs (i + 3).toNat))
  refine lv_aload_n hx hb dL_law_262 rfl (lv_at hl 1 rfl) ?_
  refine lv_aload_n hx hb dL_law_263 rfl (lv_at hl 0 rfl) ?_
  refine lv_iload_n hx hb dL_law_264 rfl (lv_at hl 3 rfl) ?_
  refine lv_iconst (v := q_I 1) hx hb dL_law_265 rfl ?_
  refine lv_iadd hx hb dL_law_266 ?_
  rw [q_addI]
  refine q_sld (i := i + 1) hx hb hX hbl hbA hS ⟨by omega, by omega⟩ (by omega) (by omega) dL_law_267 ?_
  refine lv_aload_n hx hb dL_law_268 rfl (lv_at hl 0 rfl) ?_
  refine lv_iload_n hx hb dL_law_269 rfl (lv_at hl 3 rfl) ?_
  refine lv_iconst (v := q_I 2) hx hb dL_law_270 rfl ?_
  refine lv_iadd hx hb dL_law_271 ?_
  rw [q_addI]
  refine q_sld (i := i + 2) hx hb hX hbl hbA hS ⟨by omega, by omega⟩ (by omega) (by omega) dL_law_272 ?_
  refine lv_aload_n hx hb dL_law_273 rfl (lv_at hl 0 rfl) ?_
  refine lv_iload_n hx hb dL_law_274 rfl (lv_at hl 3 rfl) ?_
  refine lv_iconst (v := q_I 3) hx hb dL_law_275 rfl ?_
  refine lv_iadd hx hb dL_law_276 ?_
  rw [q_addI]
  refine q_sld (i := i + 3) hx hb hX hbl hbA hS ⟨by omega, by omega⟩ (by omega) (by omega) dL_law_277 ?_
  refine q_callV hx hb hml hts hown hK hPC hS (As := [.int (q_I (xs (i + 1).toNat).toInt), .int (q_I (xs (i + 2).toNat).toInt), .int (q_I (xs (i + 3).toNat).toInt)]) (rest := []) (st1 := .int (q_I r) :: []) cv_RL_23 (c_CR_change l D dA (q_rI _) (q_rI _) (q_rI _) h1) (Nat.le_of_ble_eq_true rfl) q_kdC_0 rfl ⟨rfl, rfl, Nat.le_of_ble_eq_true rfl, Nat.le_of_ble_eq_true rfl⟩ ⟨Nat.le_of_ble_eq_true rfl, Nat.le_of_ble_eq_true rfl⟩ rfl hl.1 rfl (Nat.le_of_ble_eq_true rfl) rfl hAC dL_law_278 ?_
  clear hS; intro H1 locs _ hPC1 hS hF
  replace hPM := hPM.keep hPC1.1 (fun k hk => hF _ (hPM.lt2 hk) (by rintro ⟨u1, u2⟩; omega))
  clear hF
  refine lv_aload_n hx hb dL_law_281 rfl (lv_at hl 2 rfl) ?_
  refine lv_aload_n hx hb dL_law_282 rfl (lv_at hl 0 rfl) ?_
  refine lv_iload_n hx hb dL_law_283 rfl (lv_at hl 3 rfl) ?_
  refine lv_iconst (v := q_I 1) hx hb dL_law_284 rfl ?_
  refine lv_iadd hx hb dL_law_285 ?_
  rw [q_addI]
  refine q_sld (i := i + 1) hx hb hX hbl hbA hS ⟨by omega, by omega⟩ (by omega) (by omega) dL_law_286 ?_
  refine lv_aload_n hx hb dL_law_287 rfl (lv_at hl 0 rfl) ?_
  refine lv_iload_n hx hb dL_law_288 rfl (lv_at hl 3 rfl) ?_
  refine lv_iconst (v := q_I 2) hx hb dL_law_289 rfl ?_
  refine lv_iadd hx hb dL_law_290 ?_
  rw [q_addI]
  refine q_sld (i := i + 2) hx hb hX hbl hbA hS ⟨by omega, by omega⟩ (by omega) (by omega) dL_law_291 ?_
  refine lv_aload_n hx hb dL_law_292 rfl (lv_at hl 0 rfl) ?_
  refine lv_iload_n hx hb dL_law_293 rfl (lv_at hl 3 rfl) ?_
  refine lv_iconst (v := q_I 3) hx hb dL_law_294 rfl ?_
  refine lv_iadd hx hb dL_law_295 ?_
  rw [q_addI]
  refine q_sld (i := i + 3) hx hb hX hbl hbA hS ⟨by omega, by omega⟩ (by omega) (by omega) dL_law_296 ?_
  refine q_callV hx hb hml hts hown hK hPM hS (As := [.int (q_I (xs (i + 1).toNat).toInt), .int (q_I (xs (i + 2).toNat).toInt), .int (q_I (xs (i + 3).toNat).toInt)]) (rest := [.int (q_I r)]) (st1 := .int (q_I r) :: [.int (q_I r)]) cv_RL_26 (c_M_change l D dA (q_rI _) (q_rI _) (q_rI _) h2) (Nat.le_of_ble_eq_true rfl) q_kdM_0 rfl ⟨rfl, rfl, Nat.le_of_ble_eq_true rfl, Nat.le_of_ble_eq_true rfl⟩ ⟨Nat.le_of_ble_eq_true rfl, Nat.le_of_ble_eq_true rfl⟩ rfl hl.1 rfl (Nat.le_of_ble_eq_true rfl) rfl hAM dL_law_297 ?_
  clear hS; intro H2 locs _ hPM1 hS hF
  replace hPC1 := hPC1.keep hPM1.1 (fun k hk => hF _ (hPC1.lt2 hk) (by rintro ⟨u1, u2⟩; omega))
  refine lv_icmp_eq (tgt := 1297) hx hb dL_law_300 (by decide) (fun _ => ?_) (fun q => absurd rfl q)
  exact hnext _ _ _ _ hI2 hPC1 hPM1 hS ls hl
set_option maxHeartbeats 8000000 in
set_option maxRecDepth 100000 in
theorem q_law_send {p : Program} {l : Launch} {e : Env} {s : State} {m : MethodId} {below : List Frame} {meth : Method} {c0 : Code} {D : va_G} {dA : Nat → ClassId} {b L : Nat} {xs : Nat → Int32} (C0 : lw_At p s m meth c0 b L xs) (hK : q_K D dA s) {N : Nat} {Inv : Nat → q_M → q_M → Prop} (hs3 : q_st_send N Inv) {z : Nat} (hz : z = s.heap.size) {i : Int} (hi0 : 0 ≤ i) (hi1 : i ≤ (L : Int) - 5) (hL : L ≤ 2560) {c : Nat} (hc : c < 512) {μC μM : q_M} {H : Heap} {locs : List Loc} (hI : Inv c μC μM) (hPC : q_P D dA q_kdC q_rhoC 77 z (z + 99) μC H) (hPM : q_P D dA q_kdM q_rhoM 22 (z + 77) (z + 99) μM H) (hS : va_S (fun q : Nat => s.heap.size ≤ q) s.heap H locs) {ls : Array Slot} (hl : lv_has ls 4 [(0, .ref b), (1, .ref (z + 0)), (2, .ref (z + 77 + 0)), (3, .int (q_I i))])
    (hnext : ∀ (μC μM : q_M) (H : Heap) (locs : List Loc), Inv (c + 1) μC μM → q_P D dA q_kdC q_rhoC 77 z (z + 99) μC H → q_P D dA q_kdM q_rhoM 22 (z + 77) (z + 99) μM H → va_S (fun q : Nat => s.heap.size ≤ q) s.heap H locs → ∀ (ls : Array Slot), lv_has ls 4 [(0, .ref b), (1, .ref (z + 0)), (2, .ref (z + 77 + 0)), (3, .int (q_I i))] → W p l e room_1 s m #[Value.ref b] below meth c0 H locs 99 19249 (lw_Z below #[Value.ref b] s) (F0 m 1297 ls [])) : W p l e room_1 s m #[Value.ref b] below meth c0 H locs 99 19249 (lw_Z below #[Value.ref b] s) (F0 m 305 ls []) := by
  obtain ⟨hx, hb, hr, hml, hown, hts0, hX, hbl, hlocks, hgv⟩ := id C0
  have hts : ∀ w ∈ q_W, w.before #[Value.ref b] s = true := fun w hw => hts0 w (List.mem_filter.mp hw).1
  have hbA : ¬ (fun q : Nat => s.heap.size ≤ q) b := Nat.not_le.mpr hbl
  have hAC : ∀ q, q_A z 77 q → (fun q : Nat => s.heap.size ≤ q) q := fun q h => by rw [← hz]; exact h.1
  have hAM : ∀ q, q_A (z + 77) 22 q → (fun q : Nat => s.heap.size ≤ q) q := fun q h => by rw [← hz]; exact Nat.le_trans (Nat.le_add_right z 77) h.1
  obtain ⟨r, μ1, μ2, h1, h2, hI2⟩ := hs3 c μC μM hc hI _ (q_rI (xs (i + 1).toNat)) _ (q_rI (xs (i + 2).toNat)) _ (q_rI (xs (i + 3).toNat)) _ (q_rI (xs (i + 4).toNat))
  refine lv_aload_n hx hb dL_law_305 rfl (lv_at hl 1 rfl) ?_
  refine lv_aload_n hx hb dL_law_306 rfl (lv_at hl 0 rfl) ?_
  refine lv_iload_n hx hb dL_law_307 rfl (lv_at hl 3 rfl) ?_
  refine lv_iconst (v := q_I 1) hx hb dL_law_308 rfl ?_
  refine lv_iadd hx hb dL_law_309 ?_
  rw [q_addI]
  refine q_sld (i := i + 1) hx hb hX hbl hbA hS ⟨by omega, by omega⟩ (by omega) (by omega) dL_law_310 ?_
  refine lv_aload_n hx hb dL_law_311 rfl (lv_at hl 0 rfl) ?_
  refine lv_iload_n hx hb dL_law_312 rfl (lv_at hl 3 rfl) ?_
  refine lv_iconst (v := q_I 2) hx hb dL_law_313 rfl ?_
  refine lv_iadd hx hb dL_law_314 ?_
  rw [q_addI]
  refine q_sld (i := i + 2) hx hb hX hbl hbA hS ⟨by omega, by omega⟩ (by omega) (by omega) dL_law_315 ?_
  refine lv_aload_n hx hb dL_law_316 rfl (lv_at hl 0 rfl) ?_
  refine lv_iload_n hx hb dL_law_317 rfl (lv_at hl 3 rfl) ?_
  refine lv_iconst (v := q_I 3) hx hb dL_law_318 rfl ?_
  refine lv_iadd hx hb dL_law_319 ?_
  rw [q_addI]
  refine q_sld (i := i + 3) hx hb hX hbl hbA hS ⟨by omega, by omega⟩ (by omega) (by omega) dL_law_320 ?_
  refine lv_aload_n hx hb dL_law_321 rfl (lv_at hl 0 rfl) ?_
  refine lv_iload_n hx hb dL_law_322 rfl (lv_at hl 3 rfl) ?_
  refine lv_iconst (v := q_I 4) hx hb dL_law_323 rfl ?_
  refine lv_iadd hx hb dL_law_324 ?_
  rw [q_addI]
  refine q_sld (i := i + 4) hx hb hX hbl hbA hS ⟨by omega, by omega⟩ (by omega) (by omega) dL_law_325 ?_
  refine q_callV hx hb hml hts hown hK hPC hS (As := [.int (q_I (xs (i + 1).toNat).toInt), .int (q_I (xs (i + 2).toNat).toInt), .int (q_I (xs (i + 3).toNat).toInt), .int (q_I (xs (i + 4).toNat).toInt)]) (rest := []) (st1 := .int (q_I r) :: []) cv_RL_27 (c_CR_send l D dA (q_rI _) (q_rI _) (q_rI _) (q_rI _) h1) (Nat.le_of_ble_eq_true rfl) q_kdC_0 rfl ⟨rfl, rfl, Nat.le_of_ble_eq_true rfl, Nat.le_of_ble_eq_true rfl⟩ ⟨Nat.le_of_ble_eq_true rfl, Nat.le_of_ble_eq_true rfl⟩ rfl hl.1 rfl (Nat.le_of_ble_eq_true rfl) rfl hAC dL_law_326 ?_
  clear hS; intro H1 locs _ hPC1 hS hF
  replace hPM := hPM.keep hPC1.1 (fun k hk => hF _ (hPM.lt2 hk) (by rintro ⟨u1, u2⟩; omega))
  clear hF
  refine lv_aload_n hx hb dL_law_329 rfl (lv_at hl 2 rfl) ?_
  refine lv_aload_n hx hb dL_law_330 rfl (lv_at hl 0 rfl) ?_
  refine lv_iload_n hx hb dL_law_331 rfl (lv_at hl 3 rfl) ?_
  refine lv_iconst (v := q_I 1) hx hb dL_law_332 rfl ?_
  refine lv_iadd hx hb dL_law_333 ?_
  rw [q_addI]
  refine q_sld (i := i + 1) hx hb hX hbl hbA hS ⟨by omega, by omega⟩ (by omega) (by omega) dL_law_334 ?_
  refine lv_aload_n hx hb dL_law_335 rfl (lv_at hl 0 rfl) ?_
  refine lv_iload_n hx hb dL_law_336 rfl (lv_at hl 3 rfl) ?_
  refine lv_iconst (v := q_I 2) hx hb dL_law_337 rfl ?_
  refine lv_iadd hx hb dL_law_338 ?_
  rw [q_addI]
  refine q_sld (i := i + 2) hx hb hX hbl hbA hS ⟨by omega, by omega⟩ (by omega) (by omega) dL_law_339 ?_
  refine lv_aload_n hx hb dL_law_340 rfl (lv_at hl 0 rfl) ?_
  refine lv_iload_n hx hb dL_law_341 rfl (lv_at hl 3 rfl) ?_
  refine lv_iconst (v := q_I 3) hx hb dL_law_342 rfl ?_
  refine lv_iadd hx hb dL_law_343 ?_
  rw [q_addI]
  refine q_sld (i := i + 3) hx hb hX hbl hbA hS ⟨by omega, by omega⟩ (by omega) (by omega) dL_law_344 ?_
  refine lv_aload_n hx hb dL_law_345 rfl (lv_at hl 0 rfl) ?_
  refine lv_iload_n hx hb dL_law_346 rfl (lv_at hl 3 rfl) ?_
  refine lv_iconst (v := q_I 4) hx hb dL_law_347 rfl ?_
  refine lv_iadd hx hb dL_law_348 ?_
  rw [q_addI]
  refine q_sld (i := i + 4) hx hb hX hbl hbA hS ⟨by omega, by omega⟩ (by omega) (by omega) dL_law_349 ?_
  refine q_callV hx hb hml hts hown hK hPM hS (As := [.int (q_I (xs (i + 1).toNat).toInt), .int (q_I (xs (i + 2).toNat).toInt), .int (q_I (xs (i + 3).toNat).toInt), .int (q_I (xs (i + 4).toNat).toInt)]) (rest := [.int (q_I r)]) (st1 := .int (q_I r) :: [.int (q_I r)]) cv_RL_31 (c_M_send l D dA (q_rI _) (q_rI _) (q_rI _) (q_rI _) h2) (Nat.le_of_ble_eq_true rfl) q_kdM_0 rfl ⟨rfl, rfl, Nat.le_of_ble_eq_true rfl, Nat.le_of_ble_eq_true rfl⟩ ⟨Nat.le_of_ble_eq_true rfl, Nat.le_of_ble_eq_true rfl⟩ rfl hl.1 rfl (Nat.le_of_ble_eq_true rfl) rfl hAM dL_law_350 ?_
  clear hS; intro H2 locs _ hPM1 hS hF
  replace hPC1 := hPC1.keep hPM1.1 (fun k hk => hF _ (hPC1.lt2 hk) (by rintro ⟨u1, u2⟩; omega))
  refine lv_icmp_eq (tgt := 1297) hx hb dL_law_353 (by decide) (fun _ => ?_) (fun q => absurd rfl q)
  exact hnext _ _ _ _ hI2 hPC1 hPM1 hS ls hl
set_option maxHeartbeats 8000000 in
set_option maxRecDepth 100000 in
theorem q_law_receive {p : Program} {l : Launch} {e : Env} {s : State} {m : MethodId} {below : List Frame} {meth : Method} {c0 : Code} {D : va_G} {dA : Nat → ClassId} {b L : Nat} {xs : Nat → Int32} (C0 : lw_At p s m meth c0 b L xs) (hK : q_K D dA s) {N : Nat} {Inv : Nat → q_M → q_M → Prop} (hs4 : q_st_receive N Inv) {z : Nat} (hz : z = s.heap.size) {i : Int} (hi0 : 0 ≤ i) (hi1 : i ≤ (L : Int) - 5) (hL : L ≤ 2560) {c : Nat} (hc : c < 512) {μC μM : q_M} {H : Heap} {locs : List Loc} (hI : Inv c μC μM) (hPC : q_P D dA q_kdC q_rhoC 77 z (z + 99) μC H) (hPM : q_P D dA q_kdM q_rhoM 22 (z + 77) (z + 99) μM H) (hS : va_S (fun q : Nat => s.heap.size ≤ q) s.heap H locs) {ls : Array Slot} (hl : lv_has ls 4 [(0, .ref b), (1, .ref (z + 0)), (2, .ref (z + 77 + 0)), (3, .int (q_I i))])
    (hnext : ∀ (μC μM : q_M) (H : Heap) (locs : List Loc), Inv (c + 1) μC μM → q_P D dA q_kdC q_rhoC 77 z (z + 99) μC H → q_P D dA q_kdM q_rhoM 22 (z + 77) (z + 99) μM H → va_S (fun q : Nat => s.heap.size ≤ q) s.heap H locs → ∀ (ls : Array Slot), lv_has ls 4 [(0, .ref b), (1, .ref (z + 0)), (2, .ref (z + 77 + 0)), (3, .int (q_I i))] → W p l e room_1 s m #[Value.ref b] below meth c0 H locs 99 19249 (lw_Z below #[Value.ref b] s) (F0 m 1297 ls [])) : W p l e room_1 s m #[Value.ref b] below meth c0 H locs 99 19249 (lw_Z below #[Value.ref b] s) (F0 m 358 ls []) := by
  obtain ⟨hx, hb, hr, hml, hown, hts0, hX, hbl, hlocks, hgv⟩ := id C0
  have hts : ∀ w ∈ q_W, w.before #[Value.ref b] s = true := fun w hw => hts0 w (List.mem_filter.mp hw).1
  have hbA : ¬ (fun q : Nat => s.heap.size ≤ q) b := Nat.not_le.mpr hbl
  have hAC : ∀ q, q_A z 77 q → (fun q : Nat => s.heap.size ≤ q) q := fun q h => by rw [← hz]; exact h.1
  have hAM : ∀ q, q_A (z + 77) 22 q → (fun q : Nat => s.heap.size ≤ q) q := fun q h => by rw [← hz]; exact Nat.le_trans (Nat.le_add_right z 77) h.1
  obtain ⟨r, μ1, μ2, h1, h2, hI2⟩ := hs4 c μC μM hc hI _ (q_rI (xs (i + 1).toNat)) _ (q_rI (xs (i + 2).toNat))
  refine lv_aload_n hx hb dL_law_358 rfl (lv_at hl 1 rfl) ?_
  refine lv_aload_n hx hb dL_law_359 rfl (lv_at hl 0 rfl) ?_
  refine lv_iload_n hx hb dL_law_360 rfl (lv_at hl 3 rfl) ?_
  refine lv_iconst (v := q_I 1) hx hb dL_law_361 rfl ?_
  refine lv_iadd hx hb dL_law_362 ?_
  rw [q_addI]
  refine q_sld (i := i + 1) hx hb hX hbl hbA hS ⟨by omega, by omega⟩ (by omega) (by omega) dL_law_363 ?_
  refine lv_aload_n hx hb dL_law_364 rfl (lv_at hl 0 rfl) ?_
  refine lv_iload_n hx hb dL_law_365 rfl (lv_at hl 3 rfl) ?_
  refine lv_iconst (v := q_I 2) hx hb dL_law_366 rfl ?_
  refine lv_iadd hx hb dL_law_367 ?_
  rw [q_addI]
  refine q_sld (i := i + 2) hx hb hX hbl hbA hS ⟨by omega, by omega⟩ (by omega) (by omega) dL_law_368 ?_
  refine q_callV hx hb hml hts hown hK hPC hS (As := [.int (q_I (xs (i + 1).toNat).toInt), .int (q_I (xs (i + 2).toNat).toInt)]) (rest := []) (st1 := .int (q_I r) :: []) cv_RL_32 (c_CR_receive l D dA (q_rI _) (q_rI _) h1) (Nat.le_of_ble_eq_true rfl) q_kdC_0 rfl ⟨rfl, rfl, Nat.le_of_ble_eq_true rfl, Nat.le_of_ble_eq_true rfl⟩ ⟨Nat.le_of_ble_eq_true rfl, Nat.le_of_ble_eq_true rfl⟩ rfl hl.1 rfl (Nat.le_of_ble_eq_true rfl) rfl hAC dL_law_369 ?_
  clear hS; intro H1 locs _ hPC1 hS hF
  replace hPM := hPM.keep hPC1.1 (fun k hk => hF _ (hPM.lt2 hk) (by rintro ⟨u1, u2⟩; omega))
  clear hF
  refine lv_aload_n hx hb dL_law_372 rfl (lv_at hl 2 rfl) ?_
  refine lv_aload_n hx hb dL_law_373 rfl (lv_at hl 0 rfl) ?_
  refine lv_iload_n hx hb dL_law_374 rfl (lv_at hl 3 rfl) ?_
  refine lv_iconst (v := q_I 1) hx hb dL_law_375 rfl ?_
  refine lv_iadd hx hb dL_law_376 ?_
  rw [q_addI]
  refine q_sld (i := i + 1) hx hb hX hbl hbA hS ⟨by omega, by omega⟩ (by omega) (by omega) dL_law_377 ?_
  refine lv_aload_n hx hb dL_law_378 rfl (lv_at hl 0 rfl) ?_
  refine lv_iload_n hx hb dL_law_379 rfl (lv_at hl 3 rfl) ?_
  refine lv_iconst (v := q_I 2) hx hb dL_law_380 rfl ?_
  refine lv_iadd hx hb dL_law_381 ?_
  rw [q_addI]
  refine q_sld (i := i + 2) hx hb hX hbl hbA hS ⟨by omega, by omega⟩ (by omega) (by omega) dL_law_382 ?_
  refine q_callV hx hb hml hts hown hK hPM hS (As := [.int (q_I (xs (i + 1).toNat).toInt), .int (q_I (xs (i + 2).toNat).toInt)]) (rest := [.int (q_I r)]) (st1 := .int (q_I r) :: [.int (q_I r)]) cv_RL_36 (c_M_receive l D dA (q_rI _) (q_rI _) h2) (Nat.le_of_ble_eq_true rfl) q_kdM_0 rfl ⟨rfl, rfl, Nat.le_of_ble_eq_true rfl, Nat.le_of_ble_eq_true rfl⟩ ⟨Nat.le_of_ble_eq_true rfl, Nat.le_of_ble_eq_true rfl⟩ rfl hl.1 rfl (Nat.le_of_ble_eq_true rfl) rfl hAM dL_law_383 ?_
  clear hS; intro H2 locs _ hPM1 hS hF
  replace hPC1 := hPC1.keep hPM1.1 (fun k hk => hF _ (hPC1.lt2 hk) (by rintro ⟨u1, u2⟩; omega))
  refine lv_icmp_eq (tgt := 1297) hx hb dL_law_386 (by decide) (fun _ => ?_) (fun q => absurd rfl q)
  exact hnext _ _ _ _ hI2 hPC1 hPM1 hS ls hl
set_option maxHeartbeats 8000000 in
set_option maxRecDepth 100000 in
theorem q_law_stock {p : Program} {l : Launch} {e : Env} {s : State} {m : MethodId} {below : List Frame} {meth : Method} {c0 : Code} {D : va_G} {dA : Nat → ClassId} {b L : Nat} {xs : Nat → Int32} (C0 : lw_At p s m meth c0 b L xs) (hK : q_K D dA s) {N : Nat} {Inv : Nat → q_M → q_M → Prop} (hs5 : q_st_stock N Inv) {z : Nat} (hz : z = s.heap.size) {i : Int} (hi0 : 0 ≤ i) (hi1 : i ≤ (L : Int) - 5) (hL : L ≤ 2560) {c : Nat} (hc : c < 512) {μC μM : q_M} {H : Heap} {locs : List Loc} (hI : Inv c μC μM) (hPC : q_P D dA q_kdC q_rhoC 77 z (z + 99) μC H) (hPM : q_P D dA q_kdM q_rhoM 22 (z + 77) (z + 99) μM H) (hS : va_S (fun q : Nat => s.heap.size ≤ q) s.heap H locs) {ls : Array Slot} (hl : lv_has ls 4 [(0, .ref b), (1, .ref (z + 0)), (2, .ref (z + 77 + 0)), (3, .int (q_I i))])
    (hnext : ∀ (μC μM : q_M) (H : Heap) (locs : List Loc), Inv (c + 1) μC μM → q_P D dA q_kdC q_rhoC 77 z (z + 99) μC H → q_P D dA q_kdM q_rhoM 22 (z + 77) (z + 99) μM H → va_S (fun q : Nat => s.heap.size ≤ q) s.heap H locs → ∀ (ls : Array Slot), lv_has ls 4 [(0, .ref b), (1, .ref (z + 0)), (2, .ref (z + 77 + 0)), (3, .int (q_I i))] → W p l e room_1 s m #[Value.ref b] below meth c0 H locs 99 19249 (lw_Z below #[Value.ref b] s) (F0 m 1297 ls [])) : W p l e room_1 s m #[Value.ref b] below meth c0 H locs 99 19249 (lw_Z below #[Value.ref b] s) (F0 m 391 ls []) := by
  obtain ⟨hx, hb, hr, hml, hown, hts0, hX, hbl, hlocks, hgv⟩ := id C0
  have hts : ∀ w ∈ q_W, w.before #[Value.ref b] s = true := fun w hw => hts0 w (List.mem_filter.mp hw).1
  have hbA : ¬ (fun q : Nat => s.heap.size ≤ q) b := Nat.not_le.mpr hbl
  have hAC : ∀ q, q_A z 77 q → (fun q : Nat => s.heap.size ≤ q) q := fun q h => by rw [← hz]; exact h.1
  have hAM : ∀ q, q_A (z + 77) 22 q → (fun q : Nat => s.heap.size ≤ q) q := fun q h => by rw [← hz]; exact Nat.le_trans (Nat.le_add_right z 77) h.1
  obtain ⟨r, h1, h2, hI2⟩ := hs5 c μC μM hc hI _ (q_rI (xs (i + 1).toNat)) _ (q_rI (xs (i + 2).toNat))
  refine lv_aload_n hx hb dL_law_391 rfl (lv_at hl 1 rfl) ?_
  refine lv_aload_n hx hb dL_law_392 rfl (lv_at hl 0 rfl) ?_
  refine lv_iload_n hx hb dL_law_393 rfl (lv_at hl 3 rfl) ?_
  refine lv_iconst (v := q_I 1) hx hb dL_law_394 rfl ?_
  refine lv_iadd hx hb dL_law_395 ?_
  rw [q_addI]
  refine q_sld (i := i + 1) hx hb hX hbl hbA hS ⟨by omega, by omega⟩ (by omega) (by omega) dL_law_396 ?_
  refine lv_aload_n hx hb dL_law_397 rfl (lv_at hl 0 rfl) ?_
  refine lv_iload_n hx hb dL_law_398 rfl (lv_at hl 3 rfl) ?_
  refine lv_iconst (v := q_I 2) hx hb dL_law_399 rfl ?_
  refine lv_iadd hx hb dL_law_400 ?_
  rw [q_addI]
  refine q_sld (i := i + 2) hx hb hX hbl hbA hS ⟨by omega, by omega⟩ (by omega) (by omega) dL_law_401 ?_
  refine q_callV hx hb hml hts hown hK hPC hS (As := [.int (q_I (xs (i + 1).toNat).toInt), .int (q_I (xs (i + 2).toNat).toInt)]) (rest := []) (st1 := .int (q_I r) :: []) cv_RL_37 (c_CR_stock l D dA (q_rI _) (q_rI _) h1) (Nat.le_of_ble_eq_true rfl) q_kdC_0 rfl ⟨rfl, rfl, Nat.le_of_ble_eq_true rfl, Nat.le_of_ble_eq_true rfl⟩ ⟨Nat.le_of_ble_eq_true rfl, Nat.le_of_ble_eq_true rfl⟩ rfl hl.1 rfl (Nat.le_of_ble_eq_true rfl) rfl hAC dL_law_402 ?_
  clear hS; intro H1 locs _ hPC1 hS hF
  replace hPM := hPM.keep hPC1.1 (fun k hk => hF _ (hPM.lt2 hk) (by rintro ⟨u1, u2⟩; omega))
  clear hF
  refine lv_aload_n hx hb dL_law_405 rfl (lv_at hl 2 rfl) ?_
  refine lv_aload_n hx hb dL_law_406 rfl (lv_at hl 0 rfl) ?_
  refine lv_iload_n hx hb dL_law_407 rfl (lv_at hl 3 rfl) ?_
  refine lv_iconst (v := q_I 1) hx hb dL_law_408 rfl ?_
  refine lv_iadd hx hb dL_law_409 ?_
  rw [q_addI]
  refine q_sld (i := i + 1) hx hb hX hbl hbA hS ⟨by omega, by omega⟩ (by omega) (by omega) dL_law_410 ?_
  refine lv_aload_n hx hb dL_law_411 rfl (lv_at hl 0 rfl) ?_
  refine lv_iload_n hx hb dL_law_412 rfl (lv_at hl 3 rfl) ?_
  refine lv_iconst (v := q_I 2) hx hb dL_law_413 rfl ?_
  refine lv_iadd hx hb dL_law_414 ?_
  rw [q_addI]
  refine q_sld (i := i + 2) hx hb hX hbl hbA hS ⟨by omega, by omega⟩ (by omega) (by omega) dL_law_415 ?_
  refine q_callV hx hb hml hts hown hK hPM hS (As := [.int (q_I (xs (i + 1).toNat).toInt), .int (q_I (xs (i + 2).toNat).toInt)]) (rest := [.int (q_I r)]) (st1 := .int (q_I r) :: [.int (q_I r)]) cv_RL_40 (c_M_stock l D dA (q_rI _) (q_rI _) h2) (Nat.le_of_ble_eq_true rfl) q_kdM_0 rfl ⟨rfl, rfl, Nat.le_of_ble_eq_true rfl, Nat.le_of_ble_eq_true rfl⟩ ⟨Nat.le_of_ble_eq_true rfl, Nat.le_of_ble_eq_true rfl⟩ rfl hl.1 rfl (Nat.le_of_ble_eq_true rfl) rfl hAM dL_law_416 ?_
  clear hS; intro H2 locs _ hPM1 hS hF
  replace hPC1 := hPC1.keep hPM1.1 (fun k hk => hF _ (hPC1.lt2 hk) (by rintro ⟨u1, u2⟩; omega))
  refine lv_icmp_eq (tgt := 1297) hx hb dL_law_419 (by decide) (fun _ => ?_) (fun q => absurd rfl q)
  exact hnext _ _ _ _ hI2 hPC1 hPM1 hS ls hl
set_option maxHeartbeats 8000000 in
set_option maxRecDepth 100000 in
theorem q_law_inChannel {p : Program} {l : Launch} {e : Env} {s : State} {m : MethodId} {below : List Frame} {meth : Method} {c0 : Code} {D : va_G} {dA : Nat → ClassId} {b L : Nat} {xs : Nat → Int32} (C0 : lw_At p s m meth c0 b L xs) (hK : q_K D dA s) {N : Nat} {Inv : Nat → q_M → q_M → Prop} (hs6 : q_st_inChannel N Inv) {z : Nat} (hz : z = s.heap.size) {i : Int} (hi0 : 0 ≤ i) (hi1 : i ≤ (L : Int) - 5) (hL : L ≤ 2560) {c : Nat} (hc : c < 512) {μC μM : q_M} {H : Heap} {locs : List Loc} (hI : Inv c μC μM) (hPC : q_P D dA q_kdC q_rhoC 77 z (z + 99) μC H) (hPM : q_P D dA q_kdM q_rhoM 22 (z + 77) (z + 99) μM H) (hS : va_S (fun q : Nat => s.heap.size ≤ q) s.heap H locs) {ls : Array Slot} (hl : lv_has ls 4 [(0, .ref b), (1, .ref (z + 0)), (2, .ref (z + 77 + 0)), (3, .int (q_I i))])
    (hnext : ∀ (μC μM : q_M) (H : Heap) (locs : List Loc), Inv (c + 1) μC μM → q_P D dA q_kdC q_rhoC 77 z (z + 99) μC H → q_P D dA q_kdM q_rhoM 22 (z + 77) (z + 99) μM H → va_S (fun q : Nat => s.heap.size ≤ q) s.heap H locs → ∀ (ls : Array Slot), lv_has ls 4 [(0, .ref b), (1, .ref (z + 0)), (2, .ref (z + 77 + 0)), (3, .int (q_I i))] → W p l e room_1 s m #[Value.ref b] below meth c0 H locs 99 19249 (lw_Z below #[Value.ref b] s) (F0 m 1297 ls [])) : W p l e room_1 s m #[Value.ref b] below meth c0 H locs 99 19249 (lw_Z below #[Value.ref b] s) (F0 m 424 ls []) := by
  obtain ⟨hx, hb, hr, hml, hown, hts0, hX, hbl, hlocks, hgv⟩ := id C0
  have hts : ∀ w ∈ q_W, w.before #[Value.ref b] s = true := fun w hw => hts0 w (List.mem_filter.mp hw).1
  have hbA : ¬ (fun q : Nat => s.heap.size ≤ q) b := Nat.not_le.mpr hbl
  have hAC : ∀ q, q_A z 77 q → (fun q : Nat => s.heap.size ≤ q) q := fun q h => by rw [← hz]; exact h.1
  have hAM : ∀ q, q_A (z + 77) 22 q → (fun q : Nat => s.heap.size ≤ q) q := fun q h => by rw [← hz]; exact Nat.le_trans (Nat.le_add_right z 77) h.1
  obtain ⟨r, h1, h2, hI2⟩ := hs6 c μC μM hc hI _ (q_rI (xs (i + 1).toNat)) _ (q_rI (xs (i + 2).toNat)) _ (q_rI (xs (i + 3).toNat)) _ (q_rI (xs (i + 4).toNat))
  refine lv_aload_n hx hb dL_law_424 rfl (lv_at hl 1 rfl) ?_
  refine lv_aload_n hx hb dL_law_425 rfl (lv_at hl 0 rfl) ?_
  refine lv_iload_n hx hb dL_law_426 rfl (lv_at hl 3 rfl) ?_
  refine lv_iconst (v := q_I 1) hx hb dL_law_427 rfl ?_
  refine lv_iadd hx hb dL_law_428 ?_
  rw [q_addI]
  refine q_sld (i := i + 1) hx hb hX hbl hbA hS ⟨by omega, by omega⟩ (by omega) (by omega) dL_law_429 ?_
  refine lv_aload_n hx hb dL_law_430 rfl (lv_at hl 0 rfl) ?_
  refine lv_iload_n hx hb dL_law_431 rfl (lv_at hl 3 rfl) ?_
  refine lv_iconst (v := q_I 2) hx hb dL_law_432 rfl ?_
  refine lv_iadd hx hb dL_law_433 ?_
  rw [q_addI]
  refine q_sld (i := i + 2) hx hb hX hbl hbA hS ⟨by omega, by omega⟩ (by omega) (by omega) dL_law_434 ?_
  refine lv_aload_n hx hb dL_law_435 rfl (lv_at hl 0 rfl) ?_
  refine lv_iload_n hx hb dL_law_436 rfl (lv_at hl 3 rfl) ?_
  refine lv_iconst (v := q_I 3) hx hb dL_law_437 rfl ?_
  refine lv_iadd hx hb dL_law_438 ?_
  rw [q_addI]
  refine q_sld (i := i + 3) hx hb hX hbl hbA hS ⟨by omega, by omega⟩ (by omega) (by omega) dL_law_439 ?_
  refine lv_aload_n hx hb dL_law_440 rfl (lv_at hl 0 rfl) ?_
  refine lv_iload_n hx hb dL_law_441 rfl (lv_at hl 3 rfl) ?_
  refine lv_iconst (v := q_I 4) hx hb dL_law_442 rfl ?_
  refine lv_iadd hx hb dL_law_443 ?_
  rw [q_addI]
  refine q_sld (i := i + 4) hx hb hX hbl hbA hS ⟨by omega, by omega⟩ (by omega) (by omega) dL_law_444 ?_
  refine q_callV hx hb hml hts hown hK hPC hS (As := [.int (q_I (xs (i + 1).toNat).toInt), .int (q_I (xs (i + 2).toNat).toInt), .int (q_I (xs (i + 3).toNat).toInt), .int (q_I (xs (i + 4).toNat).toInt)]) (rest := []) (st1 := .int (q_I r) :: []) cv_RL_41 (c_CR_inChannel l D dA (q_rI _) (q_rI _) (q_rI _) (q_rI _) h1) (Nat.le_of_ble_eq_true rfl) q_kdC_0 rfl ⟨rfl, rfl, Nat.le_of_ble_eq_true rfl, Nat.le_of_ble_eq_true rfl⟩ ⟨Nat.le_of_ble_eq_true rfl, Nat.le_of_ble_eq_true rfl⟩ rfl hl.1 rfl (Nat.le_of_ble_eq_true rfl) rfl hAC dL_law_445 ?_
  clear hS; intro H1 locs _ hPC1 hS hF
  replace hPM := hPM.keep hPC1.1 (fun k hk => hF _ (hPM.lt2 hk) (by rintro ⟨u1, u2⟩; omega))
  clear hF
  refine lv_aload_n hx hb dL_law_448 rfl (lv_at hl 2 rfl) ?_
  refine lv_aload_n hx hb dL_law_449 rfl (lv_at hl 0 rfl) ?_
  refine lv_iload_n hx hb dL_law_450 rfl (lv_at hl 3 rfl) ?_
  refine lv_iconst (v := q_I 1) hx hb dL_law_451 rfl ?_
  refine lv_iadd hx hb dL_law_452 ?_
  rw [q_addI]
  refine q_sld (i := i + 1) hx hb hX hbl hbA hS ⟨by omega, by omega⟩ (by omega) (by omega) dL_law_453 ?_
  refine lv_aload_n hx hb dL_law_454 rfl (lv_at hl 0 rfl) ?_
  refine lv_iload_n hx hb dL_law_455 rfl (lv_at hl 3 rfl) ?_
  refine lv_iconst (v := q_I 2) hx hb dL_law_456 rfl ?_
  refine lv_iadd hx hb dL_law_457 ?_
  rw [q_addI]
  refine q_sld (i := i + 2) hx hb hX hbl hbA hS ⟨by omega, by omega⟩ (by omega) (by omega) dL_law_458 ?_
  refine lv_aload_n hx hb dL_law_459 rfl (lv_at hl 0 rfl) ?_
  refine lv_iload_n hx hb dL_law_460 rfl (lv_at hl 3 rfl) ?_
  refine lv_iconst (v := q_I 3) hx hb dL_law_461 rfl ?_
  refine lv_iadd hx hb dL_law_462 ?_
  rw [q_addI]
  refine q_sld (i := i + 3) hx hb hX hbl hbA hS ⟨by omega, by omega⟩ (by omega) (by omega) dL_law_463 ?_
  refine lv_aload_n hx hb dL_law_464 rfl (lv_at hl 0 rfl) ?_
  refine lv_iload_n hx hb dL_law_465 rfl (lv_at hl 3 rfl) ?_
  refine lv_iconst (v := q_I 4) hx hb dL_law_466 rfl ?_
  refine lv_iadd hx hb dL_law_467 ?_
  rw [q_addI]
  refine q_sld (i := i + 4) hx hb hX hbl hbA hS ⟨by omega, by omega⟩ (by omega) (by omega) dL_law_468 ?_
  refine q_callV hx hb hml hts hown hK hPM hS (As := [.int (q_I (xs (i + 1).toNat).toInt), .int (q_I (xs (i + 2).toNat).toInt), .int (q_I (xs (i + 3).toNat).toInt), .int (q_I (xs (i + 4).toNat).toInt)]) (rest := [.int (q_I r)]) (st1 := .int (q_I r) :: [.int (q_I r)]) cv_RL_44 (c_M_inChannel l D dA (q_rI _) (q_rI _) (q_rI _) (q_rI _) h2) (Nat.le_of_ble_eq_true rfl) q_kdM_0 rfl ⟨rfl, rfl, Nat.le_of_ble_eq_true rfl, Nat.le_of_ble_eq_true rfl⟩ ⟨Nat.le_of_ble_eq_true rfl, Nat.le_of_ble_eq_true rfl⟩ rfl hl.1 rfl (Nat.le_of_ble_eq_true rfl) rfl hAM dL_law_469 ?_
  clear hS; intro H2 locs _ hPM1 hS hF
  replace hPC1 := hPC1.keep hPM1.1 (fun k hk => hF _ (hPC1.lt2 hk) (by rintro ⟨u1, u2⟩; omega))
  refine lv_icmp_eq (tgt := 1297) hx hb dL_law_472 (by decide) (fun _ => ?_) (fun q => absurd rfl q)
  exact hnext _ _ _ _ hI2 hPC1 hPM1 hS ls hl
set_option maxHeartbeats 8000000 in
set_option maxRecDepth 100000 in
theorem q_law_event {p : Program} {l : Launch} {e : Env} {s : State} {m : MethodId} {below : List Frame} {meth : Method} {c0 : Code} {D : va_G} {dA : Nat → ClassId} {b L : Nat} {xs : Nat → Int32} (C0 : lw_At p s m meth c0 b L xs) (hK : q_K D dA s) {N : Nat} {Inv : Nat → q_M → q_M → Prop} (hs7 : q_st_event N Inv) {z : Nat} (hz : z = s.heap.size) {i : Int} (hi0 : 0 ≤ i) (hi1 : i ≤ (L : Int) - 5) (hL : L ≤ 2560) {c : Nat} (hc : c < 512) {μC μM : q_M} {H : Heap} {locs : List Loc} (hI : Inv c μC μM) (hPC : q_P D dA q_kdC q_rhoC 77 z (z + 99) μC H) (hPM : q_P D dA q_kdM q_rhoM 22 (z + 77) (z + 99) μM H) (hS : va_S (fun q : Nat => s.heap.size ≤ q) s.heap H locs) {ls : Array Slot} (hl : lv_has ls 4 [(0, .ref b), (1, .ref (z + 0)), (2, .ref (z + 77 + 0)), (3, .int (q_I i))])
    (hnext : ∀ (μC μM : q_M) (H : Heap) (locs : List Loc), Inv (c + 1) μC μM → q_P D dA q_kdC q_rhoC 77 z (z + 99) μC H → q_P D dA q_kdM q_rhoM 22 (z + 77) (z + 99) μM H → va_S (fun q : Nat => s.heap.size ≤ q) s.heap H locs → ∀ (ls : Array Slot), lv_has ls 4 [(0, .ref b), (1, .ref (z + 0)), (2, .ref (z + 77 + 0)), (3, .int (q_I i))] → W p l e room_1 s m #[Value.ref b] below meth c0 H locs 99 19249 (lw_Z below #[Value.ref b] s) (F0 m 1297 ls [])) : W p l e room_1 s m #[Value.ref b] below meth c0 H locs 99 19249 (lw_Z below #[Value.ref b] s) (F0 m 477 ls []) := by
  obtain ⟨hx, hb, hr, hml, hown, hts0, hX, hbl, hlocks, hgv⟩ := id C0
  have hts : ∀ w ∈ q_W, w.before #[Value.ref b] s = true := fun w hw => hts0 w (List.mem_filter.mp hw).1
  have hbA : ¬ (fun q : Nat => s.heap.size ≤ q) b := Nat.not_le.mpr hbl
  have hAC : ∀ q, q_A z 77 q → (fun q : Nat => s.heap.size ≤ q) q := fun q h => by rw [← hz]; exact h.1
  have hAM : ∀ q, q_A (z + 77) 22 q → (fun q : Nat => s.heap.size ≤ q) q := fun q h => by rw [← hz]; exact Nat.le_trans (Nat.le_add_right z 77) h.1
  obtain ⟨r, h1, h2, hI2⟩ := hs7 c μC μM hc hI _ (q_rI (xs (i + 1).toNat)) _ (q_rI (xs (i + 2).toNat))
  refine lv_aload_n hx hb dL_law_477 rfl (lv_at hl 1 rfl) ?_
  refine lv_aload_n hx hb dL_law_478 rfl (lv_at hl 0 rfl) ?_
  refine lv_iload_n hx hb dL_law_479 rfl (lv_at hl 3 rfl) ?_
  refine lv_iconst (v := q_I 1) hx hb dL_law_480 rfl ?_
  refine lv_iadd hx hb dL_law_481 ?_
  rw [q_addI]
  refine q_sld (i := i + 1) hx hb hX hbl hbA hS ⟨by omega, by omega⟩ (by omega) (by omega) dL_law_482 ?_
  refine lv_aload_n hx hb dL_law_483 rfl (lv_at hl 0 rfl) ?_
  refine lv_iload_n hx hb dL_law_484 rfl (lv_at hl 3 rfl) ?_
  refine lv_iconst (v := q_I 2) hx hb dL_law_485 rfl ?_
  refine lv_iadd hx hb dL_law_486 ?_
  rw [q_addI]
  refine q_sld (i := i + 2) hx hb hX hbl hbA hS ⟨by omega, by omega⟩ (by omega) (by omega) dL_law_487 ?_
  refine q_callV hx hb hml hts hown hK hPC hS (As := [.int (q_I (xs (i + 1).toNat).toInt), .int (q_I (xs (i + 2).toNat).toInt)]) (rest := []) (st1 := .int (q_I r) :: []) cv_RL_45 (c_CR_event l D dA (q_rI _) (q_rI _) h1) (Nat.le_of_ble_eq_true rfl) q_kdC_0 rfl ⟨rfl, rfl, Nat.le_of_ble_eq_true rfl, Nat.le_of_ble_eq_true rfl⟩ ⟨Nat.le_of_ble_eq_true rfl, Nat.le_of_ble_eq_true rfl⟩ rfl hl.1 rfl (Nat.le_of_ble_eq_true rfl) rfl hAC dL_law_488 ?_
  clear hS; intro H1 locs _ hPC1 hS hF
  replace hPM := hPM.keep hPC1.1 (fun k hk => hF _ (hPM.lt2 hk) (by rintro ⟨u1, u2⟩; omega))
  clear hF
  refine lv_aload_n hx hb dL_law_491 rfl (lv_at hl 2 rfl) ?_
  refine lv_aload_n hx hb dL_law_492 rfl (lv_at hl 0 rfl) ?_
  refine lv_iload_n hx hb dL_law_493 rfl (lv_at hl 3 rfl) ?_
  refine lv_iconst (v := q_I 1) hx hb dL_law_494 rfl ?_
  refine lv_iadd hx hb dL_law_495 ?_
  rw [q_addI]
  refine q_sld (i := i + 1) hx hb hX hbl hbA hS ⟨by omega, by omega⟩ (by omega) (by omega) dL_law_496 ?_
  refine lv_aload_n hx hb dL_law_497 rfl (lv_at hl 0 rfl) ?_
  refine lv_iload_n hx hb dL_law_498 rfl (lv_at hl 3 rfl) ?_
  refine lv_iconst (v := q_I 2) hx hb dL_law_499 rfl ?_
  refine lv_iadd hx hb dL_law_500 ?_
  rw [q_addI]
  refine q_sld (i := i + 2) hx hb hX hbl hbA hS ⟨by omega, by omega⟩ (by omega) (by omega) dL_law_501 ?_
  refine q_callV hx hb hml hts hown hK hPM hS (As := [.int (q_I (xs (i + 1).toNat).toInt), .int (q_I (xs (i + 2).toNat).toInt)]) (rest := [.int (q_I r)]) (st1 := .int (q_I r) :: [.int (q_I r)]) cv_RL_48 (c_M_event l D dA (q_rI _) (q_rI _) h2) (Nat.le_of_ble_eq_true rfl) q_kdM_0 rfl ⟨rfl, rfl, Nat.le_of_ble_eq_true rfl, Nat.le_of_ble_eq_true rfl⟩ ⟨Nat.le_of_ble_eq_true rfl, Nat.le_of_ble_eq_true rfl⟩ rfl hl.1 rfl (Nat.le_of_ble_eq_true rfl) rfl hAM dL_law_502 ?_
  clear hS; intro H2 locs _ hPM1 hS hF
  replace hPC1 := hPC1.keep hPM1.1 (fun k hk => hF _ (hPC1.lt2 hk) (by rintro ⟨u1, u2⟩; omega))
  refine lv_icmp_eq (tgt := 1297) hx hb dL_law_505 (by decide) (fun _ => ?_) (fun q => absurd rfl q)
  exact hnext _ _ _ _ hI2 hPC1 hPM1 hS ls hl
set_option maxHeartbeats 8000000 in
set_option maxRecDepth 100000 in
theorem q_law_clock {p : Program} {l : Launch} {e : Env} {s : State} {m : MethodId} {below : List Frame} {meth : Method} {c0 : Code} {D : va_G} {dA : Nat → ClassId} {b L : Nat} {xs : Nat → Int32} (C0 : lw_At p s m meth c0 b L xs) (hK : q_K D dA s) {N : Nat} {Inv : Nat → q_M → q_M → Prop} (hs8 : q_st_clock N Inv) {z : Nat} (hz : z = s.heap.size) {i : Int} (hi0 : 0 ≤ i) (hi1 : i ≤ (L : Int) - 5) (hL : L ≤ 2560) {c : Nat} (hc : c < 512) {μC μM : q_M} {H : Heap} {locs : List Loc} (hI : Inv c μC μM) (hPC : q_P D dA q_kdC q_rhoC 77 z (z + 99) μC H) (hPM : q_P D dA q_kdM q_rhoM 22 (z + 77) (z + 99) μM H) (hS : va_S (fun q : Nat => s.heap.size ≤ q) s.heap H locs) {ls : Array Slot} (hl : lv_has ls 4 [(0, .ref b), (1, .ref (z + 0)), (2, .ref (z + 77 + 0)), (3, .int (q_I i))])
    (hnext : ∀ (μC μM : q_M) (H : Heap) (locs : List Loc), Inv (c + 1) μC μM → q_P D dA q_kdC q_rhoC 77 z (z + 99) μC H → q_P D dA q_kdM q_rhoM 22 (z + 77) (z + 99) μM H → va_S (fun q : Nat => s.heap.size ≤ q) s.heap H locs → ∀ (ls : Array Slot), lv_has ls 4 [(0, .ref b), (1, .ref (z + 0)), (2, .ref (z + 77 + 0)), (3, .int (q_I i))] → W p l e room_1 s m #[Value.ref b] below meth c0 H locs 99 19249 (lw_Z below #[Value.ref b] s) (F0 m 1297 ls [])) : W p l e room_1 s m #[Value.ref b] below meth c0 H locs 99 19249 (lw_Z below #[Value.ref b] s) (F0 m 510 ls []) := by
  obtain ⟨hx, hb, hr, hml, hown, hts0, hX, hbl, hlocks, hgv⟩ := id C0
  have hts : ∀ w ∈ q_W, w.before #[Value.ref b] s = true := fun w hw => hts0 w (List.mem_filter.mp hw).1
  have hbA : ¬ (fun q : Nat => s.heap.size ≤ q) b := Nat.not_le.mpr hbl
  have hAC : ∀ q, q_A z 77 q → (fun q : Nat => s.heap.size ≤ q) q := fun q h => by rw [← hz]; exact h.1
  have hAM : ∀ q, q_A (z + 77) 22 q → (fun q : Nat => s.heap.size ≤ q) q := fun q h => by rw [← hz]; exact Nat.le_trans (Nat.le_add_right z 77) h.1
  obtain ⟨r, h1, h2, hI2⟩ := hs8 c μC μM hc hI _ (q_rI (xs (i + 1).toNat)) _ (q_rI (xs (i + 2).toNat))
  refine lv_aload_n hx hb dL_law_510 rfl (lv_at hl 1 rfl) ?_
  refine lv_aload_n hx hb dL_law_511 rfl (lv_at hl 0 rfl) ?_
  refine lv_iload_n hx hb dL_law_512 rfl (lv_at hl 3 rfl) ?_
  refine lv_iconst (v := q_I 1) hx hb dL_law_513 rfl ?_
  refine lv_iadd hx hb dL_law_514 ?_
  rw [q_addI]
  refine q_sld (i := i + 1) hx hb hX hbl hbA hS ⟨by omega, by omega⟩ (by omega) (by omega) dL_law_515 ?_
  refine lv_aload_n hx hb dL_law_516 rfl (lv_at hl 0 rfl) ?_
  refine lv_iload_n hx hb dL_law_517 rfl (lv_at hl 3 rfl) ?_
  refine lv_iconst (v := q_I 2) hx hb dL_law_518 rfl ?_
  refine lv_iadd hx hb dL_law_519 ?_
  rw [q_addI]
  refine q_sld (i := i + 2) hx hb hX hbl hbA hS ⟨by omega, by omega⟩ (by omega) (by omega) dL_law_520 ?_
  refine q_callV hx hb hml hts hown hK hPC hS (As := [.int (q_I (xs (i + 1).toNat).toInt), .int (q_I (xs (i + 2).toNat).toInt)]) (rest := []) (st1 := .int (q_I r) :: []) cv_RL_49 (c_CR_clock l D dA (q_rI _) (q_rI _) h1) (Nat.le_of_ble_eq_true rfl) q_kdC_0 rfl ⟨rfl, rfl, Nat.le_of_ble_eq_true rfl, Nat.le_of_ble_eq_true rfl⟩ ⟨Nat.le_of_ble_eq_true rfl, Nat.le_of_ble_eq_true rfl⟩ rfl hl.1 rfl (Nat.le_of_ble_eq_true rfl) rfl hAC dL_law_521 ?_
  clear hS; intro H1 locs _ hPC1 hS hF
  replace hPM := hPM.keep hPC1.1 (fun k hk => hF _ (hPM.lt2 hk) (by rintro ⟨u1, u2⟩; omega))
  clear hF
  refine lv_aload_n hx hb dL_law_524 rfl (lv_at hl 2 rfl) ?_
  refine lv_aload_n hx hb dL_law_525 rfl (lv_at hl 0 rfl) ?_
  refine lv_iload_n hx hb dL_law_526 rfl (lv_at hl 3 rfl) ?_
  refine lv_iconst (v := q_I 1) hx hb dL_law_527 rfl ?_
  refine lv_iadd hx hb dL_law_528 ?_
  rw [q_addI]
  refine q_sld (i := i + 1) hx hb hX hbl hbA hS ⟨by omega, by omega⟩ (by omega) (by omega) dL_law_529 ?_
  refine lv_aload_n hx hb dL_law_530 rfl (lv_at hl 0 rfl) ?_
  refine lv_iload_n hx hb dL_law_531 rfl (lv_at hl 3 rfl) ?_
  refine lv_iconst (v := q_I 2) hx hb dL_law_532 rfl ?_
  refine lv_iadd hx hb dL_law_533 ?_
  rw [q_addI]
  refine q_sld (i := i + 2) hx hb hX hbl hbA hS ⟨by omega, by omega⟩ (by omega) (by omega) dL_law_534 ?_
  refine q_callV hx hb hml hts hown hK hPM hS (As := [.int (q_I (xs (i + 1).toNat).toInt), .int (q_I (xs (i + 2).toNat).toInt)]) (rest := [.int (q_I r)]) (st1 := .int (q_I r) :: [.int (q_I r)]) cv_RL_52 (c_M_clock l D dA (q_rI _) (q_rI _) h2) (Nat.le_of_ble_eq_true rfl) q_kdM_0 rfl ⟨rfl, rfl, Nat.le_of_ble_eq_true rfl, Nat.le_of_ble_eq_true rfl⟩ ⟨Nat.le_of_ble_eq_true rfl, Nat.le_of_ble_eq_true rfl⟩ rfl hl.1 rfl (Nat.le_of_ble_eq_true rfl) rfl hAM dL_law_535 ?_
  clear hS; intro H2 locs _ hPM1 hS hF
  replace hPC1 := hPC1.keep hPM1.1 (fun k hk => hF _ (hPC1.lt2 hk) (by rintro ⟨u1, u2⟩; omega))
  refine lv_icmp_eq (tgt := 1297) hx hb dL_law_538 (by decide) (fun _ => ?_) (fun q => absurd rfl q)
  exact hnext _ _ _ _ hI2 hPC1 hPM1 hS ls hl
set_option maxHeartbeats 8000000 in
set_option maxRecDepth 100000 in
theorem q_law_order {p : Program} {l : Launch} {e : Env} {s : State} {m : MethodId} {below : List Frame} {meth : Method} {c0 : Code} {D : va_G} {dA : Nat → ClassId} {b L : Nat} {xs : Nat → Int32} (C0 : lw_At p s m meth c0 b L xs) (hK : q_K D dA s) {N : Nat} {Inv : Nat → q_M → q_M → Prop} (hs9 : q_st_order N Inv) {z : Nat} (hz : z = s.heap.size) {i : Int} (hi0 : 0 ≤ i) (hi1 : i ≤ (L : Int) - 5) (hL : L ≤ 2560) {c : Nat} (hc : c < 512) {μC μM : q_M} {H : Heap} {locs : List Loc} (hI : Inv c μC μM) (hPC : q_P D dA q_kdC q_rhoC 77 z (z + 99) μC H) (hPM : q_P D dA q_kdM q_rhoM 22 (z + 77) (z + 99) μM H) (hS : va_S (fun q : Nat => s.heap.size ≤ q) s.heap H locs) {ls : Array Slot} (hl : lv_has ls 4 [(0, .ref b), (1, .ref (z + 0)), (2, .ref (z + 77 + 0)), (3, .int (q_I i))])
    (hnext : ∀ (μC μM : q_M) (H : Heap) (locs : List Loc), Inv (c + 1) μC μM → q_P D dA q_kdC q_rhoC 77 z (z + 99) μC H → q_P D dA q_kdM q_rhoM 22 (z + 77) (z + 99) μM H → va_S (fun q : Nat => s.heap.size ≤ q) s.heap H locs → ∀ (ls : Array Slot), lv_has ls 4 [(0, .ref b), (1, .ref (z + 0)), (2, .ref (z + 77 + 0)), (3, .int (q_I i))] → W p l e room_1 s m #[Value.ref b] below meth c0 H locs 99 19249 (lw_Z below #[Value.ref b] s) (F0 m 1297 ls [])) : W p l e room_1 s m #[Value.ref b] below meth c0 H locs 99 19249 (lw_Z below #[Value.ref b] s) (F0 m 543 ls []) := by
  obtain ⟨hx, hb, hr, hml, hown, hts0, hX, hbl, hlocks, hgv⟩ := id C0
  have hts : ∀ w ∈ q_W, w.before #[Value.ref b] s = true := fun w hw => hts0 w (List.mem_filter.mp hw).1
  have hbA : ¬ (fun q : Nat => s.heap.size ≤ q) b := Nat.not_le.mpr hbl
  have hAC : ∀ q, q_A z 77 q → (fun q : Nat => s.heap.size ≤ q) q := fun q h => by rw [← hz]; exact h.1
  have hAM : ∀ q, q_A (z + 77) 22 q → (fun q : Nat => s.heap.size ≤ q) q := fun q h => by rw [← hz]; exact Nat.le_trans (Nat.le_add_right z 77) h.1
  obtain ⟨r, h1, h2, hI2⟩ := hs9 c μC μM hc hI _ (q_rI (xs (i + 1).toNat)) _ (q_rI (xs (i + 2).toNat))
  refine lv_aload_n hx hb dL_law_543 rfl (lv_at hl 1 rfl) ?_
  refine lv_aload_n hx hb dL_law_544 rfl (lv_at hl 0 rfl) ?_
  refine lv_iload_n hx hb dL_law_545 rfl (lv_at hl 3 rfl) ?_
  refine lv_iconst (v := q_I 1) hx hb dL_law_546 rfl ?_
  refine lv_iadd hx hb dL_law_547 ?_
  rw [q_addI]
  refine q_sld (i := i + 1) hx hb hX hbl hbA hS ⟨by omega, by omega⟩ (by omega) (by omega) dL_law_548 ?_
  refine lv_aload_n hx hb dL_law_549 rfl (lv_at hl 0 rfl) ?_
  refine lv_iload_n hx hb dL_law_550 rfl (lv_at hl 3 rfl) ?_
  refine lv_iconst (v := q_I 2) hx hb dL_law_551 rfl ?_
  refine lv_iadd hx hb dL_law_552 ?_
  rw [q_addI]
  refine q_sld (i := i + 2) hx hb hX hbl hbA hS ⟨by omega, by omega⟩ (by omega) (by omega) dL_law_553 ?_
  refine q_callV hx hb hml hts hown hK hPC hS (As := [.int (q_I (xs (i + 1).toNat).toInt), .int (q_I (xs (i + 2).toNat).toInt)]) (rest := []) (st1 := .int (q_I r) :: []) cv_RL_53 (c_CR_order l D dA (q_rI _) (q_rI _) h1) (Nat.le_of_ble_eq_true rfl) q_kdC_0 rfl ⟨rfl, rfl, Nat.le_of_ble_eq_true rfl, Nat.le_of_ble_eq_true rfl⟩ ⟨Nat.le_of_ble_eq_true rfl, Nat.le_of_ble_eq_true rfl⟩ rfl hl.1 rfl (Nat.le_of_ble_eq_true rfl) rfl hAC dL_law_554 ?_
  clear hS; intro H1 locs _ hPC1 hS hF
  replace hPM := hPM.keep hPC1.1 (fun k hk => hF _ (hPM.lt2 hk) (by rintro ⟨u1, u2⟩; omega))
  clear hF
  refine lv_aload_n hx hb dL_law_557 rfl (lv_at hl 2 rfl) ?_
  refine lv_aload_n hx hb dL_law_558 rfl (lv_at hl 0 rfl) ?_
  refine lv_iload_n hx hb dL_law_559 rfl (lv_at hl 3 rfl) ?_
  refine lv_iconst (v := q_I 1) hx hb dL_law_560 rfl ?_
  refine lv_iadd hx hb dL_law_561 ?_
  rw [q_addI]
  refine q_sld (i := i + 1) hx hb hX hbl hbA hS ⟨by omega, by omega⟩ (by omega) (by omega) dL_law_562 ?_
  refine lv_aload_n hx hb dL_law_563 rfl (lv_at hl 0 rfl) ?_
  refine lv_iload_n hx hb dL_law_564 rfl (lv_at hl 3 rfl) ?_
  refine lv_iconst (v := q_I 2) hx hb dL_law_565 rfl ?_
  refine lv_iadd hx hb dL_law_566 ?_
  rw [q_addI]
  refine q_sld (i := i + 2) hx hb hX hbl hbA hS ⟨by omega, by omega⟩ (by omega) (by omega) dL_law_567 ?_
  refine q_callV hx hb hml hts hown hK hPM hS (As := [.int (q_I (xs (i + 1).toNat).toInt), .int (q_I (xs (i + 2).toNat).toInt)]) (rest := [.int (q_I r)]) (st1 := .int (q_I r) :: [.int (q_I r)]) cv_RL_56 (c_M_order l D dA (q_rI _) (q_rI _) h2) (Nat.le_of_ble_eq_true rfl) q_kdM_0 rfl ⟨rfl, rfl, Nat.le_of_ble_eq_true rfl, Nat.le_of_ble_eq_true rfl⟩ ⟨Nat.le_of_ble_eq_true rfl, Nat.le_of_ble_eq_true rfl⟩ rfl hl.1 rfl (Nat.le_of_ble_eq_true rfl) rfl hAM dL_law_568 ?_
  clear hS; intro H2 locs _ hPM1 hS hF
  replace hPC1 := hPC1.keep hPM1.1 (fun k hk => hF _ (hPC1.lt2 hk) (by rintro ⟨u1, u2⟩; omega))
  refine lv_icmp_eq (tgt := 1297) hx hb dL_law_571 (by decide) (fun _ => ?_) (fun q => absurd rfl q)
  exact hnext _ _ _ _ hI2 hPC1 hPM1 hS ls hl
set_option maxHeartbeats 8000000 in
set_option maxRecDepth 100000 in
theorem q_law_count {p : Program} {l : Launch} {e : Env} {s : State} {m : MethodId} {below : List Frame} {meth : Method} {c0 : Code} {D : va_G} {dA : Nat → ClassId} {b L : Nat} {xs : Nat → Int32} (C0 : lw_At p s m meth c0 b L xs) (hK : q_K D dA s) {N : Nat} {Inv : Nat → q_M → q_M → Prop} (hs10 : q_st_count N Inv) {z : Nat} (hz : z = s.heap.size) {i : Int} (hi0 : 0 ≤ i) (hi1 : i ≤ (L : Int) - 5) (hL : L ≤ 2560) {c : Nat} (hc : c < 512) {μC μM : q_M} {H : Heap} {locs : List Loc} (hI : Inv c μC μM) (hPC : q_P D dA q_kdC q_rhoC 77 z (z + 99) μC H) (hPM : q_P D dA q_kdM q_rhoM 22 (z + 77) (z + 99) μM H) (hS : va_S (fun q : Nat => s.heap.size ≤ q) s.heap H locs) {ls : Array Slot} (hl : lv_has ls 4 [(0, .ref b), (1, .ref (z + 0)), (2, .ref (z + 77 + 0)), (3, .int (q_I i))])
    (hnext : ∀ (μC μM : q_M) (H : Heap) (locs : List Loc), Inv (c + 1) μC μM → q_P D dA q_kdC q_rhoC 77 z (z + 99) μC H → q_P D dA q_kdM q_rhoM 22 (z + 77) (z + 99) μM H → va_S (fun q : Nat => s.heap.size ≤ q) s.heap H locs → ∀ (ls : Array Slot), lv_has ls 4 [(0, .ref b), (1, .ref (z + 0)), (2, .ref (z + 77 + 0)), (3, .int (q_I i))] → W p l e room_1 s m #[Value.ref b] below meth c0 H locs 99 19249 (lw_Z below #[Value.ref b] s) (F0 m 1297 ls [])) : W p l e room_1 s m #[Value.ref b] below meth c0 H locs 99 19249 (lw_Z below #[Value.ref b] s) (F0 m 576 ls []) := by
  obtain ⟨hx, hb, hr, hml, hown, hts0, hX, hbl, hlocks, hgv⟩ := id C0
  have hts : ∀ w ∈ q_W, w.before #[Value.ref b] s = true := fun w hw => hts0 w (List.mem_filter.mp hw).1
  have hbA : ¬ (fun q : Nat => s.heap.size ≤ q) b := Nat.not_le.mpr hbl
  have hAC : ∀ q, q_A z 77 q → (fun q : Nat => s.heap.size ≤ q) q := fun q h => by rw [← hz]; exact h.1
  have hAM : ∀ q, q_A (z + 77) 22 q → (fun q : Nat => s.heap.size ≤ q) q := fun q h => by rw [← hz]; exact Nat.le_trans (Nat.le_add_right z 77) h.1
  obtain ⟨r, h1, h2, hI2⟩ := hs10 c μC μM hc hI _ (q_rI (xs (i + 1).toNat))
  refine lv_aload_n hx hb dL_law_576 rfl (lv_at hl 1 rfl) ?_
  refine lv_aload_n hx hb dL_law_577 rfl (lv_at hl 0 rfl) ?_
  refine lv_iload_n hx hb dL_law_578 rfl (lv_at hl 3 rfl) ?_
  refine lv_iconst (v := q_I 1) hx hb dL_law_579 rfl ?_
  refine lv_iadd hx hb dL_law_580 ?_
  rw [q_addI]
  refine q_sld (i := i + 1) hx hb hX hbl hbA hS ⟨by omega, by omega⟩ (by omega) (by omega) dL_law_581 ?_
  refine q_callV hx hb hml hts hown hK hPC hS (As := [.int (q_I (xs (i + 1).toNat).toInt)]) (rest := []) (st1 := .int (q_I r) :: []) cv_RL_57 (c_CR_count l D dA (q_rI _) h1) (Nat.le_of_ble_eq_true rfl) q_kdC_0 rfl ⟨rfl, rfl, Nat.le_of_ble_eq_true rfl, Nat.le_of_ble_eq_true rfl⟩ ⟨Nat.le_of_ble_eq_true rfl, Nat.le_of_ble_eq_true rfl⟩ rfl hl.1 rfl (Nat.le_of_ble_eq_true rfl) rfl hAC dL_law_582 ?_
  clear hS; intro H1 locs _ hPC1 hS hF
  replace hPM := hPM.keep hPC1.1 (fun k hk => hF _ (hPM.lt2 hk) (by rintro ⟨u1, u2⟩; omega))
  clear hF
  refine lv_aload_n hx hb dL_law_585 rfl (lv_at hl 2 rfl) ?_
  refine lv_aload_n hx hb dL_law_586 rfl (lv_at hl 0 rfl) ?_
  refine lv_iload_n hx hb dL_law_587 rfl (lv_at hl 3 rfl) ?_
  refine lv_iconst (v := q_I 1) hx hb dL_law_588 rfl ?_
  refine lv_iadd hx hb dL_law_589 ?_
  rw [q_addI]
  refine q_sld (i := i + 1) hx hb hX hbl hbA hS ⟨by omega, by omega⟩ (by omega) (by omega) dL_law_590 ?_
  refine q_callV hx hb hml hts hown hK hPM hS (As := [.int (q_I (xs (i + 1).toNat).toInt)]) (rest := [.int (q_I r)]) (st1 := .int (q_I r) :: [.int (q_I r)]) cv_RL_60 (c_M_count l D dA (q_rI _) h2) (Nat.le_of_ble_eq_true rfl) q_kdM_0 rfl ⟨rfl, rfl, Nat.le_of_ble_eq_true rfl, Nat.le_of_ble_eq_true rfl⟩ ⟨Nat.le_of_ble_eq_true rfl, Nat.le_of_ble_eq_true rfl⟩ rfl hl.1 rfl (Nat.le_of_ble_eq_true rfl) rfl hAM dL_law_591 ?_
  clear hS; intro H2 locs _ hPM1 hS hF
  replace hPC1 := hPC1.keep hPM1.1 (fun k hk => hF _ (hPC1.lt2 hk) (by rintro ⟨u1, u2⟩; omega))
  refine lv_icmp_eq (tgt := 1297) hx hb dL_law_594 (by decide) (fun _ => ?_) (fun q => absurd rfl q)
  exact hnext _ _ _ _ hI2 hPC1 hPM1 hS ls hl
set_option maxHeartbeats 8000000 in
set_option maxRecDepth 100000 in
theorem q_law_eventsOf {p : Program} {l : Launch} {e : Env} {s : State} {m : MethodId} {below : List Frame} {meth : Method} {c0 : Code} {D : va_G} {dA : Nat → ClassId} {b L : Nat} {xs : Nat → Int32} (C0 : lw_At p s m meth c0 b L xs) (hK : q_K D dA s) {N : Nat} {Inv : Nat → q_M → q_M → Prop} (hs11 : q_st_eventsOf N Inv) {z : Nat} (hz : z = s.heap.size) {i : Int} (hi0 : 0 ≤ i) (hi1 : i ≤ (L : Int) - 5) (hL : L ≤ 2560) {c : Nat} (hc : c < 512) {μC μM : q_M} {H : Heap} {locs : List Loc} (hI : Inv c μC μM) (hPC : q_P D dA q_kdC q_rhoC 77 z (z + 99) μC H) (hPM : q_P D dA q_kdM q_rhoM 22 (z + 77) (z + 99) μM H) (hS : va_S (fun q : Nat => s.heap.size ≤ q) s.heap H locs) {ls : Array Slot} (hl : lv_has ls 4 [(0, .ref b), (1, .ref (z + 0)), (2, .ref (z + 77 + 0)), (3, .int (q_I i))])
    (hnext : ∀ (μC μM : q_M) (H : Heap) (locs : List Loc), Inv (c + 1) μC μM → q_P D dA q_kdC q_rhoC 77 z (z + 99) μC H → q_P D dA q_kdM q_rhoM 22 (z + 77) (z + 99) μM H → va_S (fun q : Nat => s.heap.size ≤ q) s.heap H locs → ∀ (ls : Array Slot), lv_has ls 4 [(0, .ref b), (1, .ref (z + 0)), (2, .ref (z + 77 + 0)), (3, .int (q_I i))] → W p l e room_1 s m #[Value.ref b] below meth c0 H locs 99 19249 (lw_Z below #[Value.ref b] s) (F0 m 1297 ls [])) : W p l e room_1 s m #[Value.ref b] below meth c0 H locs 99 19249 (lw_Z below #[Value.ref b] s) (F0 m 599 ls []) := by
  obtain ⟨hx, hb, hr, hml, hown, hts0, hX, hbl, hlocks, hgv⟩ := id C0
  have hts : ∀ w ∈ q_W, w.before #[Value.ref b] s = true := fun w hw => hts0 w (List.mem_filter.mp hw).1
  have hbA : ¬ (fun q : Nat => s.heap.size ≤ q) b := Nat.not_le.mpr hbl
  have hAC : ∀ q, q_A z 77 q → (fun q : Nat => s.heap.size ≤ q) q := fun q h => by rw [← hz]; exact h.1
  have hAM : ∀ q, q_A (z + 77) 22 q → (fun q : Nat => s.heap.size ≤ q) q := fun q h => by rw [← hz]; exact Nat.le_trans (Nat.le_add_right z 77) h.1
  obtain ⟨r, h1, h2, hI2⟩ := hs11 c μC μM hc hI _ (q_rI (xs (i + 1).toNat))
  refine lv_aload_n hx hb dL_law_599 rfl (lv_at hl 1 rfl) ?_
  refine lv_aload_n hx hb dL_law_600 rfl (lv_at hl 0 rfl) ?_
  refine lv_iload_n hx hb dL_law_601 rfl (lv_at hl 3 rfl) ?_
  refine lv_iconst (v := q_I 1) hx hb dL_law_602 rfl ?_
  refine lv_iadd hx hb dL_law_603 ?_
  rw [q_addI]
  refine q_sld (i := i + 1) hx hb hX hbl hbA hS ⟨by omega, by omega⟩ (by omega) (by omega) dL_law_604 ?_
  refine q_callV hx hb hml hts hown hK hPC hS (As := [.int (q_I (xs (i + 1).toNat).toInt)]) (rest := []) (st1 := .int (q_I r) :: []) cv_RL_61 (c_CR_eventsOf l D dA (q_rI _) h1) (Nat.le_of_ble_eq_true rfl) q_kdC_0 rfl ⟨rfl, rfl, Nat.le_of_ble_eq_true rfl, Nat.le_of_ble_eq_true rfl⟩ ⟨Nat.le_of_ble_eq_true rfl, Nat.le_of_ble_eq_true rfl⟩ rfl hl.1 rfl (Nat.le_of_ble_eq_true rfl) rfl hAC dL_law_605 ?_
  clear hS; intro H1 locs _ hPC1 hS hF
  replace hPM := hPM.keep hPC1.1 (fun k hk => hF _ (hPM.lt2 hk) (by rintro ⟨u1, u2⟩; omega))
  clear hF
  refine lv_aload_n hx hb dL_law_608 rfl (lv_at hl 2 rfl) ?_
  refine lv_aload_n hx hb dL_law_609 rfl (lv_at hl 0 rfl) ?_
  refine lv_iload_n hx hb dL_law_610 rfl (lv_at hl 3 rfl) ?_
  refine lv_iconst (v := q_I 1) hx hb dL_law_611 rfl ?_
  refine lv_iadd hx hb dL_law_612 ?_
  rw [q_addI]
  refine q_sld (i := i + 1) hx hb hX hbl hbA hS ⟨by omega, by omega⟩ (by omega) (by omega) dL_law_613 ?_
  refine q_callV hx hb hml hts hown hK hPM hS (As := [.int (q_I (xs (i + 1).toNat).toInt)]) (rest := [.int (q_I r)]) (st1 := .int (q_I r) :: [.int (q_I r)]) cv_RL_64 (c_M_eventsOf l D dA (q_rI _) h2) (Nat.le_of_ble_eq_true rfl) q_kdM_0 rfl ⟨rfl, rfl, Nat.le_of_ble_eq_true rfl, Nat.le_of_ble_eq_true rfl⟩ ⟨Nat.le_of_ble_eq_true rfl, Nat.le_of_ble_eq_true rfl⟩ rfl hl.1 rfl (Nat.le_of_ble_eq_true rfl) rfl hAM dL_law_614 ?_
  clear hS; intro H2 locs _ hPM1 hS hF
  replace hPC1 := hPC1.keep hPM1.1 (fun k hk => hF _ (hPC1.lt2 hk) (by rintro ⟨u1, u2⟩; omega))
  refine lv_icmp_eq (tgt := 1297) hx hb dL_law_617 (by decide) (fun _ => ?_) (fun q => absurd rfl q)
  exact hnext _ _ _ _ hI2 hPC1 hPM1 hS ls hl
set_option maxHeartbeats 8000000 in
set_option maxRecDepth 100000 in
theorem q_law_beginSnapshot {p : Program} {l : Launch} {e : Env} {s : State} {m : MethodId} {below : List Frame} {meth : Method} {c0 : Code} {D : va_G} {dA : Nat → ClassId} {b L : Nat} {xs : Nat → Int32} (C0 : lw_At p s m meth c0 b L xs) (hK : q_K D dA s) {N : Nat} {Inv : Nat → q_M → q_M → Prop} (hs12 : q_st_beginSnapshot N Inv) {z : Nat} (hz : z = s.heap.size) {i : Int} (hi0 : 0 ≤ i) (hi1 : i ≤ (L : Int) - 5) (hL : L ≤ 2560) {c : Nat} (hc : c < 512) {μC μM : q_M} {H : Heap} {locs : List Loc} (hI : Inv c μC μM) (hPC : q_P D dA q_kdC q_rhoC 77 z (z + 99) μC H) (hPM : q_P D dA q_kdM q_rhoM 22 (z + 77) (z + 99) μM H) (hS : va_S (fun q : Nat => s.heap.size ≤ q) s.heap H locs) {ls : Array Slot} (hl : lv_has ls 4 [(0, .ref b), (1, .ref (z + 0)), (2, .ref (z + 77 + 0)), (3, .int (q_I i))])
    (hnext : ∀ (μC μM : q_M) (H : Heap) (locs : List Loc), Inv (c + 1) μC μM → q_P D dA q_kdC q_rhoC 77 z (z + 99) μC H → q_P D dA q_kdM q_rhoM 22 (z + 77) (z + 99) μM H → va_S (fun q : Nat => s.heap.size ≤ q) s.heap H locs → ∀ (ls : Array Slot), lv_has ls 4 [(0, .ref b), (1, .ref (z + 0)), (2, .ref (z + 77 + 0)), (3, .int (q_I i))] → W p l e room_1 s m #[Value.ref b] below meth c0 H locs 99 19249 (lw_Z below #[Value.ref b] s) (F0 m 1297 ls [])) : W p l e room_1 s m #[Value.ref b] below meth c0 H locs 99 19249 (lw_Z below #[Value.ref b] s) (F0 m 622 ls []) := by
  obtain ⟨hx, hb, hr, hml, hown, hts0, hX, hbl, hlocks, hgv⟩ := id C0
  have hts : ∀ w ∈ q_W, w.before #[Value.ref b] s = true := fun w hw => hts0 w (List.mem_filter.mp hw).1
  have hbA : ¬ (fun q : Nat => s.heap.size ≤ q) b := Nat.not_le.mpr hbl
  have hAC : ∀ q, q_A z 77 q → (fun q : Nat => s.heap.size ≤ q) q := fun q h => by rw [← hz]; exact h.1
  have hAM : ∀ q, q_A (z + 77) 22 q → (fun q : Nat => s.heap.size ≤ q) q := fun q h => by rw [← hz]; exact Nat.le_trans (Nat.le_add_right z 77) h.1
  obtain ⟨r, μ1, μ2, h1, h2, hI2⟩ := hs12 c μC μM hc hI _ (q_rI (xs (i + 1).toNat))
  refine lv_aload_n hx hb dL_law_622 rfl (lv_at hl 1 rfl) ?_
  refine lv_aload_n hx hb dL_law_623 rfl (lv_at hl 0 rfl) ?_
  refine lv_iload_n hx hb dL_law_624 rfl (lv_at hl 3 rfl) ?_
  refine lv_iconst (v := q_I 1) hx hb dL_law_625 rfl ?_
  refine lv_iadd hx hb dL_law_626 ?_
  rw [q_addI]
  refine q_sld (i := i + 1) hx hb hX hbl hbA hS ⟨by omega, by omega⟩ (by omega) (by omega) dL_law_627 ?_
  refine q_callV hx hb hml hts hown hK hPC hS (As := [.int (q_I (xs (i + 1).toNat).toInt)]) (rest := []) (st1 := .int (q_I r) :: []) cv_RL_65 (c_CR_beginSnapshot l D dA (q_rI _) h1) (Nat.le_of_ble_eq_true rfl) q_kdC_0 rfl ⟨rfl, rfl, Nat.le_of_ble_eq_true rfl, Nat.le_of_ble_eq_true rfl⟩ ⟨Nat.le_of_ble_eq_true rfl, Nat.le_of_ble_eq_true rfl⟩ rfl hl.1 rfl (Nat.le_of_ble_eq_true rfl) rfl hAC dL_law_628 ?_
  clear hS; intro H1 locs _ hPC1 hS hF
  replace hPM := hPM.keep hPC1.1 (fun k hk => hF _ (hPM.lt2 hk) (by rintro ⟨u1, u2⟩; omega))
  clear hF
  refine lv_aload_n hx hb dL_law_631 rfl (lv_at hl 2 rfl) ?_
  refine lv_aload_n hx hb dL_law_632 rfl (lv_at hl 0 rfl) ?_
  refine lv_iload_n hx hb dL_law_633 rfl (lv_at hl 3 rfl) ?_
  refine lv_iconst (v := q_I 1) hx hb dL_law_634 rfl ?_
  refine lv_iadd hx hb dL_law_635 ?_
  rw [q_addI]
  refine q_sld (i := i + 1) hx hb hX hbl hbA hS ⟨by omega, by omega⟩ (by omega) (by omega) dL_law_636 ?_
  refine q_callV hx hb hml hts hown hK hPM hS (As := [.int (q_I (xs (i + 1).toNat).toInt)]) (rest := [.int (q_I r)]) (st1 := .int (q_I r) :: [.int (q_I r)]) cv_RL_68 (c_M_beginSnapshot l D dA (q_rI _) h2) (Nat.le_of_ble_eq_true rfl) q_kdM_0 rfl ⟨rfl, rfl, Nat.le_of_ble_eq_true rfl, Nat.le_of_ble_eq_true rfl⟩ ⟨Nat.le_of_ble_eq_true rfl, Nat.le_of_ble_eq_true rfl⟩ rfl hl.1 rfl (Nat.le_of_ble_eq_true rfl) rfl hAM dL_law_637 ?_
  clear hS; intro H2 locs _ hPM1 hS hF
  replace hPC1 := hPC1.keep hPM1.1 (fun k hk => hF _ (hPC1.lt2 hk) (by rintro ⟨u1, u2⟩; omega))
  refine lv_icmp_eq (tgt := 1297) hx hb dL_law_640 (by decide) (fun _ => ?_) (fun q => absurd rfl q)
  exact hnext _ _ _ _ hI2 hPC1 hPM1 hS ls hl
set_option maxHeartbeats 8000000 in
set_option maxRecDepth 100000 in
theorem q_law_abandonSnapshot {p : Program} {l : Launch} {e : Env} {s : State} {m : MethodId} {below : List Frame} {meth : Method} {c0 : Code} {D : va_G} {dA : Nat → ClassId} {b L : Nat} {xs : Nat → Int32} (C0 : lw_At p s m meth c0 b L xs) (hK : q_K D dA s) {N : Nat} {Inv : Nat → q_M → q_M → Prop} (hs13 : q_st_abandonSnapshot N Inv) {z : Nat} (hz : z = s.heap.size) {i : Int} (hi0 : 0 ≤ i) (hi1 : i ≤ (L : Int) - 5) (hL : L ≤ 2560) {c : Nat} (hc : c < 512) {μC μM : q_M} {H : Heap} {locs : List Loc} (hI : Inv c μC μM) (hPC : q_P D dA q_kdC q_rhoC 77 z (z + 99) μC H) (hPM : q_P D dA q_kdM q_rhoM 22 (z + 77) (z + 99) μM H) (hS : va_S (fun q : Nat => s.heap.size ≤ q) s.heap H locs) {ls : Array Slot} (hl : lv_has ls 4 [(0, .ref b), (1, .ref (z + 0)), (2, .ref (z + 77 + 0)), (3, .int (q_I i))])
    (hnext : ∀ (μC μM : q_M) (H : Heap) (locs : List Loc), Inv (c + 1) μC μM → q_P D dA q_kdC q_rhoC 77 z (z + 99) μC H → q_P D dA q_kdM q_rhoM 22 (z + 77) (z + 99) μM H → va_S (fun q : Nat => s.heap.size ≤ q) s.heap H locs → ∀ (ls : Array Slot), lv_has ls 4 [(0, .ref b), (1, .ref (z + 0)), (2, .ref (z + 77 + 0)), (3, .int (q_I i))] → W p l e room_1 s m #[Value.ref b] below meth c0 H locs 99 19249 (lw_Z below #[Value.ref b] s) (F0 m 1297 ls [])) : W p l e room_1 s m #[Value.ref b] below meth c0 H locs 99 19249 (lw_Z below #[Value.ref b] s) (F0 m 645 ls []) := by
  obtain ⟨hx, hb, hr, hml, hown, hts0, hX, hbl, hlocks, hgv⟩ := id C0
  have hts : ∀ w ∈ q_W, w.before #[Value.ref b] s = true := fun w hw => hts0 w (List.mem_filter.mp hw).1
  have hbA : ¬ (fun q : Nat => s.heap.size ≤ q) b := Nat.not_le.mpr hbl
  have hAC : ∀ q, q_A z 77 q → (fun q : Nat => s.heap.size ≤ q) q := fun q h => by rw [← hz]; exact h.1
  have hAM : ∀ q, q_A (z + 77) 22 q → (fun q : Nat => s.heap.size ≤ q) q := fun q h => by rw [← hz]; exact Nat.le_trans (Nat.le_add_right z 77) h.1
  obtain ⟨r, μ1, μ2, h1, h2, hI2⟩ := hs13 c μC μM hc hI 
  refine lv_aload_n hx hb dL_law_645 rfl (lv_at hl 1 rfl) ?_
  refine q_callV hx hb hml hts hown hK hPC hS (As := []) (rest := []) (st1 := .int (q_I r) :: []) cv_RL_69 (c_CR_abandonSnapshot l D dA  h1) (Nat.le_of_ble_eq_true rfl) q_kdC_0 rfl ⟨rfl, rfl, Nat.le_of_ble_eq_true rfl, Nat.le_of_ble_eq_true rfl⟩ ⟨Nat.le_of_ble_eq_true rfl, Nat.le_of_ble_eq_true rfl⟩ rfl hl.1 rfl (Nat.le_of_ble_eq_true rfl) rfl hAC dL_law_646 ?_
  clear hS; intro H1 locs _ hPC1 hS hF
  replace hPM := hPM.keep hPC1.1 (fun k hk => hF _ (hPM.lt2 hk) (by rintro ⟨u1, u2⟩; omega))
  clear hF
  refine lv_aload_n hx hb dL_law_649 rfl (lv_at hl 2 rfl) ?_
  refine q_callV hx hb hml hts hown hK hPM hS (As := []) (rest := [.int (q_I r)]) (st1 := .int (q_I r) :: [.int (q_I r)]) cv_RL_73 (c_M_abandonSnapshot l D dA  h2) (Nat.le_of_ble_eq_true rfl) q_kdM_0 rfl ⟨rfl, rfl, Nat.le_of_ble_eq_true rfl, Nat.le_of_ble_eq_true rfl⟩ ⟨Nat.le_of_ble_eq_true rfl, Nat.le_of_ble_eq_true rfl⟩ rfl hl.1 rfl (Nat.le_of_ble_eq_true rfl) rfl hAM dL_law_650 ?_
  clear hS; intro H2 locs _ hPM1 hS hF
  replace hPC1 := hPC1.keep hPM1.1 (fun k hk => hF _ (hPC1.lt2 hk) (by rintro ⟨u1, u2⟩; omega))
  refine lv_icmp_eq (tgt := 1297) hx hb dL_law_653 (by decide) (fun _ => ?_) (fun q => absurd rfl q)
  exact hnext _ _ _ _ hI2 hPC1 hPM1 hS ls hl
set_option maxHeartbeats 8000000 in
set_option maxRecDepth 100000 in
theorem q_law_recorded {p : Program} {l : Launch} {e : Env} {s : State} {m : MethodId} {below : List Frame} {meth : Method} {c0 : Code} {D : va_G} {dA : Nat → ClassId} {b L : Nat} {xs : Nat → Int32} (C0 : lw_At p s m meth c0 b L xs) (hK : q_K D dA s) {N : Nat} {Inv : Nat → q_M → q_M → Prop} (hs14 : q_st_recorded N Inv) {z : Nat} (hz : z = s.heap.size) {i : Int} (hi0 : 0 ≤ i) (hi1 : i ≤ (L : Int) - 5) (hL : L ≤ 2560) {c : Nat} (hc : c < 512) {μC μM : q_M} {H : Heap} {locs : List Loc} (hI : Inv c μC μM) (hPC : q_P D dA q_kdC q_rhoC 77 z (z + 99) μC H) (hPM : q_P D dA q_kdM q_rhoM 22 (z + 77) (z + 99) μM H) (hS : va_S (fun q : Nat => s.heap.size ≤ q) s.heap H locs) {ls : Array Slot} (hl : lv_has ls 4 [(0, .ref b), (1, .ref (z + 0)), (2, .ref (z + 77 + 0)), (3, .int (q_I i))])
    (hnext : ∀ (μC μM : q_M) (H : Heap) (locs : List Loc), Inv (c + 1) μC μM → q_P D dA q_kdC q_rhoC 77 z (z + 99) μC H → q_P D dA q_kdM q_rhoM 22 (z + 77) (z + 99) μM H → va_S (fun q : Nat => s.heap.size ≤ q) s.heap H locs → ∀ (ls : Array Slot), lv_has ls 4 [(0, .ref b), (1, .ref (z + 0)), (2, .ref (z + 77 + 0)), (3, .int (q_I i))] → W p l e room_1 s m #[Value.ref b] below meth c0 H locs 99 19249 (lw_Z below #[Value.ref b] s) (F0 m 1297 ls [])) : W p l e room_1 s m #[Value.ref b] below meth c0 H locs 99 19249 (lw_Z below #[Value.ref b] s) (F0 m 658 ls []) := by
  obtain ⟨hx, hb, hr, hml, hown, hts0, hX, hbl, hlocks, hgv⟩ := id C0
  have hts : ∀ w ∈ q_W, w.before #[Value.ref b] s = true := fun w hw => hts0 w (List.mem_filter.mp hw).1
  have hbA : ¬ (fun q : Nat => s.heap.size ≤ q) b := Nat.not_le.mpr hbl
  have hAC : ∀ q, q_A z 77 q → (fun q : Nat => s.heap.size ≤ q) q := fun q h => by rw [← hz]; exact h.1
  have hAM : ∀ q, q_A (z + 77) 22 q → (fun q : Nat => s.heap.size ≤ q) q := fun q h => by rw [← hz]; exact Nat.le_trans (Nat.le_add_right z 77) h.1
  obtain ⟨r, h1, h2, hI2⟩ := hs14 c μC μM hc hI _ (q_rI (xs (i + 1).toNat))
  refine lv_aload_n hx hb dL_law_658 rfl (lv_at hl 1 rfl) ?_
  refine lv_aload_n hx hb dL_law_659 rfl (lv_at hl 0 rfl) ?_
  refine lv_iload_n hx hb dL_law_660 rfl (lv_at hl 3 rfl) ?_
  refine lv_iconst (v := q_I 1) hx hb dL_law_661 rfl ?_
  refine lv_iadd hx hb dL_law_662 ?_
  rw [q_addI]
  refine q_sld (i := i + 1) hx hb hX hbl hbA hS ⟨by omega, by omega⟩ (by omega) (by omega) dL_law_663 ?_
  refine q_callV hx hb hml hts hown hK hPC hS (As := [.int (q_I (xs (i + 1).toNat).toInt)]) (rest := []) (st1 := .int (q_I r) :: []) cv_RL_74 (c_CR_recorded l D dA (q_rI _) h1) (Nat.le_of_ble_eq_true rfl) q_kdC_0 rfl ⟨rfl, rfl, Nat.le_of_ble_eq_true rfl, Nat.le_of_ble_eq_true rfl⟩ ⟨Nat.le_of_ble_eq_true rfl, Nat.le_of_ble_eq_true rfl⟩ rfl hl.1 rfl (Nat.le_of_ble_eq_true rfl) rfl hAC dL_law_664 ?_
  clear hS; intro H1 locs _ hPC1 hS hF
  replace hPM := hPM.keep hPC1.1 (fun k hk => hF _ (hPM.lt2 hk) (by rintro ⟨u1, u2⟩; omega))
  clear hF
  refine lv_aload_n hx hb dL_law_667 rfl (lv_at hl 2 rfl) ?_
  refine lv_aload_n hx hb dL_law_668 rfl (lv_at hl 0 rfl) ?_
  refine lv_iload_n hx hb dL_law_669 rfl (lv_at hl 3 rfl) ?_
  refine lv_iconst (v := q_I 1) hx hb dL_law_670 rfl ?_
  refine lv_iadd hx hb dL_law_671 ?_
  rw [q_addI]
  refine q_sld (i := i + 1) hx hb hX hbl hbA hS ⟨by omega, by omega⟩ (by omega) (by omega) dL_law_672 ?_
  refine q_callV hx hb hml hts hown hK hPM hS (As := [.int (q_I (xs (i + 1).toNat).toInt)]) (rest := [.int (q_I r)]) (st1 := .int (q_I r) :: [.int (q_I r)]) cv_RL_77 (c_M_recorded l D dA (q_rI _) h2) (Nat.le_of_ble_eq_true rfl) q_kdM_0 rfl ⟨rfl, rfl, Nat.le_of_ble_eq_true rfl, Nat.le_of_ble_eq_true rfl⟩ ⟨Nat.le_of_ble_eq_true rfl, Nat.le_of_ble_eq_true rfl⟩ rfl hl.1 rfl (Nat.le_of_ble_eq_true rfl) rfl hAM dL_law_673 ?_
  clear hS; intro H2 locs _ hPM1 hS hF
  replace hPC1 := hPC1.keep hPM1.1 (fun k hk => hF _ (hPC1.lt2 hk) (by rintro ⟨u1, u2⟩; omega))
  refine lv_icmp_eq (tgt := 1297) hx hb dL_law_676 (by decide) (fun _ => ?_) (fun q => absurd rfl q)
  exact hnext _ _ _ _ hI2 hPC1 hPM1 hS ls hl
set_option maxHeartbeats 8000000 in
set_option maxRecDepth 100000 in
theorem q_law_takeSnapshot {p : Program} {l : Launch} {e : Env} {s : State} {m : MethodId} {below : List Frame} {meth : Method} {c0 : Code} {D : va_G} {dA : Nat → ClassId} {b L : Nat} {xs : Nat → Int32} (C0 : lw_At p s m meth c0 b L xs) (hK : q_K D dA s) {N : Nat} {Inv : Nat → q_M → q_M → Prop} (hs15 : q_st_takeSnapshot N Inv) {z : Nat} (hz : z = s.heap.size) {i : Int} (hi0 : 0 ≤ i) (hi1 : i ≤ (L : Int) - 5) (hL : L ≤ 2560) {c : Nat} (hc : c < 512) {μC μM : q_M} {H : Heap} {locs : List Loc} (hI : Inv c μC μM) (hPC : q_P D dA q_kdC q_rhoC 77 z (z + 99) μC H) (hPM : q_P D dA q_kdM q_rhoM 22 (z + 77) (z + 99) μM H) (hS : va_S (fun q : Nat => s.heap.size ≤ q) s.heap H locs) {ls : Array Slot} (hl : lv_has ls 4 [(0, .ref b), (1, .ref (z + 0)), (2, .ref (z + 77 + 0)), (3, .int (q_I i))])
    (hnext : ∀ (μC μM : q_M) (H : Heap) (locs : List Loc), Inv (c + 1) μC μM → q_P D dA q_kdC q_rhoC 77 z (z + 99) μC H → q_P D dA q_kdM q_rhoM 22 (z + 77) (z + 99) μM H → va_S (fun q : Nat => s.heap.size ≤ q) s.heap H locs → ∀ (ls : Array Slot), lv_has ls 4 [(0, .ref b), (1, .ref (z + 0)), (2, .ref (z + 77 + 0)), (3, .int (q_I i))] → W p l e room_1 s m #[Value.ref b] below meth c0 H locs 99 19249 (lw_Z below #[Value.ref b] s) (F0 m 1297 ls [])) : W p l e room_1 s m #[Value.ref b] below meth c0 H locs 99 19249 (lw_Z below #[Value.ref b] s) (F0 m 681 ls []) := by
  obtain ⟨hx, hb, hr, hml, hown, hts0, hX, hbl, hlocks, hgv⟩ := id C0
  have hts : ∀ w ∈ q_W, w.before #[Value.ref b] s = true := fun w hw => hts0 w (List.mem_filter.mp hw).1
  have hbA : ¬ (fun q : Nat => s.heap.size ≤ q) b := Nat.not_le.mpr hbl
  have hAC : ∀ q, q_A z 77 q → (fun q : Nat => s.heap.size ≤ q) q := fun q h => by rw [← hz]; exact h.1
  have hAM : ∀ q, q_A (z + 77) 22 q → (fun q : Nat => s.heap.size ≤ q) q := fun q h => by rw [← hz]; exact Nat.le_trans (Nat.le_add_right z 77) h.1
  obtain ⟨r, μ1, μ2, h1, h2, hI2⟩ := hs15 c μC μM hc hI 
  refine lv_aload_n hx hb dL_law_681 rfl (lv_at hl 1 rfl) ?_
  refine q_callV hx hb hml hts hown hK hPC hS (As := []) (rest := []) (st1 := .int (q_I r) :: []) cv_RL_78 (c_CR_takeSnapshot l D dA  h1) (Nat.le_of_ble_eq_true rfl) q_kdC_0 rfl ⟨rfl, rfl, Nat.le_of_ble_eq_true rfl, Nat.le_of_ble_eq_true rfl⟩ ⟨Nat.le_of_ble_eq_true rfl, Nat.le_of_ble_eq_true rfl⟩ rfl hl.1 rfl (Nat.le_of_ble_eq_true rfl) rfl hAC dL_law_682 ?_
  clear hS; intro H1 locs _ hPC1 hS hF
  replace hPM := hPM.keep hPC1.1 (fun k hk => hF _ (hPM.lt2 hk) (by rintro ⟨u1, u2⟩; omega))
  clear hF
  refine lv_aload_n hx hb dL_law_685 rfl (lv_at hl 2 rfl) ?_
  refine q_callV hx hb hml hts hown hK hPM hS (As := []) (rest := [.int (q_I r)]) (st1 := .int (q_I r) :: [.int (q_I r)]) cv_RL_81 (c_M_takeSnapshot l D dA  h2) (Nat.le_of_ble_eq_true rfl) q_kdM_0 rfl ⟨rfl, rfl, Nat.le_of_ble_eq_true rfl, Nat.le_of_ble_eq_true rfl⟩ ⟨Nat.le_of_ble_eq_true rfl, Nat.le_of_ble_eq_true rfl⟩ rfl hl.1 rfl (Nat.le_of_ble_eq_true rfl) rfl hAM dL_law_686 ?_
  clear hS; intro H2 locs _ hPM1 hS hF
  replace hPC1 := hPC1.keep hPM1.1 (fun k hk => hF _ (hPC1.lt2 hk) (by rintro ⟨u1, u2⟩; omega))
  refine lv_icmp_eq (tgt := 1297) hx hb dL_law_689 (by decide) (fun _ => ?_) (fun q => absurd rfl q)
  exact hnext _ _ _ _ hI2 hPC1 hPM1 hS ls hl
set_option maxHeartbeats 8000000 in
set_option maxRecDepth 100000 in
theorem q_law_setCut {p : Program} {l : Launch} {e : Env} {s : State} {m : MethodId} {below : List Frame} {meth : Method} {c0 : Code} {D : va_G} {dA : Nat → ClassId} {b L : Nat} {xs : Nat → Int32} (C0 : lw_At p s m meth c0 b L xs) (hK : q_K D dA s) {N : Nat} {Inv : Nat → q_M → q_M → Prop} (hs16 : q_st_setCut N Inv) {z : Nat} (hz : z = s.heap.size) {i : Int} (hi0 : 0 ≤ i) (hi1 : i ≤ (L : Int) - 5) (hL : L ≤ 2560) {c : Nat} (hc : c < 512) {μC μM : q_M} {H : Heap} {locs : List Loc} (hI : Inv c μC μM) (hPC : q_P D dA q_kdC q_rhoC 77 z (z + 99) μC H) (hPM : q_P D dA q_kdM q_rhoM 22 (z + 77) (z + 99) μM H) (hS : va_S (fun q : Nat => s.heap.size ≤ q) s.heap H locs) {ls : Array Slot} (hl : lv_has ls 4 [(0, .ref b), (1, .ref (z + 0)), (2, .ref (z + 77 + 0)), (3, .int (q_I i))])
    (hnext : ∀ (μC μM : q_M) (H : Heap) (locs : List Loc), Inv (c + 1) μC μM → q_P D dA q_kdC q_rhoC 77 z (z + 99) μC H → q_P D dA q_kdM q_rhoM 22 (z + 77) (z + 99) μM H → va_S (fun q : Nat => s.heap.size ≤ q) s.heap H locs → ∀ (ls : Array Slot), lv_has ls 4 [(0, .ref b), (1, .ref (z + 0)), (2, .ref (z + 77 + 0)), (3, .int (q_I i))] → W p l e room_1 s m #[Value.ref b] below meth c0 H locs 99 19249 (lw_Z below #[Value.ref b] s) (F0 m 1297 ls [])) : W p l e room_1 s m #[Value.ref b] below meth c0 H locs 99 19249 (lw_Z below #[Value.ref b] s) (F0 m 694 ls []) := by
  obtain ⟨hx, hb, hr, hml, hown, hts0, hX, hbl, hlocks, hgv⟩ := id C0
  have hts : ∀ w ∈ q_W, w.before #[Value.ref b] s = true := fun w hw => hts0 w (List.mem_filter.mp hw).1
  have hbA : ¬ (fun q : Nat => s.heap.size ≤ q) b := Nat.not_le.mpr hbl
  have hAC : ∀ q, q_A z 77 q → (fun q : Nat => s.heap.size ≤ q) q := fun q h => by rw [← hz]; exact h.1
  have hAM : ∀ q, q_A (z + 77) 22 q → (fun q : Nat => s.heap.size ≤ q) q := fun q h => by rw [← hz]; exact Nat.le_trans (Nat.le_add_right z 77) h.1
  obtain ⟨r, μ1, μ2, h1, h2, hI2⟩ := hs16 c μC μM hc hI _ (q_rI (xs (i + 1).toNat)) _ (q_rI (xs (i + 2).toNat))
  refine lv_aload_n hx hb dL_law_694 rfl (lv_at hl 1 rfl) ?_
  refine lv_aload_n hx hb dL_law_695 rfl (lv_at hl 0 rfl) ?_
  refine lv_iload_n hx hb dL_law_696 rfl (lv_at hl 3 rfl) ?_
  refine lv_iconst (v := q_I 1) hx hb dL_law_697 rfl ?_
  refine lv_iadd hx hb dL_law_698 ?_
  rw [q_addI]
  refine q_sld (i := i + 1) hx hb hX hbl hbA hS ⟨by omega, by omega⟩ (by omega) (by omega) dL_law_699 ?_
  refine lv_aload_n hx hb dL_law_700 rfl (lv_at hl 0 rfl) ?_
  refine lv_iload_n hx hb dL_law_701 rfl (lv_at hl 3 rfl) ?_
  refine lv_iconst (v := q_I 2) hx hb dL_law_702 rfl ?_
  refine lv_iadd hx hb dL_law_703 ?_
  rw [q_addI]
  refine q_sld (i := i + 2) hx hb hX hbl hbA hS ⟨by omega, by omega⟩ (by omega) (by omega) dL_law_704 ?_
  refine q_callV hx hb hml hts hown hK hPC hS (As := [.int (q_I (xs (i + 1).toNat).toInt), .int (q_I (xs (i + 2).toNat).toInt)]) (rest := []) (st1 := .int (q_I r) :: []) cv_RL_82 (c_CR_setCut l D dA (q_rI _) (q_rI _) h1) (Nat.le_of_ble_eq_true rfl) q_kdC_0 rfl ⟨rfl, rfl, Nat.le_of_ble_eq_true rfl, Nat.le_of_ble_eq_true rfl⟩ ⟨Nat.le_of_ble_eq_true rfl, Nat.le_of_ble_eq_true rfl⟩ rfl hl.1 rfl (Nat.le_of_ble_eq_true rfl) rfl hAC dL_law_705 ?_
  clear hS; intro H1 locs _ hPC1 hS hF
  replace hPM := hPM.keep hPC1.1 (fun k hk => hF _ (hPM.lt2 hk) (by rintro ⟨u1, u2⟩; omega))
  clear hF
  refine lv_aload_n hx hb dL_law_708 rfl (lv_at hl 2 rfl) ?_
  refine lv_aload_n hx hb dL_law_709 rfl (lv_at hl 0 rfl) ?_
  refine lv_iload_n hx hb dL_law_710 rfl (lv_at hl 3 rfl) ?_
  refine lv_iconst (v := q_I 1) hx hb dL_law_711 rfl ?_
  refine lv_iadd hx hb dL_law_712 ?_
  rw [q_addI]
  refine q_sld (i := i + 1) hx hb hX hbl hbA hS ⟨by omega, by omega⟩ (by omega) (by omega) dL_law_713 ?_
  refine lv_aload_n hx hb dL_law_714 rfl (lv_at hl 0 rfl) ?_
  refine lv_iload_n hx hb dL_law_715 rfl (lv_at hl 3 rfl) ?_
  refine lv_iconst (v := q_I 2) hx hb dL_law_716 rfl ?_
  refine lv_iadd hx hb dL_law_717 ?_
  rw [q_addI]
  refine q_sld (i := i + 2) hx hb hX hbl hbA hS ⟨by omega, by omega⟩ (by omega) (by omega) dL_law_718 ?_
  refine q_callV hx hb hml hts hown hK hPM hS (As := [.int (q_I (xs (i + 1).toNat).toInt), .int (q_I (xs (i + 2).toNat).toInt)]) (rest := [.int (q_I r)]) (st1 := .int (q_I r) :: [.int (q_I r)]) cv_RL_85 (c_M_setCut l D dA (q_rI _) (q_rI _) h2) (Nat.le_of_ble_eq_true rfl) q_kdM_0 rfl ⟨rfl, rfl, Nat.le_of_ble_eq_true rfl, Nat.le_of_ble_eq_true rfl⟩ ⟨Nat.le_of_ble_eq_true rfl, Nat.le_of_ble_eq_true rfl⟩ rfl hl.1 rfl (Nat.le_of_ble_eq_true rfl) rfl hAM dL_law_719 ?_
  clear hS; intro H2 locs _ hPM1 hS hF
  replace hPC1 := hPC1.keep hPM1.1 (fun k hk => hF _ (hPC1.lt2 hk) (by rintro ⟨u1, u2⟩; omega))
  refine lv_icmp_eq (tgt := 1297) hx hb dL_law_722 (by decide) (fun _ => ?_) (fun q => absurd rfl q)
  exact hnext _ _ _ _ hI2 hPC1 hPM1 hS ls hl
set_option maxHeartbeats 8000000 in
set_option maxRecDepth 100000 in
theorem q_law_cut {p : Program} {l : Launch} {e : Env} {s : State} {m : MethodId} {below : List Frame} {meth : Method} {c0 : Code} {D : va_G} {dA : Nat → ClassId} {b L : Nat} {xs : Nat → Int32} (C0 : lw_At p s m meth c0 b L xs) (hK : q_K D dA s) {N : Nat} {Inv : Nat → q_M → q_M → Prop} (hs17 : q_st_cut N Inv) {z : Nat} (hz : z = s.heap.size) {i : Int} (hi0 : 0 ≤ i) (hi1 : i ≤ (L : Int) - 5) (hL : L ≤ 2560) {c : Nat} (hc : c < 512) {μC μM : q_M} {H : Heap} {locs : List Loc} (hI : Inv c μC μM) (hPC : q_P D dA q_kdC q_rhoC 77 z (z + 99) μC H) (hPM : q_P D dA q_kdM q_rhoM 22 (z + 77) (z + 99) μM H) (hS : va_S (fun q : Nat => s.heap.size ≤ q) s.heap H locs) {ls : Array Slot} (hl : lv_has ls 4 [(0, .ref b), (1, .ref (z + 0)), (2, .ref (z + 77 + 0)), (3, .int (q_I i))])
    (hnext : ∀ (μC μM : q_M) (H : Heap) (locs : List Loc), Inv (c + 1) μC μM → q_P D dA q_kdC q_rhoC 77 z (z + 99) μC H → q_P D dA q_kdM q_rhoM 22 (z + 77) (z + 99) μM H → va_S (fun q : Nat => s.heap.size ≤ q) s.heap H locs → ∀ (ls : Array Slot), lv_has ls 4 [(0, .ref b), (1, .ref (z + 0)), (2, .ref (z + 77 + 0)), (3, .int (q_I i))] → W p l e room_1 s m #[Value.ref b] below meth c0 H locs 99 19249 (lw_Z below #[Value.ref b] s) (F0 m 1297 ls [])) : W p l e room_1 s m #[Value.ref b] below meth c0 H locs 99 19249 (lw_Z below #[Value.ref b] s) (F0 m 727 ls []) := by
  obtain ⟨hx, hb, hr, hml, hown, hts0, hX, hbl, hlocks, hgv⟩ := id C0
  have hts : ∀ w ∈ q_W, w.before #[Value.ref b] s = true := fun w hw => hts0 w (List.mem_filter.mp hw).1
  have hbA : ¬ (fun q : Nat => s.heap.size ≤ q) b := Nat.not_le.mpr hbl
  have hAC : ∀ q, q_A z 77 q → (fun q : Nat => s.heap.size ≤ q) q := fun q h => by rw [← hz]; exact h.1
  have hAM : ∀ q, q_A (z + 77) 22 q → (fun q : Nat => s.heap.size ≤ q) q := fun q h => by rw [← hz]; exact Nat.le_trans (Nat.le_add_right z 77) h.1
  obtain ⟨r, h1, h2, hI2⟩ := hs17 c μC μM hc hI _ (q_rI (xs (i + 1).toNat))
  refine lv_aload_n hx hb dL_law_727 rfl (lv_at hl 1 rfl) ?_
  refine lv_aload_n hx hb dL_law_728 rfl (lv_at hl 0 rfl) ?_
  refine lv_iload_n hx hb dL_law_729 rfl (lv_at hl 3 rfl) ?_
  refine lv_iconst (v := q_I 1) hx hb dL_law_730 rfl ?_
  refine lv_iadd hx hb dL_law_731 ?_
  rw [q_addI]
  refine q_sld (i := i + 1) hx hb hX hbl hbA hS ⟨by omega, by omega⟩ (by omega) (by omega) dL_law_732 ?_
  refine q_callV hx hb hml hts hown hK hPC hS (As := [.int (q_I (xs (i + 1).toNat).toInt)]) (rest := []) (st1 := .int (q_I r) :: []) cv_RL_86 (c_CR_cut l D dA (q_rI _) h1) (Nat.le_of_ble_eq_true rfl) q_kdC_0 rfl ⟨rfl, rfl, Nat.le_of_ble_eq_true rfl, Nat.le_of_ble_eq_true rfl⟩ ⟨Nat.le_of_ble_eq_true rfl, Nat.le_of_ble_eq_true rfl⟩ rfl hl.1 rfl (Nat.le_of_ble_eq_true rfl) rfl hAC dL_law_733 ?_
  clear hS; intro H1 locs _ hPC1 hS hF
  replace hPM := hPM.keep hPC1.1 (fun k hk => hF _ (hPM.lt2 hk) (by rintro ⟨u1, u2⟩; omega))
  clear hF
  refine lv_aload_n hx hb dL_law_736 rfl (lv_at hl 2 rfl) ?_
  refine lv_aload_n hx hb dL_law_737 rfl (lv_at hl 0 rfl) ?_
  refine lv_iload_n hx hb dL_law_738 rfl (lv_at hl 3 rfl) ?_
  refine lv_iconst (v := q_I 1) hx hb dL_law_739 rfl ?_
  refine lv_iadd hx hb dL_law_740 ?_
  rw [q_addI]
  refine q_sld (i := i + 1) hx hb hX hbl hbA hS ⟨by omega, by omega⟩ (by omega) (by omega) dL_law_741 ?_
  refine q_callV hx hb hml hts hown hK hPM hS (As := [.int (q_I (xs (i + 1).toNat).toInt)]) (rest := [.int (q_I r)]) (st1 := .int (q_I r) :: [.int (q_I r)]) cv_RL_89 (c_M_cut l D dA (q_rI _) h2) (Nat.le_of_ble_eq_true rfl) q_kdM_0 rfl ⟨rfl, rfl, Nat.le_of_ble_eq_true rfl, Nat.le_of_ble_eq_true rfl⟩ ⟨Nat.le_of_ble_eq_true rfl, Nat.le_of_ble_eq_true rfl⟩ rfl hl.1 rfl (Nat.le_of_ble_eq_true rfl) rfl hAM dL_law_742 ?_
  clear hS; intro H2 locs _ hPM1 hS hF
  replace hPC1 := hPC1.keep hPM1.1 (fun k hk => hF _ (hPC1.lt2 hk) (by rintro ⟨u1, u2⟩; omega))
  refine lv_icmp_eq (tgt := 1297) hx hb dL_law_745 (by decide) (fun _ => ?_) (fun q => absurd rfl q)
  exact hnext _ _ _ _ hI2 hPC1 hPM1 hS ls hl
set_option maxHeartbeats 8000000 in
set_option maxRecDepth 100000 in
theorem q_law_orphans {p : Program} {l : Launch} {e : Env} {s : State} {m : MethodId} {below : List Frame} {meth : Method} {c0 : Code} {D : va_G} {dA : Nat → ClassId} {b L : Nat} {xs : Nat → Int32} (C0 : lw_At p s m meth c0 b L xs) (hK : q_K D dA s) {N : Nat} {Inv : Nat → q_M → q_M → Prop} (hs18 : q_st_orphans N Inv) {z : Nat} (hz : z = s.heap.size) {i : Int} (hi0 : 0 ≤ i) (hi1 : i ≤ (L : Int) - 5) (hL : L ≤ 2560) {c : Nat} (hc : c < 512) {μC μM : q_M} {H : Heap} {locs : List Loc} (hI : Inv c μC μM) (hPC : q_P D dA q_kdC q_rhoC 77 z (z + 99) μC H) (hPM : q_P D dA q_kdM q_rhoM 22 (z + 77) (z + 99) μM H) (hS : va_S (fun q : Nat => s.heap.size ≤ q) s.heap H locs) {ls : Array Slot} (hl : lv_has ls 4 [(0, .ref b), (1, .ref (z + 0)), (2, .ref (z + 77 + 0)), (3, .int (q_I i))])
    (hnext : ∀ (μC μM : q_M) (H : Heap) (locs : List Loc), Inv (c + 1) μC μM → q_P D dA q_kdC q_rhoC 77 z (z + 99) μC H → q_P D dA q_kdM q_rhoM 22 (z + 77) (z + 99) μM H → va_S (fun q : Nat => s.heap.size ≤ q) s.heap H locs → ∀ (ls : Array Slot), lv_has ls 4 [(0, .ref b), (1, .ref (z + 0)), (2, .ref (z + 77 + 0)), (3, .int (q_I i))] → W p l e room_1 s m #[Value.ref b] below meth c0 H locs 99 19249 (lw_Z below #[Value.ref b] s) (F0 m 1297 ls [])) : W p l e room_1 s m #[Value.ref b] below meth c0 H locs 99 19249 (lw_Z below #[Value.ref b] s) (F0 m 750 ls []) := by
  obtain ⟨hx, hb, hr, hml, hown, hts0, hX, hbl, hlocks, hgv⟩ := id C0
  have hts : ∀ w ∈ q_W, w.before #[Value.ref b] s = true := fun w hw => hts0 w (List.mem_filter.mp hw).1
  have hbA : ¬ (fun q : Nat => s.heap.size ≤ q) b := Nat.not_le.mpr hbl
  have hAC : ∀ q, q_A z 77 q → (fun q : Nat => s.heap.size ≤ q) q := fun q h => by rw [← hz]; exact h.1
  have hAM : ∀ q, q_A (z + 77) 22 q → (fun q : Nat => s.heap.size ≤ q) q := fun q h => by rw [← hz]; exact Nat.le_trans (Nat.le_add_right z 77) h.1
  obtain ⟨r, h1, h2, hI2⟩ := hs18 c μC μM hc hI 
  refine lv_aload_n hx hb dL_law_750 rfl (lv_at hl 1 rfl) ?_
  refine q_callV hx hb hml hts hown hK hPC hS (As := []) (rest := []) (st1 := .int (q_I r) :: []) cv_RL_90 (c_CR_orphans l D dA  h1) (Nat.le_of_ble_eq_true rfl) q_kdC_0 rfl ⟨rfl, rfl, Nat.le_of_ble_eq_true rfl, Nat.le_of_ble_eq_true rfl⟩ ⟨Nat.le_of_ble_eq_true rfl, Nat.le_of_ble_eq_true rfl⟩ rfl hl.1 rfl (Nat.le_of_ble_eq_true rfl) rfl hAC dL_law_751 ?_
  clear hS; intro H1 locs _ hPC1 hS hF
  replace hPM := hPM.keep hPC1.1 (fun k hk => hF _ (hPM.lt2 hk) (by rintro ⟨u1, u2⟩; omega))
  clear hF
  refine lv_aload_n hx hb dL_law_754 rfl (lv_at hl 2 rfl) ?_
  refine q_callV hx hb hml hts hown hK hPM hS (As := []) (rest := [.int (q_I r)]) (st1 := .int (q_I r) :: [.int (q_I r)]) cv_RL_93 (c_M_orphans l D dA  h2) (Nat.le_of_ble_eq_true rfl) q_kdM_0 rfl ⟨rfl, rfl, Nat.le_of_ble_eq_true rfl, Nat.le_of_ble_eq_true rfl⟩ ⟨Nat.le_of_ble_eq_true rfl, Nat.le_of_ble_eq_true rfl⟩ rfl hl.1 rfl (Nat.le_of_ble_eq_true rfl) rfl hAM dL_law_755 ?_
  clear hS; intro H2 locs _ hPM1 hS hF
  replace hPC1 := hPC1.keep hPM1.1 (fun k hk => hF _ (hPC1.lt2 hk) (by rintro ⟨u1, u2⟩; omega))
  refine lv_icmp_eq (tgt := 1297) hx hb dL_law_758 (by decide) (fun _ => ?_) (fun q => absurd rfl q)
  exact hnext _ _ _ _ hI2 hPC1 hPM1 hS ls hl
set_option maxHeartbeats 8000000 in
set_option maxRecDepth 100000 in
theorem q_law_lowerCut {p : Program} {l : Launch} {e : Env} {s : State} {m : MethodId} {below : List Frame} {meth : Method} {c0 : Code} {D : va_G} {dA : Nat → ClassId} {b L : Nat} {xs : Nat → Int32} (C0 : lw_At p s m meth c0 b L xs) (hK : q_K D dA s) {N : Nat} {Inv : Nat → q_M → q_M → Prop} (hs19 : q_st_lowerCut N Inv) {z : Nat} (hz : z = s.heap.size) {i : Int} (hi0 : 0 ≤ i) (hi1 : i ≤ (L : Int) - 5) (hL : L ≤ 2560) {c : Nat} (hc : c < 512) {μC μM : q_M} {H : Heap} {locs : List Loc} (hI : Inv c μC μM) (hPC : q_P D dA q_kdC q_rhoC 77 z (z + 99) μC H) (hPM : q_P D dA q_kdM q_rhoM 22 (z + 77) (z + 99) μM H) (hS : va_S (fun q : Nat => s.heap.size ≤ q) s.heap H locs) {ls : Array Slot} (hl : lv_has ls 4 [(0, .ref b), (1, .ref (z + 0)), (2, .ref (z + 77 + 0)), (3, .int (q_I i))])
    (hnext : ∀ (μC μM : q_M) (H : Heap) (locs : List Loc), Inv (c + 1) μC μM → q_P D dA q_kdC q_rhoC 77 z (z + 99) μC H → q_P D dA q_kdM q_rhoM 22 (z + 77) (z + 99) μM H → va_S (fun q : Nat => s.heap.size ≤ q) s.heap H locs → ∀ (ls : Array Slot), lv_has ls 4 [(0, .ref b), (1, .ref (z + 0)), (2, .ref (z + 77 + 0)), (3, .int (q_I i))] → W p l e room_1 s m #[Value.ref b] below meth c0 H locs 99 19249 (lw_Z below #[Value.ref b] s) (F0 m 1297 ls [])) : W p l e room_1 s m #[Value.ref b] below meth c0 H locs 99 19249 (lw_Z below #[Value.ref b] s) (F0 m 763 ls []) := by
  obtain ⟨hx, hb, hr, hml, hown, hts0, hX, hbl, hlocks, hgv⟩ := id C0
  have hts : ∀ w ∈ q_W, w.before #[Value.ref b] s = true := fun w hw => hts0 w (List.mem_filter.mp hw).1
  have hbA : ¬ (fun q : Nat => s.heap.size ≤ q) b := Nat.not_le.mpr hbl
  have hAC : ∀ q, q_A z 77 q → (fun q : Nat => s.heap.size ≤ q) q := fun q h => by rw [← hz]; exact h.1
  have hAM : ∀ q, q_A (z + 77) 22 q → (fun q : Nat => s.heap.size ≤ q) q := fun q h => by rw [← hz]; exact Nat.le_trans (Nat.le_add_right z 77) h.1
  obtain ⟨r, μ1, μ2, h1, h2, hI2⟩ := hs19 c μC μM hc hI 
  refine lv_aload_n hx hb dL_law_763 rfl (lv_at hl 1 rfl) ?_
  refine q_callV hx hb hml hts hown hK hPC hS (As := []) (rest := []) (st1 := .int (q_I r) :: []) cv_RL_94 (c_CR_lowerCut l D dA  h1) (Nat.le_of_ble_eq_true rfl) q_kdC_0 rfl ⟨rfl, rfl, Nat.le_of_ble_eq_true rfl, Nat.le_of_ble_eq_true rfl⟩ ⟨Nat.le_of_ble_eq_true rfl, Nat.le_of_ble_eq_true rfl⟩ rfl hl.1 rfl (Nat.le_of_ble_eq_true rfl) rfl hAC dL_law_764 ?_
  clear hS; intro H1 locs _ hPC1 hS hF
  replace hPM := hPM.keep hPC1.1 (fun k hk => hF _ (hPM.lt2 hk) (by rintro ⟨u1, u2⟩; omega))
  clear hF
  refine lv_aload_n hx hb dL_law_767 rfl (lv_at hl 2 rfl) ?_
  refine q_callV hx hb hml hts hown hK hPM hS (As := []) (rest := [.int (q_I r)]) (st1 := .int (q_I r) :: [.int (q_I r)]) cv_RL_97 (c_M_lowerCut l D dA  h2) (Nat.le_of_ble_eq_true rfl) q_kdM_0 rfl ⟨rfl, rfl, Nat.le_of_ble_eq_true rfl, Nat.le_of_ble_eq_true rfl⟩ ⟨Nat.le_of_ble_eq_true rfl, Nat.le_of_ble_eq_true rfl⟩ rfl hl.1 rfl (Nat.le_of_ble_eq_true rfl) rfl hAM dL_law_768 ?_
  clear hS; intro H2 locs _ hPM1 hS hF
  replace hPC1 := hPC1.keep hPM1.1 (fun k hk => hF _ (hPC1.lt2 hk) (by rintro ⟨u1, u2⟩; omega))
  refine lv_icmp_eq (tgt := 1297) hx hb dL_law_771 (by decide) (fun _ => ?_) (fun q => absurd rfl q)
  exact hnext _ _ _ _ hI2 hPC1 hPM1 hS ls hl
set_option maxHeartbeats 8000000 in
set_option maxRecDepth 100000 in
theorem q_law_raiseCut {p : Program} {l : Launch} {e : Env} {s : State} {m : MethodId} {below : List Frame} {meth : Method} {c0 : Code} {D : va_G} {dA : Nat → ClassId} {b L : Nat} {xs : Nat → Int32} (C0 : lw_At p s m meth c0 b L xs) (hK : q_K D dA s) {N : Nat} {Inv : Nat → q_M → q_M → Prop} (hs20 : q_st_raiseCut N Inv) {z : Nat} (hz : z = s.heap.size) {i : Int} (hi0 : 0 ≤ i) (hi1 : i ≤ (L : Int) - 5) (hL : L ≤ 2560) {c : Nat} (hc : c < 512) {μC μM : q_M} {H : Heap} {locs : List Loc} (hI : Inv c μC μM) (hPC : q_P D dA q_kdC q_rhoC 77 z (z + 99) μC H) (hPM : q_P D dA q_kdM q_rhoM 22 (z + 77) (z + 99) μM H) (hS : va_S (fun q : Nat => s.heap.size ≤ q) s.heap H locs) {ls : Array Slot} (hl : lv_has ls 4 [(0, .ref b), (1, .ref (z + 0)), (2, .ref (z + 77 + 0)), (3, .int (q_I i))])
    (hnext : ∀ (μC μM : q_M) (H : Heap) (locs : List Loc), Inv (c + 1) μC μM → q_P D dA q_kdC q_rhoC 77 z (z + 99) μC H → q_P D dA q_kdM q_rhoM 22 (z + 77) (z + 99) μM H → va_S (fun q : Nat => s.heap.size ≤ q) s.heap H locs → ∀ (ls : Array Slot), lv_has ls 4 [(0, .ref b), (1, .ref (z + 0)), (2, .ref (z + 77 + 0)), (3, .int (q_I i))] → W p l e room_1 s m #[Value.ref b] below meth c0 H locs 99 19249 (lw_Z below #[Value.ref b] s) (F0 m 1297 ls [])) : W p l e room_1 s m #[Value.ref b] below meth c0 H locs 99 19249 (lw_Z below #[Value.ref b] s) (F0 m 776 ls []) := by
  obtain ⟨hx, hb, hr, hml, hown, hts0, hX, hbl, hlocks, hgv⟩ := id C0
  have hts : ∀ w ∈ q_W, w.before #[Value.ref b] s = true := fun w hw => hts0 w (List.mem_filter.mp hw).1
  have hbA : ¬ (fun q : Nat => s.heap.size ≤ q) b := Nat.not_le.mpr hbl
  have hAC : ∀ q, q_A z 77 q → (fun q : Nat => s.heap.size ≤ q) q := fun q h => by rw [← hz]; exact h.1
  have hAM : ∀ q, q_A (z + 77) 22 q → (fun q : Nat => s.heap.size ≤ q) q := fun q h => by rw [← hz]; exact Nat.le_trans (Nat.le_add_right z 77) h.1
  obtain ⟨r, μ1, μ2, h1, h2, hI2⟩ := hs20 c μC μM hc hI 
  refine lv_aload_n hx hb dL_law_776 rfl (lv_at hl 1 rfl) ?_
  refine q_callV hx hb hml hts hown hK hPC hS (As := []) (rest := []) (st1 := .int (q_I r) :: []) cv_RL_98 (c_CR_raiseCut l D dA  h1) (Nat.le_of_ble_eq_true rfl) q_kdC_0 rfl ⟨rfl, rfl, Nat.le_of_ble_eq_true rfl, Nat.le_of_ble_eq_true rfl⟩ ⟨Nat.le_of_ble_eq_true rfl, Nat.le_of_ble_eq_true rfl⟩ rfl hl.1 rfl (Nat.le_of_ble_eq_true rfl) rfl hAC dL_law_777 ?_
  clear hS; intro H1 locs _ hPC1 hS hF
  replace hPM := hPM.keep hPC1.1 (fun k hk => hF _ (hPM.lt2 hk) (by rintro ⟨u1, u2⟩; omega))
  clear hF
  refine lv_aload_n hx hb dL_law_780 rfl (lv_at hl 2 rfl) ?_
  refine q_callV hx hb hml hts hown hK hPM hS (As := []) (rest := [.int (q_I r)]) (st1 := .int (q_I r) :: [.int (q_I r)]) cv_RL_101 (c_M_raiseCut l D dA  h2) (Nat.le_of_ble_eq_true rfl) q_kdM_0 rfl ⟨rfl, rfl, Nat.le_of_ble_eq_true rfl, Nat.le_of_ble_eq_true rfl⟩ ⟨Nat.le_of_ble_eq_true rfl, Nat.le_of_ble_eq_true rfl⟩ rfl hl.1 rfl (Nat.le_of_ble_eq_true rfl) rfl hAM dL_law_781 ?_
  clear hS; intro H2 locs _ hPM1 hS hF
  replace hPC1 := hPC1.keep hPM1.1 (fun k hk => hF _ (hPC1.lt2 hk) (by rintro ⟨u1, u2⟩; omega))
  refine lv_icmp_eq (tgt := 1297) hx hb dL_law_784 (by decide) (fun _ => ?_) (fun q => absurd rfl q)
  exact hnext _ _ _ _ hI2 hPC1 hPM1 hS ls hl
set_option maxHeartbeats 8000000 in
set_option maxRecDepth 100000 in
theorem q_law_stockAtCut {p : Program} {l : Launch} {e : Env} {s : State} {m : MethodId} {below : List Frame} {meth : Method} {c0 : Code} {D : va_G} {dA : Nat → ClassId} {b L : Nat} {xs : Nat → Int32} (C0 : lw_At p s m meth c0 b L xs) (hK : q_K D dA s) {N : Nat} {Inv : Nat → q_M → q_M → Prop} (hs21 : q_st_stockAtCut N Inv) {z : Nat} (hz : z = s.heap.size) {i : Int} (hi0 : 0 ≤ i) (hi1 : i ≤ (L : Int) - 5) (hL : L ≤ 2560) {c : Nat} (hc : c < 512) {μC μM : q_M} {H : Heap} {locs : List Loc} (hI : Inv c μC μM) (hPC : q_P D dA q_kdC q_rhoC 77 z (z + 99) μC H) (hPM : q_P D dA q_kdM q_rhoM 22 (z + 77) (z + 99) μM H) (hS : va_S (fun q : Nat => s.heap.size ≤ q) s.heap H locs) {ls : Array Slot} (hl : lv_has ls 4 [(0, .ref b), (1, .ref (z + 0)), (2, .ref (z + 77 + 0)), (3, .int (q_I i))])
    (hnext : ∀ (μC μM : q_M) (H : Heap) (locs : List Loc), Inv (c + 1) μC μM → q_P D dA q_kdC q_rhoC 77 z (z + 99) μC H → q_P D dA q_kdM q_rhoM 22 (z + 77) (z + 99) μM H → va_S (fun q : Nat => s.heap.size ≤ q) s.heap H locs → ∀ (ls : Array Slot), lv_has ls 4 [(0, .ref b), (1, .ref (z + 0)), (2, .ref (z + 77 + 0)), (3, .int (q_I i))] → W p l e room_1 s m #[Value.ref b] below meth c0 H locs 99 19249 (lw_Z below #[Value.ref b] s) (F0 m 1297 ls [])) : W p l e room_1 s m #[Value.ref b] below meth c0 H locs 99 19249 (lw_Z below #[Value.ref b] s) (F0 m 789 ls []) := by
  obtain ⟨hx, hb, hr, hml, hown, hts0, hX, hbl, hlocks, hgv⟩ := id C0
  have hts : ∀ w ∈ q_W, w.before #[Value.ref b] s = true := fun w hw => hts0 w (List.mem_filter.mp hw).1
  have hbA : ¬ (fun q : Nat => s.heap.size ≤ q) b := Nat.not_le.mpr hbl
  have hAC : ∀ q, q_A z 77 q → (fun q : Nat => s.heap.size ≤ q) q := fun q h => by rw [← hz]; exact h.1
  have hAM : ∀ q, q_A (z + 77) 22 q → (fun q : Nat => s.heap.size ≤ q) q := fun q h => by rw [← hz]; exact Nat.le_trans (Nat.le_add_right z 77) h.1
  obtain ⟨r, h1, h2, hI2⟩ := hs21 c μC μM hc hI _ (q_rI (xs (i + 1).toNat)) _ (q_rI (xs (i + 2).toNat))
  refine lv_aload_n hx hb dL_law_789 rfl (lv_at hl 1 rfl) ?_
  refine lv_aload_n hx hb dL_law_790 rfl (lv_at hl 0 rfl) ?_
  refine lv_iload_n hx hb dL_law_791 rfl (lv_at hl 3 rfl) ?_
  refine lv_iconst (v := q_I 1) hx hb dL_law_792 rfl ?_
  refine lv_iadd hx hb dL_law_793 ?_
  rw [q_addI]
  refine q_sld (i := i + 1) hx hb hX hbl hbA hS ⟨by omega, by omega⟩ (by omega) (by omega) dL_law_794 ?_
  refine lv_aload_n hx hb dL_law_795 rfl (lv_at hl 0 rfl) ?_
  refine lv_iload_n hx hb dL_law_796 rfl (lv_at hl 3 rfl) ?_
  refine lv_iconst (v := q_I 2) hx hb dL_law_797 rfl ?_
  refine lv_iadd hx hb dL_law_798 ?_
  rw [q_addI]
  refine q_sld (i := i + 2) hx hb hX hbl hbA hS ⟨by omega, by omega⟩ (by omega) (by omega) dL_law_799 ?_
  refine q_callV hx hb hml hts hown hK hPC hS (As := [.int (q_I (xs (i + 1).toNat).toInt), .int (q_I (xs (i + 2).toNat).toInt)]) (rest := []) (st1 := .int (q_I r) :: []) cv_RL_102 (c_CR_stockAtCut l D dA (q_rI _) (q_rI _) h1) (Nat.le_of_ble_eq_true rfl) q_kdC_0 rfl ⟨rfl, rfl, Nat.le_of_ble_eq_true rfl, Nat.le_of_ble_eq_true rfl⟩ ⟨Nat.le_of_ble_eq_true rfl, Nat.le_of_ble_eq_true rfl⟩ rfl hl.1 rfl (Nat.le_of_ble_eq_true rfl) rfl hAC dL_law_800 ?_
  clear hS; intro H1 locs _ hPC1 hS hF
  replace hPM := hPM.keep hPC1.1 (fun k hk => hF _ (hPM.lt2 hk) (by rintro ⟨u1, u2⟩; omega))
  clear hF
  refine lv_aload_n hx hb dL_law_803 rfl (lv_at hl 2 rfl) ?_
  refine lv_aload_n hx hb dL_law_804 rfl (lv_at hl 0 rfl) ?_
  refine lv_iload_n hx hb dL_law_805 rfl (lv_at hl 3 rfl) ?_
  refine lv_iconst (v := q_I 1) hx hb dL_law_806 rfl ?_
  refine lv_iadd hx hb dL_law_807 ?_
  rw [q_addI]
  refine q_sld (i := i + 1) hx hb hX hbl hbA hS ⟨by omega, by omega⟩ (by omega) (by omega) dL_law_808 ?_
  refine lv_aload_n hx hb dL_law_809 rfl (lv_at hl 0 rfl) ?_
  refine lv_iload_n hx hb dL_law_810 rfl (lv_at hl 3 rfl) ?_
  refine lv_iconst (v := q_I 2) hx hb dL_law_811 rfl ?_
  refine lv_iadd hx hb dL_law_812 ?_
  rw [q_addI]
  refine q_sld (i := i + 2) hx hb hX hbl hbA hS ⟨by omega, by omega⟩ (by omega) (by omega) dL_law_813 ?_
  refine q_callV hx hb hml hts hown hK hPM hS (As := [.int (q_I (xs (i + 1).toNat).toInt), .int (q_I (xs (i + 2).toNat).toInt)]) (rest := [.int (q_I r)]) (st1 := .int (q_I r) :: [.int (q_I r)]) cv_RL_105 (c_M_stockAtCut l D dA (q_rI _) (q_rI _) h2) (Nat.le_of_ble_eq_true rfl) q_kdM_0 rfl ⟨rfl, rfl, Nat.le_of_ble_eq_true rfl, Nat.le_of_ble_eq_true rfl⟩ ⟨Nat.le_of_ble_eq_true rfl, Nat.le_of_ble_eq_true rfl⟩ rfl hl.1 rfl (Nat.le_of_ble_eq_true rfl) rfl hAM dL_law_814 ?_
  clear hS; intro H2 locs _ hPM1 hS hF
  replace hPC1 := hPC1.keep hPM1.1 (fun k hk => hF _ (hPC1.lt2 hk) (by rintro ⟨u1, u2⟩; omega))
  refine lv_icmp_eq (tgt := 1297) hx hb dL_law_817 (by decide) (fun _ => ?_) (fun q => absurd rfl q)
  exact hnext _ _ _ _ hI2 hPC1 hPM1 hS ls hl
set_option maxHeartbeats 8000000 in
set_option maxRecDepth 100000 in
theorem q_law_inTransit {p : Program} {l : Launch} {e : Env} {s : State} {m : MethodId} {below : List Frame} {meth : Method} {c0 : Code} {D : va_G} {dA : Nat → ClassId} {b L : Nat} {xs : Nat → Int32} (C0 : lw_At p s m meth c0 b L xs) (hK : q_K D dA s) {N : Nat} {Inv : Nat → q_M → q_M → Prop} (hs22 : q_st_inTransit N Inv) {z : Nat} (hz : z = s.heap.size) {i : Int} (hi0 : 0 ≤ i) (hi1 : i ≤ (L : Int) - 5) (hL : L ≤ 2560) {c : Nat} (hc : c < 512) {μC μM : q_M} {H : Heap} {locs : List Loc} (hI : Inv c μC μM) (hPC : q_P D dA q_kdC q_rhoC 77 z (z + 99) μC H) (hPM : q_P D dA q_kdM q_rhoM 22 (z + 77) (z + 99) μM H) (hS : va_S (fun q : Nat => s.heap.size ≤ q) s.heap H locs) {ls : Array Slot} (hl : lv_has ls 4 [(0, .ref b), (1, .ref (z + 0)), (2, .ref (z + 77 + 0)), (3, .int (q_I i))])
    (hnext : ∀ (μC μM : q_M) (H : Heap) (locs : List Loc), Inv (c + 1) μC μM → q_P D dA q_kdC q_rhoC 77 z (z + 99) μC H → q_P D dA q_kdM q_rhoM 22 (z + 77) (z + 99) μM H → va_S (fun q : Nat => s.heap.size ≤ q) s.heap H locs → ∀ (ls : Array Slot), lv_has ls 4 [(0, .ref b), (1, .ref (z + 0)), (2, .ref (z + 77 + 0)), (3, .int (q_I i))] → W p l e room_1 s m #[Value.ref b] below meth c0 H locs 99 19249 (lw_Z below #[Value.ref b] s) (F0 m 1297 ls [])) : W p l e room_1 s m #[Value.ref b] below meth c0 H locs 99 19249 (lw_Z below #[Value.ref b] s) (F0 m 822 ls []) := by
  obtain ⟨hx, hb, hr, hml, hown, hts0, hX, hbl, hlocks, hgv⟩ := id C0
  have hts : ∀ w ∈ q_W, w.before #[Value.ref b] s = true := fun w hw => hts0 w (List.mem_filter.mp hw).1
  have hbA : ¬ (fun q : Nat => s.heap.size ≤ q) b := Nat.not_le.mpr hbl
  have hAC : ∀ q, q_A z 77 q → (fun q : Nat => s.heap.size ≤ q) q := fun q h => by rw [← hz]; exact h.1
  have hAM : ∀ q, q_A (z + 77) 22 q → (fun q : Nat => s.heap.size ≤ q) q := fun q h => by rw [← hz]; exact Nat.le_trans (Nat.le_add_right z 77) h.1
  obtain ⟨r, h1, h2, hI2⟩ := hs22 c μC μM hc hI _ (q_rI (xs (i + 1).toNat)) _ (q_rI (xs (i + 2).toNat)) _ (q_rI (xs (i + 3).toNat)) _ (q_rI (xs (i + 4).toNat))
  refine lv_aload_n hx hb dL_law_822 rfl (lv_at hl 1 rfl) ?_
  refine lv_aload_n hx hb dL_law_823 rfl (lv_at hl 0 rfl) ?_
  refine lv_iload_n hx hb dL_law_824 rfl (lv_at hl 3 rfl) ?_
  refine lv_iconst (v := q_I 1) hx hb dL_law_825 rfl ?_
  refine lv_iadd hx hb dL_law_826 ?_
  rw [q_addI]
  refine q_sld (i := i + 1) hx hb hX hbl hbA hS ⟨by omega, by omega⟩ (by omega) (by omega) dL_law_827 ?_
  refine lv_aload_n hx hb dL_law_828 rfl (lv_at hl 0 rfl) ?_
  refine lv_iload_n hx hb dL_law_829 rfl (lv_at hl 3 rfl) ?_
  refine lv_iconst (v := q_I 2) hx hb dL_law_830 rfl ?_
  refine lv_iadd hx hb dL_law_831 ?_
  rw [q_addI]
  refine q_sld (i := i + 2) hx hb hX hbl hbA hS ⟨by omega, by omega⟩ (by omega) (by omega) dL_law_832 ?_
  refine lv_aload_n hx hb dL_law_833 rfl (lv_at hl 0 rfl) ?_
  refine lv_iload_n hx hb dL_law_834 rfl (lv_at hl 3 rfl) ?_
  refine lv_iconst (v := q_I 3) hx hb dL_law_835 rfl ?_
  refine lv_iadd hx hb dL_law_836 ?_
  rw [q_addI]
  refine q_sld (i := i + 3) hx hb hX hbl hbA hS ⟨by omega, by omega⟩ (by omega) (by omega) dL_law_837 ?_
  refine lv_aload_n hx hb dL_law_838 rfl (lv_at hl 0 rfl) ?_
  refine lv_iload_n hx hb dL_law_839 rfl (lv_at hl 3 rfl) ?_
  refine lv_iconst (v := q_I 4) hx hb dL_law_840 rfl ?_
  refine lv_iadd hx hb dL_law_841 ?_
  rw [q_addI]
  refine q_sld (i := i + 4) hx hb hX hbl hbA hS ⟨by omega, by omega⟩ (by omega) (by omega) dL_law_842 ?_
  refine q_callV hx hb hml hts hown hK hPC hS (As := [.int (q_I (xs (i + 1).toNat).toInt), .int (q_I (xs (i + 2).toNat).toInt), .int (q_I (xs (i + 3).toNat).toInt), .int (q_I (xs (i + 4).toNat).toInt)]) (rest := []) (st1 := .int (q_I r) :: []) cv_RL_106 (c_CR_inTransit l D dA (q_rI _) (q_rI _) (q_rI _) (q_rI _) h1) (Nat.le_of_ble_eq_true rfl) q_kdC_0 rfl ⟨rfl, rfl, Nat.le_of_ble_eq_true rfl, Nat.le_of_ble_eq_true rfl⟩ ⟨Nat.le_of_ble_eq_true rfl, Nat.le_of_ble_eq_true rfl⟩ rfl hl.1 rfl (Nat.le_of_ble_eq_true rfl) rfl hAC dL_law_843 ?_
  clear hS; intro H1 locs _ hPC1 hS hF
  replace hPM := hPM.keep hPC1.1 (fun k hk => hF _ (hPM.lt2 hk) (by rintro ⟨u1, u2⟩; omega))
  clear hF
  refine lv_aload_n hx hb dL_law_846 rfl (lv_at hl 2 rfl) ?_
  refine lv_aload_n hx hb dL_law_847 rfl (lv_at hl 0 rfl) ?_
  refine lv_iload_n hx hb dL_law_848 rfl (lv_at hl 3 rfl) ?_
  refine lv_iconst (v := q_I 1) hx hb dL_law_849 rfl ?_
  refine lv_iadd hx hb dL_law_850 ?_
  rw [q_addI]
  refine q_sld (i := i + 1) hx hb hX hbl hbA hS ⟨by omega, by omega⟩ (by omega) (by omega) dL_law_851 ?_
  refine lv_aload_n hx hb dL_law_852 rfl (lv_at hl 0 rfl) ?_
  refine lv_iload_n hx hb dL_law_853 rfl (lv_at hl 3 rfl) ?_
  refine lv_iconst (v := q_I 2) hx hb dL_law_854 rfl ?_
  refine lv_iadd hx hb dL_law_855 ?_
  rw [q_addI]
  refine q_sld (i := i + 2) hx hb hX hbl hbA hS ⟨by omega, by omega⟩ (by omega) (by omega) dL_law_856 ?_
  refine lv_aload_n hx hb dL_law_857 rfl (lv_at hl 0 rfl) ?_
  refine lv_iload_n hx hb dL_law_858 rfl (lv_at hl 3 rfl) ?_
  refine lv_iconst (v := q_I 3) hx hb dL_law_859 rfl ?_
  refine lv_iadd hx hb dL_law_860 ?_
  rw [q_addI]
  refine q_sld (i := i + 3) hx hb hX hbl hbA hS ⟨by omega, by omega⟩ (by omega) (by omega) dL_law_861 ?_
  refine lv_aload_n hx hb dL_law_862 rfl (lv_at hl 0 rfl) ?_
  refine lv_iload_n hx hb dL_law_863 rfl (lv_at hl 3 rfl) ?_
  refine lv_iconst (v := q_I 4) hx hb dL_law_864 rfl ?_
  refine lv_iadd hx hb dL_law_865 ?_
  rw [q_addI]
  refine q_sld (i := i + 4) hx hb hX hbl hbA hS ⟨by omega, by omega⟩ (by omega) (by omega) dL_law_866 ?_
  refine q_callV hx hb hml hts hown hK hPM hS (As := [.int (q_I (xs (i + 1).toNat).toInt), .int (q_I (xs (i + 2).toNat).toInt), .int (q_I (xs (i + 3).toNat).toInt), .int (q_I (xs (i + 4).toNat).toInt)]) (rest := [.int (q_I r)]) (st1 := .int (q_I r) :: [.int (q_I r)]) cv_RL_109 (c_M_inTransit l D dA (q_rI _) (q_rI _) (q_rI _) (q_rI _) h2) (Nat.le_of_ble_eq_true rfl) q_kdM_0 rfl ⟨rfl, rfl, Nat.le_of_ble_eq_true rfl, Nat.le_of_ble_eq_true rfl⟩ ⟨Nat.le_of_ble_eq_true rfl, Nat.le_of_ble_eq_true rfl⟩ rfl hl.1 rfl (Nat.le_of_ble_eq_true rfl) rfl hAM dL_law_867 ?_
  clear hS; intro H2 locs _ hPM1 hS hF
  replace hPC1 := hPC1.keep hPM1.1 (fun k hk => hF _ (hPC1.lt2 hk) (by rintro ⟨u1, u2⟩; omega))
  refine lv_icmp_eq (tgt := 1297) hx hb dL_law_870 (by decide) (fun _ => ?_) (fun q => absurd rfl q)
  exact hnext _ _ _ _ hI2 hPC1 hPM1 hS ls hl
set_option maxHeartbeats 8000000 in
set_option maxRecDepth 100000 in
theorem q_law_type {p : Program} {l : Launch} {e : Env} {s : State} {m : MethodId} {below : List Frame} {meth : Method} {c0 : Code} {D : va_G} {dA : Nat → ClassId} {b L : Nat} {xs : Nat → Int32} (C0 : lw_At p s m meth c0 b L xs) (hK : q_K D dA s) {N : Nat} {Inv : Nat → q_M → q_M → Prop} (hs23 : q_st_type N Inv) {z : Nat} (hz : z = s.heap.size) {i : Int} (hi0 : 0 ≤ i) (hi1 : i ≤ (L : Int) - 5) (hL : L ≤ 2560) {c : Nat} (hc : c < 512) {μC μM : q_M} {H : Heap} {locs : List Loc} (hI : Inv c μC μM) (hPC : q_P D dA q_kdC q_rhoC 77 z (z + 99) μC H) (hPM : q_P D dA q_kdM q_rhoM 22 (z + 77) (z + 99) μM H) (hS : va_S (fun q : Nat => s.heap.size ≤ q) s.heap H locs) {ls : Array Slot} (hl : lv_has ls 4 [(0, .ref b), (1, .ref (z + 0)), (2, .ref (z + 77 + 0)), (3, .int (q_I i))])
    (hnext : ∀ (μC μM : q_M) (H : Heap) (locs : List Loc), Inv (c + 1) μC μM → q_P D dA q_kdC q_rhoC 77 z (z + 99) μC H → q_P D dA q_kdM q_rhoM 22 (z + 77) (z + 99) μM H → va_S (fun q : Nat => s.heap.size ≤ q) s.heap H locs → ∀ (ls : Array Slot), lv_has ls 4 [(0, .ref b), (1, .ref (z + 0)), (2, .ref (z + 77 + 0)), (3, .int (q_I i))] → W p l e room_1 s m #[Value.ref b] below meth c0 H locs 99 19249 (lw_Z below #[Value.ref b] s) (F0 m 1297 ls [])) : W p l e room_1 s m #[Value.ref b] below meth c0 H locs 99 19249 (lw_Z below #[Value.ref b] s) (F0 m 875 ls []) := by
  obtain ⟨hx, hb, hr, hml, hown, hts0, hX, hbl, hlocks, hgv⟩ := id C0
  have hts : ∀ w ∈ q_W, w.before #[Value.ref b] s = true := fun w hw => hts0 w (List.mem_filter.mp hw).1
  have hbA : ¬ (fun q : Nat => s.heap.size ≤ q) b := Nat.not_le.mpr hbl
  have hAC : ∀ q, q_A z 77 q → (fun q : Nat => s.heap.size ≤ q) q := fun q h => by rw [← hz]; exact h.1
  have hAM : ∀ q, q_A (z + 77) 22 q → (fun q : Nat => s.heap.size ≤ q) q := fun q h => by rw [← hz]; exact Nat.le_trans (Nat.le_add_right z 77) h.1
  obtain ⟨r, μ1, μ2, h1, h2, hI2⟩ := hs23 c μC μM hc hI _ (q_chr_b (xs (i + 1).toNat))
  refine lv_aload_n hx hb dL_law_875 rfl (lv_at hl 1 rfl) ?_
  refine lv_aload_n hx hb dL_law_876 rfl (lv_at hl 0 rfl) ?_
  refine lv_iload_n hx hb dL_law_877 rfl (lv_at hl 3 rfl) ?_
  refine lv_iconst (v := q_I 1) hx hb dL_law_878 rfl ?_
  refine lv_iadd hx hb dL_law_879 ?_
  rw [q_addI]
  refine q_sld (i := i + 1) hx hb hX hbl hbA hS ⟨by omega, by omega⟩ (by omega) (by omega) dL_law_880 ?_
  refine q_i2c hx hb dL_law_881 ?_
  refine q_callV hx hb hml hts hown hK hPC hS (As := [.int (q_I (q_chr (xs (i + 1).toNat)))]) (rest := []) (st1 := .int (q_I r) :: []) cv_RL_110 (c_CR_type l D dA (q_chr_r _) h1) (Nat.le_of_ble_eq_true rfl) q_kdC_0 rfl ⟨rfl, rfl, Nat.le_of_ble_eq_true rfl, Nat.le_of_ble_eq_true rfl⟩ ⟨Nat.le_of_ble_eq_true rfl, Nat.le_of_ble_eq_true rfl⟩ rfl hl.1 rfl (Nat.le_of_ble_eq_true rfl) rfl hAC dL_law_882 ?_
  clear hS; intro H1 locs _ hPC1 hS hF
  replace hPM := hPM.keep hPC1.1 (fun k hk => hF _ (hPM.lt2 hk) (by rintro ⟨u1, u2⟩; omega))
  clear hF
  refine lv_aload_n hx hb dL_law_885 rfl (lv_at hl 2 rfl) ?_
  refine lv_aload_n hx hb dL_law_886 rfl (lv_at hl 0 rfl) ?_
  refine lv_iload_n hx hb dL_law_887 rfl (lv_at hl 3 rfl) ?_
  refine lv_iconst (v := q_I 1) hx hb dL_law_888 rfl ?_
  refine lv_iadd hx hb dL_law_889 ?_
  rw [q_addI]
  refine q_sld (i := i + 1) hx hb hX hbl hbA hS ⟨by omega, by omega⟩ (by omega) (by omega) dL_law_890 ?_
  refine q_i2c hx hb dL_law_891 ?_
  refine q_callV hx hb hml hts hown hK hPM hS (As := [.int (q_I (q_chr (xs (i + 1).toNat)))]) (rest := [.int (q_I r)]) (st1 := .int (q_I r) :: [.int (q_I r)]) cv_RL_114 (c_M_type l D dA (q_chr_r _) h2) (Nat.le_of_ble_eq_true rfl) q_kdM_0 rfl ⟨rfl, rfl, Nat.le_of_ble_eq_true rfl, Nat.le_of_ble_eq_true rfl⟩ ⟨Nat.le_of_ble_eq_true rfl, Nat.le_of_ble_eq_true rfl⟩ rfl hl.1 rfl (Nat.le_of_ble_eq_true rfl) rfl hAM dL_law_892 ?_
  clear hS; intro H2 locs _ hPM1 hS hF
  replace hPC1 := hPC1.keep hPM1.1 (fun k hk => hF _ (hPC1.lt2 hk) (by rintro ⟨u1, u2⟩; omega))
  refine lv_icmp_eq (tgt := 1297) hx hb dL_law_895 (by decide) (fun _ => ?_) (fun q => absurd rfl q)
  exact hnext _ _ _ _ hI2 hPC1 hPM1 hS ls hl
set_option maxHeartbeats 8000000 in
set_option maxRecDepth 100000 in
theorem q_law_clearText {p : Program} {l : Launch} {e : Env} {s : State} {m : MethodId} {below : List Frame} {meth : Method} {c0 : Code} {D : va_G} {dA : Nat → ClassId} {b L : Nat} {xs : Nat → Int32} (C0 : lw_At p s m meth c0 b L xs) (hK : q_K D dA s) {N : Nat} {Inv : Nat → q_M → q_M → Prop} (hs24 : q_st_clearText N Inv) {z : Nat} (hz : z = s.heap.size) {i : Int} (hi0 : 0 ≤ i) (hi1 : i ≤ (L : Int) - 5) (hL : L ≤ 2560) {c : Nat} (hc : c < 512) {μC μM : q_M} {H : Heap} {locs : List Loc} (hI : Inv c μC μM) (hPC : q_P D dA q_kdC q_rhoC 77 z (z + 99) μC H) (hPM : q_P D dA q_kdM q_rhoM 22 (z + 77) (z + 99) μM H) (hS : va_S (fun q : Nat => s.heap.size ≤ q) s.heap H locs) {ls : Array Slot} (hl : lv_has ls 4 [(0, .ref b), (1, .ref (z + 0)), (2, .ref (z + 77 + 0)), (3, .int (q_I i))])
    (hnext : ∀ (μC μM : q_M) (H : Heap) (locs : List Loc), Inv (c + 1) μC μM → q_P D dA q_kdC q_rhoC 77 z (z + 99) μC H → q_P D dA q_kdM q_rhoM 22 (z + 77) (z + 99) μM H → va_S (fun q : Nat => s.heap.size ≤ q) s.heap H locs → ∀ (ls : Array Slot), lv_has ls 4 [(0, .ref b), (1, .ref (z + 0)), (2, .ref (z + 77 + 0)), (3, .int (q_I i))] → W p l e room_1 s m #[Value.ref b] below meth c0 H locs 99 19249 (lw_Z below #[Value.ref b] s) (F0 m 1297 ls [])) : W p l e room_1 s m #[Value.ref b] below meth c0 H locs 99 19249 (lw_Z below #[Value.ref b] s) (F0 m 900 ls []) := by
  obtain ⟨hx, hb, hr, hml, hown, hts0, hX, hbl, hlocks, hgv⟩ := id C0
  have hts : ∀ w ∈ q_W, w.before #[Value.ref b] s = true := fun w hw => hts0 w (List.mem_filter.mp hw).1
  have hbA : ¬ (fun q : Nat => s.heap.size ≤ q) b := Nat.not_le.mpr hbl
  have hAC : ∀ q, q_A z 77 q → (fun q : Nat => s.heap.size ≤ q) q := fun q h => by rw [← hz]; exact h.1
  have hAM : ∀ q, q_A (z + 77) 22 q → (fun q : Nat => s.heap.size ≤ q) q := fun q h => by rw [← hz]; exact Nat.le_trans (Nat.le_add_right z 77) h.1
  obtain ⟨r, μ1, μ2, h1, h2, hI2⟩ := hs24 c μC μM hc hI 
  refine lv_aload_n hx hb dL_law_900 rfl (lv_at hl 1 rfl) ?_
  refine q_callV hx hb hml hts hown hK hPC hS (As := []) (rest := []) (st1 := .int (q_I r) :: []) cv_RL_115 (c_CR_clearText l D dA  h1) (Nat.le_of_ble_eq_true rfl) q_kdC_0 rfl ⟨rfl, rfl, Nat.le_of_ble_eq_true rfl, Nat.le_of_ble_eq_true rfl⟩ ⟨Nat.le_of_ble_eq_true rfl, Nat.le_of_ble_eq_true rfl⟩ rfl hl.1 rfl (Nat.le_of_ble_eq_true rfl) rfl hAC dL_law_901 ?_
  clear hS; intro H1 locs _ hPC1 hS hF
  replace hPM := hPM.keep hPC1.1 (fun k hk => hF _ (hPM.lt2 hk) (by rintro ⟨u1, u2⟩; omega))
  clear hF
  refine lv_aload_n hx hb dL_law_904 rfl (lv_at hl 2 rfl) ?_
  refine q_callV hx hb hml hts hown hK hPM hS (As := []) (rest := [.int (q_I r)]) (st1 := .int (q_I r) :: [.int (q_I r)]) cv_RL_118 (c_M_clearText l D dA  h2) (Nat.le_of_ble_eq_true rfl) q_kdM_0 rfl ⟨rfl, rfl, Nat.le_of_ble_eq_true rfl, Nat.le_of_ble_eq_true rfl⟩ ⟨Nat.le_of_ble_eq_true rfl, Nat.le_of_ble_eq_true rfl⟩ rfl hl.1 rfl (Nat.le_of_ble_eq_true rfl) rfl hAM dL_law_905 ?_
  clear hS; intro H2 locs _ hPM1 hS hF
  replace hPC1 := hPC1.keep hPM1.1 (fun k hk => hF _ (hPC1.lt2 hk) (by rintro ⟨u1, u2⟩; omega))
  refine lv_icmp_eq (tgt := 1297) hx hb dL_law_908 (by decide) (fun _ => ?_) (fun q => absurd rfl q)
  exact hnext _ _ _ _ hI2 hPC1 hPM1 hS ls hl
set_option maxHeartbeats 8000000 in
set_option maxRecDepth 100000 in
theorem q_law_addRule {p : Program} {l : Launch} {e : Env} {s : State} {m : MethodId} {below : List Frame} {meth : Method} {c0 : Code} {D : va_G} {dA : Nat → ClassId} {b L : Nat} {xs : Nat → Int32} (C0 : lw_At p s m meth c0 b L xs) (hK : q_K D dA s) {N : Nat} {Inv : Nat → q_M → q_M → Prop} (hs25 : q_st_addRule N Inv) {z : Nat} (hz : z = s.heap.size) {i : Int} (hi0 : 0 ≤ i) (hi1 : i ≤ (L : Int) - 5) (hL : L ≤ 2560) {c : Nat} (hc : c < 512) {μC μM : q_M} {H : Heap} {locs : List Loc} (hI : Inv c μC μM) (hPC : q_P D dA q_kdC q_rhoC 77 z (z + 99) μC H) (hPM : q_P D dA q_kdM q_rhoM 22 (z + 77) (z + 99) μM H) (hS : va_S (fun q : Nat => s.heap.size ≤ q) s.heap H locs) {ls : Array Slot} (hl : lv_has ls 4 [(0, .ref b), (1, .ref (z + 0)), (2, .ref (z + 77 + 0)), (3, .int (q_I i))])
    (hnext : ∀ (μC μM : q_M) (H : Heap) (locs : List Loc), Inv (c + 1) μC μM → q_P D dA q_kdC q_rhoC 77 z (z + 99) μC H → q_P D dA q_kdM q_rhoM 22 (z + 77) (z + 99) μM H → va_S (fun q : Nat => s.heap.size ≤ q) s.heap H locs → ∀ (ls : Array Slot), lv_has ls 4 [(0, .ref b), (1, .ref (z + 0)), (2, .ref (z + 77 + 0)), (3, .int (q_I i))] → W p l e room_1 s m #[Value.ref b] below meth c0 H locs 99 19249 (lw_Z below #[Value.ref b] s) (F0 m 1297 ls [])) : W p l e room_1 s m #[Value.ref b] below meth c0 H locs 99 19249 (lw_Z below #[Value.ref b] s) (F0 m 913 ls []) := by
  obtain ⟨hx, hb, hr, hml, hown, hts0, hX, hbl, hlocks, hgv⟩ := id C0
  have hts : ∀ w ∈ q_W, w.before #[Value.ref b] s = true := fun w hw => hts0 w (List.mem_filter.mp hw).1
  have hbA : ¬ (fun q : Nat => s.heap.size ≤ q) b := Nat.not_le.mpr hbl
  have hAC : ∀ q, q_A z 77 q → (fun q : Nat => s.heap.size ≤ q) q := fun q h => by rw [← hz]; exact h.1
  have hAM : ∀ q, q_A (z + 77) 22 q → (fun q : Nat => s.heap.size ≤ q) q := fun q h => by rw [← hz]; exact Nat.le_trans (Nat.le_add_right z 77) h.1
  obtain ⟨r, μ1, μ2, h1, h2, hI2⟩ := hs25 c μC μM hc hI 
  refine lv_aload_n hx hb dL_law_913 rfl (lv_at hl 1 rfl) ?_
  refine q_callV hx hb hml hts hown hK hPC hS (As := []) (rest := []) (st1 := .int (q_I r) :: []) cv_RL_119 (c_CR_addRule l D dA  h1) (Nat.le_of_ble_eq_true rfl) q_kdC_0 rfl ⟨rfl, rfl, Nat.le_of_ble_eq_true rfl, Nat.le_of_ble_eq_true rfl⟩ ⟨Nat.le_of_ble_eq_true rfl, Nat.le_of_ble_eq_true rfl⟩ rfl hl.1 rfl (Nat.le_of_ble_eq_true rfl) rfl hAC dL_law_914 ?_
  clear hS; intro H1 locs _ hPC1 hS hF
  replace hPM := hPM.keep hPC1.1 (fun k hk => hF _ (hPM.lt2 hk) (by rintro ⟨u1, u2⟩; omega))
  clear hF
  refine lv_aload_n hx hb dL_law_917 rfl (lv_at hl 2 rfl) ?_
  refine q_callV hx hb hml hts hown hK hPM hS (As := []) (rest := [.int (q_I r)]) (st1 := .int (q_I r) :: [.int (q_I r)]) cv_RL_122 (c_M_addRule l D dA  h2) (Nat.le_of_ble_eq_true rfl) q_kdM_0 rfl ⟨rfl, rfl, Nat.le_of_ble_eq_true rfl, Nat.le_of_ble_eq_true rfl⟩ ⟨Nat.le_of_ble_eq_true rfl, Nat.le_of_ble_eq_true rfl⟩ rfl hl.1 rfl (Nat.le_of_ble_eq_true rfl) rfl hAM dL_law_918 ?_
  clear hS; intro H2 locs _ hPM1 hS hF
  replace hPC1 := hPC1.keep hPM1.1 (fun k hk => hF _ (hPC1.lt2 hk) (by rintro ⟨u1, u2⟩; omega))
  refine lv_icmp_eq (tgt := 1297) hx hb dL_law_921 (by decide) (fun _ => ?_) (fun q => absurd rfl q)
  exact hnext _ _ _ _ hI2 hPC1 hPM1 hS ls hl
set_option maxHeartbeats 8000000 in
set_option maxRecDepth 100000 in
theorem q_law_removeRule {p : Program} {l : Launch} {e : Env} {s : State} {m : MethodId} {below : List Frame} {meth : Method} {c0 : Code} {D : va_G} {dA : Nat → ClassId} {b L : Nat} {xs : Nat → Int32} (C0 : lw_At p s m meth c0 b L xs) (hK : q_K D dA s) {N : Nat} {Inv : Nat → q_M → q_M → Prop} (hs26 : q_st_removeRule N Inv) {z : Nat} (hz : z = s.heap.size) {i : Int} (hi0 : 0 ≤ i) (hi1 : i ≤ (L : Int) - 5) (hL : L ≤ 2560) {c : Nat} (hc : c < 512) {μC μM : q_M} {H : Heap} {locs : List Loc} (hI : Inv c μC μM) (hPC : q_P D dA q_kdC q_rhoC 77 z (z + 99) μC H) (hPM : q_P D dA q_kdM q_rhoM 22 (z + 77) (z + 99) μM H) (hS : va_S (fun q : Nat => s.heap.size ≤ q) s.heap H locs) {ls : Array Slot} (hl : lv_has ls 4 [(0, .ref b), (1, .ref (z + 0)), (2, .ref (z + 77 + 0)), (3, .int (q_I i))])
    (hnext : ∀ (μC μM : q_M) (H : Heap) (locs : List Loc), Inv (c + 1) μC μM → q_P D dA q_kdC q_rhoC 77 z (z + 99) μC H → q_P D dA q_kdM q_rhoM 22 (z + 77) (z + 99) μM H → va_S (fun q : Nat => s.heap.size ≤ q) s.heap H locs → ∀ (ls : Array Slot), lv_has ls 4 [(0, .ref b), (1, .ref (z + 0)), (2, .ref (z + 77 + 0)), (3, .int (q_I i))] → W p l e room_1 s m #[Value.ref b] below meth c0 H locs 99 19249 (lw_Z below #[Value.ref b] s) (F0 m 1297 ls [])) : W p l e room_1 s m #[Value.ref b] below meth c0 H locs 99 19249 (lw_Z below #[Value.ref b] s) (F0 m 926 ls []) := by
  obtain ⟨hx, hb, hr, hml, hown, hts0, hX, hbl, hlocks, hgv⟩ := id C0
  have hts : ∀ w ∈ q_W, w.before #[Value.ref b] s = true := fun w hw => hts0 w (List.mem_filter.mp hw).1
  have hbA : ¬ (fun q : Nat => s.heap.size ≤ q) b := Nat.not_le.mpr hbl
  have hAC : ∀ q, q_A z 77 q → (fun q : Nat => s.heap.size ≤ q) q := fun q h => by rw [← hz]; exact h.1
  have hAM : ∀ q, q_A (z + 77) 22 q → (fun q : Nat => s.heap.size ≤ q) q := fun q h => by rw [← hz]; exact Nat.le_trans (Nat.le_add_right z 77) h.1
  obtain ⟨r, μ1, μ2, h1, h2, hI2⟩ := hs26 c μC μM hc hI _ (q_rI (xs (i + 1).toNat))
  refine lv_aload_n hx hb dL_law_926 rfl (lv_at hl 1 rfl) ?_
  refine lv_aload_n hx hb dL_law_927 rfl (lv_at hl 0 rfl) ?_
  refine lv_iload_n hx hb dL_law_928 rfl (lv_at hl 3 rfl) ?_
  refine lv_iconst (v := q_I 1) hx hb dL_law_929 rfl ?_
  refine lv_iadd hx hb dL_law_930 ?_
  rw [q_addI]
  refine q_sld (i := i + 1) hx hb hX hbl hbA hS ⟨by omega, by omega⟩ (by omega) (by omega) dL_law_931 ?_
  refine q_callV hx hb hml hts hown hK hPC hS (As := [.int (q_I (xs (i + 1).toNat).toInt)]) (rest := []) (st1 := .int (q_I r) :: []) cv_RL_123 (c_CR_removeRule l D dA (q_rI _) h1) (Nat.le_of_ble_eq_true rfl) q_kdC_0 rfl ⟨rfl, rfl, Nat.le_of_ble_eq_true rfl, Nat.le_of_ble_eq_true rfl⟩ ⟨Nat.le_of_ble_eq_true rfl, Nat.le_of_ble_eq_true rfl⟩ rfl hl.1 rfl (Nat.le_of_ble_eq_true rfl) rfl hAC dL_law_932 ?_
  clear hS; intro H1 locs _ hPC1 hS hF
  replace hPM := hPM.keep hPC1.1 (fun k hk => hF _ (hPM.lt2 hk) (by rintro ⟨u1, u2⟩; omega))
  clear hF
  refine lv_aload_n hx hb dL_law_935 rfl (lv_at hl 2 rfl) ?_
  refine lv_aload_n hx hb dL_law_936 rfl (lv_at hl 0 rfl) ?_
  refine lv_iload_n hx hb dL_law_937 rfl (lv_at hl 3 rfl) ?_
  refine lv_iconst (v := q_I 1) hx hb dL_law_938 rfl ?_
  refine lv_iadd hx hb dL_law_939 ?_
  rw [q_addI]
  refine q_sld (i := i + 1) hx hb hX hbl hbA hS ⟨by omega, by omega⟩ (by omega) (by omega) dL_law_940 ?_
  refine q_callV hx hb hml hts hown hK hPM hS (As := [.int (q_I (xs (i + 1).toNat).toInt)]) (rest := [.int (q_I r)]) (st1 := .int (q_I r) :: [.int (q_I r)]) cv_RL_126 (c_M_removeRule l D dA (q_rI _) h2) (Nat.le_of_ble_eq_true rfl) q_kdM_0 rfl ⟨rfl, rfl, Nat.le_of_ble_eq_true rfl, Nat.le_of_ble_eq_true rfl⟩ ⟨Nat.le_of_ble_eq_true rfl, Nat.le_of_ble_eq_true rfl⟩ rfl hl.1 rfl (Nat.le_of_ble_eq_true rfl) rfl hAM dL_law_941 ?_
  clear hS; intro H2 locs _ hPM1 hS hF
  replace hPC1 := hPC1.keep hPM1.1 (fun k hk => hF _ (hPC1.lt2 hk) (by rintro ⟨u1, u2⟩; omega))
  refine lv_icmp_eq (tgt := 1297) hx hb dL_law_944 (by decide) (fun _ => ?_) (fun q => absurd rfl q)
  exact hnext _ _ _ _ hI2 hPC1 hPM1 hS ls hl
set_option maxHeartbeats 8000000 in
set_option maxRecDepth 100000 in
theorem q_law_rule {p : Program} {l : Launch} {e : Env} {s : State} {m : MethodId} {below : List Frame} {meth : Method} {c0 : Code} {D : va_G} {dA : Nat → ClassId} {b L : Nat} {xs : Nat → Int32} (C0 : lw_At p s m meth c0 b L xs) (hK : q_K D dA s) {N : Nat} {Inv : Nat → q_M → q_M → Prop} (hs27 : q_st_rule N Inv) {z : Nat} (hz : z = s.heap.size) {i : Int} (hi0 : 0 ≤ i) (hi1 : i ≤ (L : Int) - 5) (hL : L ≤ 2560) {c : Nat} (hc : c < 512) {μC μM : q_M} {H : Heap} {locs : List Loc} (hI : Inv c μC μM) (hPC : q_P D dA q_kdC q_rhoC 77 z (z + 99) μC H) (hPM : q_P D dA q_kdM q_rhoM 22 (z + 77) (z + 99) μM H) (hS : va_S (fun q : Nat => s.heap.size ≤ q) s.heap H locs) {ls : Array Slot} (hl : lv_has ls 4 [(0, .ref b), (1, .ref (z + 0)), (2, .ref (z + 77 + 0)), (3, .int (q_I i))])
    (hnext : ∀ (μC μM : q_M) (H : Heap) (locs : List Loc), Inv (c + 1) μC μM → q_P D dA q_kdC q_rhoC 77 z (z + 99) μC H → q_P D dA q_kdM q_rhoM 22 (z + 77) (z + 99) μM H → va_S (fun q : Nat => s.heap.size ≤ q) s.heap H locs → ∀ (ls : Array Slot), lv_has ls 4 [(0, .ref b), (1, .ref (z + 0)), (2, .ref (z + 77 + 0)), (3, .int (q_I i))] → W p l e room_1 s m #[Value.ref b] below meth c0 H locs 99 19249 (lw_Z below #[Value.ref b] s) (F0 m 1297 ls [])) : W p l e room_1 s m #[Value.ref b] below meth c0 H locs 99 19249 (lw_Z below #[Value.ref b] s) (F0 m 949 ls []) := by
  obtain ⟨hx, hb, hr, hml, hown, hts0, hX, hbl, hlocks, hgv⟩ := id C0
  have hts : ∀ w ∈ q_W, w.before #[Value.ref b] s = true := fun w hw => hts0 w (List.mem_filter.mp hw).1
  have hbA : ¬ (fun q : Nat => s.heap.size ≤ q) b := Nat.not_le.mpr hbl
  have hAC : ∀ q, q_A z 77 q → (fun q : Nat => s.heap.size ≤ q) q := fun q h => by rw [← hz]; exact h.1
  have hAM : ∀ q, q_A (z + 77) 22 q → (fun q : Nat => s.heap.size ≤ q) q := fun q h => by rw [← hz]; exact Nat.le_trans (Nat.le_add_right z 77) h.1
  obtain ⟨r, h1, h2, hI2⟩ := hs27 c μC μM hc hI _ (q_rI (xs (i + 1).toNat)) _ (q_rI (xs (i + 2).toNat))
  refine lv_aload_n hx hb dL_law_949 rfl (lv_at hl 1 rfl) ?_
  refine lv_aload_n hx hb dL_law_950 rfl (lv_at hl 0 rfl) ?_
  refine lv_iload_n hx hb dL_law_951 rfl (lv_at hl 3 rfl) ?_
  refine lv_iconst (v := q_I 1) hx hb dL_law_952 rfl ?_
  refine lv_iadd hx hb dL_law_953 ?_
  rw [q_addI]
  refine q_sld (i := i + 1) hx hb hX hbl hbA hS ⟨by omega, by omega⟩ (by omega) (by omega) dL_law_954 ?_
  refine lv_aload_n hx hb dL_law_955 rfl (lv_at hl 0 rfl) ?_
  refine lv_iload_n hx hb dL_law_956 rfl (lv_at hl 3 rfl) ?_
  refine lv_iconst (v := q_I 2) hx hb dL_law_957 rfl ?_
  refine lv_iadd hx hb dL_law_958 ?_
  rw [q_addI]
  refine q_sld (i := i + 2) hx hb hX hbl hbA hS ⟨by omega, by omega⟩ (by omega) (by omega) dL_law_959 ?_
  refine q_callV hx hb hml hts hown hK hPC hS (As := [.int (q_I (xs (i + 1).toNat).toInt), .int (q_I (xs (i + 2).toNat).toInt)]) (rest := []) (st1 := .int (q_I r) :: []) cv_RL_127 (c_CR_rule l D dA (q_rI _) (q_rI _) h1) (Nat.le_of_ble_eq_true rfl) q_kdC_0 rfl ⟨rfl, rfl, Nat.le_of_ble_eq_true rfl, Nat.le_of_ble_eq_true rfl⟩ ⟨Nat.le_of_ble_eq_true rfl, Nat.le_of_ble_eq_true rfl⟩ rfl hl.1 rfl (Nat.le_of_ble_eq_true rfl) rfl hAC dL_law_960 ?_
  clear hS; intro H1 locs _ hPC1 hS hF
  replace hPM := hPM.keep hPC1.1 (fun k hk => hF _ (hPM.lt2 hk) (by rintro ⟨u1, u2⟩; omega))
  clear hF
  refine lv_aload_n hx hb dL_law_963 rfl (lv_at hl 2 rfl) ?_
  refine lv_aload_n hx hb dL_law_964 rfl (lv_at hl 0 rfl) ?_
  refine lv_iload_n hx hb dL_law_965 rfl (lv_at hl 3 rfl) ?_
  refine lv_iconst (v := q_I 1) hx hb dL_law_966 rfl ?_
  refine lv_iadd hx hb dL_law_967 ?_
  rw [q_addI]
  refine q_sld (i := i + 1) hx hb hX hbl hbA hS ⟨by omega, by omega⟩ (by omega) (by omega) dL_law_968 ?_
  refine lv_aload_n hx hb dL_law_969 rfl (lv_at hl 0 rfl) ?_
  refine lv_iload_n hx hb dL_law_970 rfl (lv_at hl 3 rfl) ?_
  refine lv_iconst (v := q_I 2) hx hb dL_law_971 rfl ?_
  refine lv_iadd hx hb dL_law_972 ?_
  rw [q_addI]
  refine q_sld (i := i + 2) hx hb hX hbl hbA hS ⟨by omega, by omega⟩ (by omega) (by omega) dL_law_973 ?_
  refine q_callV hx hb hml hts hown hK hPM hS (As := [.int (q_I (xs (i + 1).toNat).toInt), .int (q_I (xs (i + 2).toNat).toInt)]) (rest := [.int (q_I r)]) (st1 := .int (q_I r) :: [.int (q_I r)]) cv_RL_130 (c_M_rule l D dA (q_rI _) (q_rI _) h2) (Nat.le_of_ble_eq_true rfl) q_kdM_0 rfl ⟨rfl, rfl, Nat.le_of_ble_eq_true rfl, Nat.le_of_ble_eq_true rfl⟩ ⟨Nat.le_of_ble_eq_true rfl, Nat.le_of_ble_eq_true rfl⟩ rfl hl.1 rfl (Nat.le_of_ble_eq_true rfl) rfl hAM dL_law_974 ?_
  clear hS; intro H2 locs _ hPM1 hS hF
  replace hPC1 := hPC1.keep hPM1.1 (fun k hk => hF _ (hPC1.lt2 hk) (by rintro ⟨u1, u2⟩; omega))
  refine lv_icmp_eq (tgt := 1297) hx hb dL_law_977 (by decide) (fun _ => ?_) (fun q => absurd rfl q)
  exact hnext _ _ _ _ hI2 hPC1 hPM1 hS ls hl
set_option maxHeartbeats 8000000 in
set_option maxRecDepth 100000 in
theorem q_law_broken {p : Program} {l : Launch} {e : Env} {s : State} {m : MethodId} {below : List Frame} {meth : Method} {c0 : Code} {D : va_G} {dA : Nat → ClassId} {b L : Nat} {xs : Nat → Int32} (C0 : lw_At p s m meth c0 b L xs) (hK : q_K D dA s) {N : Nat} {Inv : Nat → q_M → q_M → Prop} (hs28 : q_st_broken N Inv) {z : Nat} (hz : z = s.heap.size) {i : Int} (hi0 : 0 ≤ i) (hi1 : i ≤ (L : Int) - 5) (hL : L ≤ 2560) {c : Nat} (hc : c < 512) {μC μM : q_M} {H : Heap} {locs : List Loc} (hI : Inv c μC μM) (hPC : q_P D dA q_kdC q_rhoC 77 z (z + 99) μC H) (hPM : q_P D dA q_kdM q_rhoM 22 (z + 77) (z + 99) μM H) (hS : va_S (fun q : Nat => s.heap.size ≤ q) s.heap H locs) {ls : Array Slot} (hl : lv_has ls 4 [(0, .ref b), (1, .ref (z + 0)), (2, .ref (z + 77 + 0)), (3, .int (q_I i))])
    (hnext : ∀ (μC μM : q_M) (H : Heap) (locs : List Loc), Inv (c + 1) μC μM → q_P D dA q_kdC q_rhoC 77 z (z + 99) μC H → q_P D dA q_kdM q_rhoM 22 (z + 77) (z + 99) μM H → va_S (fun q : Nat => s.heap.size ≤ q) s.heap H locs → ∀ (ls : Array Slot), lv_has ls 4 [(0, .ref b), (1, .ref (z + 0)), (2, .ref (z + 77 + 0)), (3, .int (q_I i))] → W p l e room_1 s m #[Value.ref b] below meth c0 H locs 99 19249 (lw_Z below #[Value.ref b] s) (F0 m 1297 ls [])) : W p l e room_1 s m #[Value.ref b] below meth c0 H locs 99 19249 (lw_Z below #[Value.ref b] s) (F0 m 982 ls []) := by
  obtain ⟨hx, hb, hr, hml, hown, hts0, hX, hbl, hlocks, hgv⟩ := id C0
  have hts : ∀ w ∈ q_W, w.before #[Value.ref b] s = true := fun w hw => hts0 w (List.mem_filter.mp hw).1
  have hbA : ¬ (fun q : Nat => s.heap.size ≤ q) b := Nat.not_le.mpr hbl
  have hAC : ∀ q, q_A z 77 q → (fun q : Nat => s.heap.size ≤ q) q := fun q h => by rw [← hz]; exact h.1
  have hAM : ∀ q, q_A (z + 77) 22 q → (fun q : Nat => s.heap.size ≤ q) q := fun q h => by rw [← hz]; exact Nat.le_trans (Nat.le_add_right z 77) h.1
  by_cases g0 : (xs (i + 1).toNat).toInt = 0
  · obtain ⟨r, μ1, h1, h2, hI2⟩ := hs28 c μC μM hc hI 0 (Or.inl rfl)
    refine lv_aload_n hx hb dL_law_982 rfl (lv_at hl 1 rfl) ?_
    refine lv_aload_n hx hb dL_law_983 rfl (lv_at hl 0 rfl) ?_
    refine lv_iload_n hx hb dL_law_984 rfl (lv_at hl 3 rfl) ?_
    refine lv_iconst (v := q_I 1) hx hb dL_law_985 rfl ?_
    refine lv_iadd hx hb dL_law_986 ?_
    rw [q_addI]
    refine q_sld (i := i + 1) hx hb hX hbl hbA hS ⟨by omega, by omega⟩ (by omega) (by omega) dL_law_987 ?_
    refine q_if0 (tgt := 995) hx hb g0 dL_law_988 (by decide) ?_
    refine lv_iconst (v := q_I 0) hx hb dL_law_995 rfl ?_
    refine q_callV hx hb hml hts hown hK hPC hS (As := [.int (q_I 0)]) (rest := []) (st1 := .int (q_I r) :: []) cv_RL_131 (c_CR_broken l D dA (q_r 0 rfl) h1) (Nat.le_of_ble_eq_true rfl) q_kdC_0 rfl ⟨rfl, rfl, Nat.le_of_ble_eq_true rfl, Nat.le_of_ble_eq_true rfl⟩ ⟨Nat.le_of_ble_eq_true rfl, Nat.le_of_ble_eq_true rfl⟩ rfl hl.1 rfl (Nat.le_of_ble_eq_true rfl) rfl hAC dL_law_996 ?_
    clear hS; intro H1 locs _ hPC1 hS hF
    replace hPM := hPM.keep hPC1.1 (fun k hk => hF _ (hPM.lt2 hk) (by rintro ⟨u1, u2⟩; omega))
    clear hF
    refine lv_aload_n hx hb dL_law_999 rfl (lv_at hl 2 rfl) ?_
    refine lv_aload_n hx hb dL_law_1000 rfl (lv_at hl 0 rfl) ?_
    refine lv_iload_n hx hb dL_law_1001 rfl (lv_at hl 3 rfl) ?_
    refine lv_iconst (v := q_I 1) hx hb dL_law_1002 rfl ?_
    refine lv_iadd hx hb dL_law_1003 ?_
    rw [q_addI]
    refine q_sld (i := i + 1) hx hb hX hbl hbA hS ⟨by omega, by omega⟩ (by omega) (by omega) dL_law_1004 ?_
    refine q_if0 (tgt := 1012) hx hb g0 dL_law_1005 (by decide) ?_
    refine lv_iconst (v := q_I 0) hx hb dL_law_1012 rfl ?_
    refine q_callV hx hb hml hts hown hK hPM hS (As := [.int (q_I 0)]) (rest := [.int (q_I r)]) (st1 := .int (q_I r) :: [.int (q_I r)]) cv_RL_135 (c_M_broken l D dA (q_r 0 rfl) h2) (Nat.le_of_ble_eq_true rfl) q_kdM_0 rfl ⟨rfl, rfl, Nat.le_of_ble_eq_true rfl, Nat.le_of_ble_eq_true rfl⟩ ⟨Nat.le_of_ble_eq_true rfl, Nat.le_of_ble_eq_true rfl⟩ rfl hl.1 rfl (Nat.le_of_ble_eq_true rfl) rfl hAM dL_law_1013 ?_
    clear hS; intro H2 locs _ hPM1 hS hF
    replace hPC1 := hPC1.keep hPM1.1 (fun k hk => hF _ (hPC1.lt2 hk) (by rintro ⟨u1, u2⟩; omega))
    refine lv_icmp_eq (tgt := 1297) hx hb dL_law_1016 (by decide) (fun _ => ?_) (fun q => absurd rfl q)
    exact hnext _ _ _ _ hI2 hPC1 hPM1 hS ls hl
  · obtain ⟨r, μ1, h1, h2, hI2⟩ := hs28 c μC μM hc hI 1 (Or.inr rfl)
    refine lv_aload_n hx hb dL_law_982 rfl (lv_at hl 1 rfl) ?_
    refine lv_aload_n hx hb dL_law_983 rfl (lv_at hl 0 rfl) ?_
    refine lv_iload_n hx hb dL_law_984 rfl (lv_at hl 3 rfl) ?_
    refine lv_iconst (v := q_I 1) hx hb dL_law_985 rfl ?_
    refine lv_iadd hx hb dL_law_986 ?_
    rw [q_addI]
    refine q_sld (i := i + 1) hx hb hX hbl hbA hS ⟨by omega, by omega⟩ (by omega) (by omega) dL_law_987 ?_
    refine q_ifn (tgt := 995) hx hb (q_rI _) g0 dL_law_988 (by decide) ?_
    refine lv_iconst (v := q_I 1) hx hb dL_law_991 rfl ?_
    refine lv_goto (tgt := 996) hx hb dL_law_992 (by decide) ?_
    refine q_callV hx hb hml hts hown hK hPC hS (As := [.int (q_I 1)]) (rest := []) (st1 := .int (q_I r) :: []) cv_RL_131 (c_CR_broken l D dA (q_r 1 rfl) h1) (Nat.le_of_ble_eq_true rfl) q_kdC_0 rfl ⟨rfl, rfl, Nat.le_of_ble_eq_true rfl, Nat.le_of_ble_eq_true rfl⟩ ⟨Nat.le_of_ble_eq_true rfl, Nat.le_of_ble_eq_true rfl⟩ rfl hl.1 rfl (Nat.le_of_ble_eq_true rfl) rfl hAC dL_law_996 ?_
    clear hS; intro H1 locs _ hPC1 hS hF
    replace hPM := hPM.keep hPC1.1 (fun k hk => hF _ (hPM.lt2 hk) (by rintro ⟨u1, u2⟩; omega))
    clear hF
    refine lv_aload_n hx hb dL_law_999 rfl (lv_at hl 2 rfl) ?_
    refine lv_aload_n hx hb dL_law_1000 rfl (lv_at hl 0 rfl) ?_
    refine lv_iload_n hx hb dL_law_1001 rfl (lv_at hl 3 rfl) ?_
    refine lv_iconst (v := q_I 1) hx hb dL_law_1002 rfl ?_
    refine lv_iadd hx hb dL_law_1003 ?_
    rw [q_addI]
    refine q_sld (i := i + 1) hx hb hX hbl hbA hS ⟨by omega, by omega⟩ (by omega) (by omega) dL_law_1004 ?_
    refine q_ifn (tgt := 1012) hx hb (q_rI _) g0 dL_law_1005 (by decide) ?_
    refine lv_iconst (v := q_I 1) hx hb dL_law_1008 rfl ?_
    refine lv_goto (tgt := 1013) hx hb dL_law_1009 (by decide) ?_
    refine q_callV hx hb hml hts hown hK hPM hS (As := [.int (q_I 1)]) (rest := [.int (q_I r)]) (st1 := .int (q_I r) :: [.int (q_I r)]) cv_RL_135 (c_M_broken l D dA (q_r 1 rfl) h2) (Nat.le_of_ble_eq_true rfl) q_kdM_0 rfl ⟨rfl, rfl, Nat.le_of_ble_eq_true rfl, Nat.le_of_ble_eq_true rfl⟩ ⟨Nat.le_of_ble_eq_true rfl, Nat.le_of_ble_eq_true rfl⟩ rfl hl.1 rfl (Nat.le_of_ble_eq_true rfl) rfl hAM dL_law_1013 ?_
    clear hS; intro H2 locs _ hPM1 hS hF
    replace hPC1 := hPC1.keep hPM1.1 (fun k hk => hF _ (hPC1.lt2 hk) (by rintro ⟨u1, u2⟩; omega))
    refine lv_icmp_eq (tgt := 1297) hx hb dL_law_1016 (by decide) (fun _ => ?_) (fun q => absurd rfl q)
    exact hnext _ _ _ _ hI2 hPC1 hPM1 hS ls hl
set_option maxHeartbeats 8000000 in
set_option maxRecDepth 100000 in
theorem q_law_setMoveCost {p : Program} {l : Launch} {e : Env} {s : State} {m : MethodId} {below : List Frame} {meth : Method} {c0 : Code} {D : va_G} {dA : Nat → ClassId} {b L : Nat} {xs : Nat → Int32} (C0 : lw_At p s m meth c0 b L xs) (hK : q_K D dA s) {N : Nat} {Inv : Nat → q_M → q_M → Prop} (hs29 : q_st_setMoveCost N Inv) {z : Nat} (hz : z = s.heap.size) {i : Int} (hi0 : 0 ≤ i) (hi1 : i ≤ (L : Int) - 5) (hL : L ≤ 2560) {c : Nat} (hc : c < 512) {μC μM : q_M} {H : Heap} {locs : List Loc} (hI : Inv c μC μM) (hPC : q_P D dA q_kdC q_rhoC 77 z (z + 99) μC H) (hPM : q_P D dA q_kdM q_rhoM 22 (z + 77) (z + 99) μM H) (hS : va_S (fun q : Nat => s.heap.size ≤ q) s.heap H locs) {ls : Array Slot} (hl : lv_has ls 4 [(0, .ref b), (1, .ref (z + 0)), (2, .ref (z + 77 + 0)), (3, .int (q_I i))])
    (hnext : ∀ (μC μM : q_M) (H : Heap) (locs : List Loc), Inv (c + 1) μC μM → q_P D dA q_kdC q_rhoC 77 z (z + 99) μC H → q_P D dA q_kdM q_rhoM 22 (z + 77) (z + 99) μM H → va_S (fun q : Nat => s.heap.size ≤ q) s.heap H locs → ∀ (ls : Array Slot), lv_has ls 4 [(0, .ref b), (1, .ref (z + 0)), (2, .ref (z + 77 + 0)), (3, .int (q_I i))] → W p l e room_1 s m #[Value.ref b] below meth c0 H locs 99 19249 (lw_Z below #[Value.ref b] s) (F0 m 1297 ls [])) : W p l e room_1 s m #[Value.ref b] below meth c0 H locs 99 19249 (lw_Z below #[Value.ref b] s) (F0 m 1021 ls []) := by
  obtain ⟨hx, hb, hr, hml, hown, hts0, hX, hbl, hlocks, hgv⟩ := id C0
  have hts : ∀ w ∈ q_W, w.before #[Value.ref b] s = true := fun w hw => hts0 w (List.mem_filter.mp hw).1
  have hbA : ¬ (fun q : Nat => s.heap.size ≤ q) b := Nat.not_le.mpr hbl
  have hAC : ∀ q, q_A z 77 q → (fun q : Nat => s.heap.size ≤ q) q := fun q h => by rw [← hz]; exact h.1
  have hAM : ∀ q, q_A (z + 77) 22 q → (fun q : Nat => s.heap.size ≤ q) q := fun q h => by rw [← hz]; exact Nat.le_trans (Nat.le_add_right z 77) h.1
  obtain ⟨r, μ1, μ2, h1, h2, hI2⟩ := hs29 c μC μM hc hI _ (q_rI (xs (i + 1).toNat)) _ (q_rI (xs (i + 2).toNat)) _ (q_rI (xs (i + 3).toNat))
  refine lv_aload_n hx hb dL_law_1021 rfl (lv_at hl 1 rfl) ?_
  refine lv_aload_n hx hb dL_law_1022 rfl (lv_at hl 0 rfl) ?_
  refine lv_iload_n hx hb dL_law_1023 rfl (lv_at hl 3 rfl) ?_
  refine lv_iconst (v := q_I 1) hx hb dL_law_1024 rfl ?_
  refine lv_iadd hx hb dL_law_1025 ?_
  rw [q_addI]
  refine q_sld (i := i + 1) hx hb hX hbl hbA hS ⟨by omega, by omega⟩ (by omega) (by omega) dL_law_1026 ?_
  refine lv_aload_n hx hb dL_law_1027 rfl (lv_at hl 0 rfl) ?_
  refine lv_iload_n hx hb dL_law_1028 rfl (lv_at hl 3 rfl) ?_
  refine lv_iconst (v := q_I 2) hx hb dL_law_1029 rfl ?_
  refine lv_iadd hx hb dL_law_1030 ?_
  rw [q_addI]
  refine q_sld (i := i + 2) hx hb hX hbl hbA hS ⟨by omega, by omega⟩ (by omega) (by omega) dL_law_1031 ?_
  refine lv_aload_n hx hb dL_law_1032 rfl (lv_at hl 0 rfl) ?_
  refine lv_iload_n hx hb dL_law_1033 rfl (lv_at hl 3 rfl) ?_
  refine lv_iconst (v := q_I 3) hx hb dL_law_1034 rfl ?_
  refine lv_iadd hx hb dL_law_1035 ?_
  rw [q_addI]
  refine q_sld (i := i + 3) hx hb hX hbl hbA hS ⟨by omega, by omega⟩ (by omega) (by omega) dL_law_1036 ?_
  refine q_callV hx hb hml hts hown hK hPC hS (As := [.int (q_I (xs (i + 1).toNat).toInt), .int (q_I (xs (i + 2).toNat).toInt), .int (q_I (xs (i + 3).toNat).toInt)]) (rest := []) (st1 := .int (q_I r) :: []) cv_RL_136 (c_CR_setMoveCost l D dA (q_rI _) (q_rI _) (q_rI _) h1) (Nat.le_of_ble_eq_true rfl) q_kdC_0 rfl ⟨rfl, rfl, Nat.le_of_ble_eq_true rfl, Nat.le_of_ble_eq_true rfl⟩ ⟨Nat.le_of_ble_eq_true rfl, Nat.le_of_ble_eq_true rfl⟩ rfl hl.1 rfl (Nat.le_of_ble_eq_true rfl) rfl hAC dL_law_1037 ?_
  clear hS; intro H1 locs _ hPC1 hS hF
  replace hPM := hPM.keep hPC1.1 (fun k hk => hF _ (hPM.lt2 hk) (by rintro ⟨u1, u2⟩; omega))
  clear hF
  refine lv_aload_n hx hb dL_law_1040 rfl (lv_at hl 2 rfl) ?_
  refine lv_aload_n hx hb dL_law_1041 rfl (lv_at hl 0 rfl) ?_
  refine lv_iload_n hx hb dL_law_1042 rfl (lv_at hl 3 rfl) ?_
  refine lv_iconst (v := q_I 1) hx hb dL_law_1043 rfl ?_
  refine lv_iadd hx hb dL_law_1044 ?_
  rw [q_addI]
  refine q_sld (i := i + 1) hx hb hX hbl hbA hS ⟨by omega, by omega⟩ (by omega) (by omega) dL_law_1045 ?_
  refine lv_aload_n hx hb dL_law_1046 rfl (lv_at hl 0 rfl) ?_
  refine lv_iload_n hx hb dL_law_1047 rfl (lv_at hl 3 rfl) ?_
  refine lv_iconst (v := q_I 2) hx hb dL_law_1048 rfl ?_
  refine lv_iadd hx hb dL_law_1049 ?_
  rw [q_addI]
  refine q_sld (i := i + 2) hx hb hX hbl hbA hS ⟨by omega, by omega⟩ (by omega) (by omega) dL_law_1050 ?_
  refine lv_aload_n hx hb dL_law_1051 rfl (lv_at hl 0 rfl) ?_
  refine lv_iload_n hx hb dL_law_1052 rfl (lv_at hl 3 rfl) ?_
  refine lv_iconst (v := q_I 3) hx hb dL_law_1053 rfl ?_
  refine lv_iadd hx hb dL_law_1054 ?_
  rw [q_addI]
  refine q_sld (i := i + 3) hx hb hX hbl hbA hS ⟨by omega, by omega⟩ (by omega) (by omega) dL_law_1055 ?_
  refine q_callV hx hb hml hts hown hK hPM hS (As := [.int (q_I (xs (i + 1).toNat).toInt), .int (q_I (xs (i + 2).toNat).toInt), .int (q_I (xs (i + 3).toNat).toInt)]) (rest := [.int (q_I r)]) (st1 := .int (q_I r) :: [.int (q_I r)]) cv_RL_139 (c_M_setMoveCost l D dA (q_rI _) (q_rI _) (q_rI _) h2) (Nat.le_of_ble_eq_true rfl) q_kdM_0 rfl ⟨rfl, rfl, Nat.le_of_ble_eq_true rfl, Nat.le_of_ble_eq_true rfl⟩ ⟨Nat.le_of_ble_eq_true rfl, Nat.le_of_ble_eq_true rfl⟩ rfl hl.1 rfl (Nat.le_of_ble_eq_true rfl) rfl hAM dL_law_1056 ?_
  clear hS; intro H2 locs _ hPM1 hS hF
  replace hPC1 := hPC1.keep hPM1.1 (fun k hk => hF _ (hPC1.lt2 hk) (by rintro ⟨u1, u2⟩; omega))
  refine lv_icmp_eq (tgt := 1297) hx hb dL_law_1059 (by decide) (fun _ => ?_) (fun q => absurd rfl q)
  exact hnext _ _ _ _ hI2 hPC1 hPM1 hS ls hl
set_option maxHeartbeats 8000000 in
set_option maxRecDepth 100000 in
theorem q_law_setOutsideCosts {p : Program} {l : Launch} {e : Env} {s : State} {m : MethodId} {below : List Frame} {meth : Method} {c0 : Code} {D : va_G} {dA : Nat → ClassId} {b L : Nat} {xs : Nat → Int32} (C0 : lw_At p s m meth c0 b L xs) (hK : q_K D dA s) {N : Nat} {Inv : Nat → q_M → q_M → Prop} (hs30 : q_st_setOutsideCosts N Inv) {z : Nat} (hz : z = s.heap.size) {i : Int} (hi0 : 0 ≤ i) (hi1 : i ≤ (L : Int) - 5) (hL : L ≤ 2560) {c : Nat} (hc : c < 512) {μC μM : q_M} {H : Heap} {locs : List Loc} (hI : Inv c μC μM) (hPC : q_P D dA q_kdC q_rhoC 77 z (z + 99) μC H) (hPM : q_P D dA q_kdM q_rhoM 22 (z + 77) (z + 99) μM H) (hS : va_S (fun q : Nat => s.heap.size ≤ q) s.heap H locs) {ls : Array Slot} (hl : lv_has ls 4 [(0, .ref b), (1, .ref (z + 0)), (2, .ref (z + 77 + 0)), (3, .int (q_I i))])
    (hnext : ∀ (μC μM : q_M) (H : Heap) (locs : List Loc), Inv (c + 1) μC μM → q_P D dA q_kdC q_rhoC 77 z (z + 99) μC H → q_P D dA q_kdM q_rhoM 22 (z + 77) (z + 99) μM H → va_S (fun q : Nat => s.heap.size ≤ q) s.heap H locs → ∀ (ls : Array Slot), lv_has ls 4 [(0, .ref b), (1, .ref (z + 0)), (2, .ref (z + 77 + 0)), (3, .int (q_I i))] → W p l e room_1 s m #[Value.ref b] below meth c0 H locs 99 19249 (lw_Z below #[Value.ref b] s) (F0 m 1297 ls [])) : W p l e room_1 s m #[Value.ref b] below meth c0 H locs 99 19249 (lw_Z below #[Value.ref b] s) (F0 m 1064 ls []) := by
  obtain ⟨hx, hb, hr, hml, hown, hts0, hX, hbl, hlocks, hgv⟩ := id C0
  have hts : ∀ w ∈ q_W, w.before #[Value.ref b] s = true := fun w hw => hts0 w (List.mem_filter.mp hw).1
  have hbA : ¬ (fun q : Nat => s.heap.size ≤ q) b := Nat.not_le.mpr hbl
  have hAC : ∀ q, q_A z 77 q → (fun q : Nat => s.heap.size ≤ q) q := fun q h => by rw [← hz]; exact h.1
  have hAM : ∀ q, q_A (z + 77) 22 q → (fun q : Nat => s.heap.size ≤ q) q := fun q h => by rw [← hz]; exact Nat.le_trans (Nat.le_add_right z 77) h.1
  obtain ⟨r, μ1, μ2, h1, h2, hI2⟩ := hs30 c μC μM hc hI _ (q_rI (xs (i + 1).toNat)) _ (q_rI (xs (i + 2).toNat))
  refine lv_aload_n hx hb dL_law_1064 rfl (lv_at hl 1 rfl) ?_
  refine lv_aload_n hx hb dL_law_1065 rfl (lv_at hl 0 rfl) ?_
  refine lv_iload_n hx hb dL_law_1066 rfl (lv_at hl 3 rfl) ?_
  refine lv_iconst (v := q_I 1) hx hb dL_law_1067 rfl ?_
  refine lv_iadd hx hb dL_law_1068 ?_
  rw [q_addI]
  refine q_sld (i := i + 1) hx hb hX hbl hbA hS ⟨by omega, by omega⟩ (by omega) (by omega) dL_law_1069 ?_
  refine lv_aload_n hx hb dL_law_1070 rfl (lv_at hl 0 rfl) ?_
  refine lv_iload_n hx hb dL_law_1071 rfl (lv_at hl 3 rfl) ?_
  refine lv_iconst (v := q_I 2) hx hb dL_law_1072 rfl ?_
  refine lv_iadd hx hb dL_law_1073 ?_
  rw [q_addI]
  refine q_sld (i := i + 2) hx hb hX hbl hbA hS ⟨by omega, by omega⟩ (by omega) (by omega) dL_law_1074 ?_
  refine q_callV hx hb hml hts hown hK hPC hS (As := [.int (q_I (xs (i + 1).toNat).toInt), .int (q_I (xs (i + 2).toNat).toInt)]) (rest := []) (st1 := .int (q_I r) :: []) cv_RL_140 (c_CR_setOutsideCosts l D dA (q_rI _) (q_rI _) h1) (Nat.le_of_ble_eq_true rfl) q_kdC_0 rfl ⟨rfl, rfl, Nat.le_of_ble_eq_true rfl, Nat.le_of_ble_eq_true rfl⟩ ⟨Nat.le_of_ble_eq_true rfl, Nat.le_of_ble_eq_true rfl⟩ rfl hl.1 rfl (Nat.le_of_ble_eq_true rfl) rfl hAC dL_law_1075 ?_
  clear hS; intro H1 locs _ hPC1 hS hF
  replace hPM := hPM.keep hPC1.1 (fun k hk => hF _ (hPM.lt2 hk) (by rintro ⟨u1, u2⟩; omega))
  clear hF
  refine lv_aload_n hx hb dL_law_1078 rfl (lv_at hl 2 rfl) ?_
  refine lv_aload_n hx hb dL_law_1079 rfl (lv_at hl 0 rfl) ?_
  refine lv_iload_n hx hb dL_law_1080 rfl (lv_at hl 3 rfl) ?_
  refine lv_iconst (v := q_I 1) hx hb dL_law_1081 rfl ?_
  refine lv_iadd hx hb dL_law_1082 ?_
  rw [q_addI]
  refine q_sld (i := i + 1) hx hb hX hbl hbA hS ⟨by omega, by omega⟩ (by omega) (by omega) dL_law_1083 ?_
  refine lv_aload_n hx hb dL_law_1084 rfl (lv_at hl 0 rfl) ?_
  refine lv_iload_n hx hb dL_law_1085 rfl (lv_at hl 3 rfl) ?_
  refine lv_iconst (v := q_I 2) hx hb dL_law_1086 rfl ?_
  refine lv_iadd hx hb dL_law_1087 ?_
  rw [q_addI]
  refine q_sld (i := i + 2) hx hb hX hbl hbA hS ⟨by omega, by omega⟩ (by omega) (by omega) dL_law_1088 ?_
  refine q_callV hx hb hml hts hown hK hPM hS (As := [.int (q_I (xs (i + 1).toNat).toInt), .int (q_I (xs (i + 2).toNat).toInt)]) (rest := [.int (q_I r)]) (st1 := .int (q_I r) :: [.int (q_I r)]) cv_RL_143 (c_M_setOutsideCosts l D dA (q_rI _) (q_rI _) h2) (Nat.le_of_ble_eq_true rfl) q_kdM_0 rfl ⟨rfl, rfl, Nat.le_of_ble_eq_true rfl, Nat.le_of_ble_eq_true rfl⟩ ⟨Nat.le_of_ble_eq_true rfl, Nat.le_of_ble_eq_true rfl⟩ rfl hl.1 rfl (Nat.le_of_ble_eq_true rfl) rfl hAM dL_law_1089 ?_
  clear hS; intro H2 locs _ hPM1 hS hF
  replace hPC1 := hPC1.keep hPM1.1 (fun k hk => hF _ (hPC1.lt2 hk) (by rintro ⟨u1, u2⟩; omega))
  refine lv_icmp_eq (tgt := 1297) hx hb dL_law_1092 (by decide) (fun _ => ?_) (fun q => absurd rfl q)
  exact hnext _ _ _ _ hI2 hPC1 hPM1 hS ls hl
set_option maxHeartbeats 8000000 in
set_option maxRecDepth 100000 in
theorem q_law_repairCost {p : Program} {l : Launch} {e : Env} {s : State} {m : MethodId} {below : List Frame} {meth : Method} {c0 : Code} {D : va_G} {dA : Nat → ClassId} {b L : Nat} {xs : Nat → Int32} (C0 : lw_At p s m meth c0 b L xs) (hK : q_K D dA s) {N : Nat} {Inv : Nat → q_M → q_M → Prop} (hs31 : q_st_repairCost N Inv) {z : Nat} (hz : z = s.heap.size) {i : Int} (hi0 : 0 ≤ i) (hi1 : i ≤ (L : Int) - 5) (hL : L ≤ 2560) {c : Nat} (hc : c < 512) {μC μM : q_M} {H : Heap} {locs : List Loc} (hI : Inv c μC μM) (hPC : q_P D dA q_kdC q_rhoC 77 z (z + 99) μC H) (hPM : q_P D dA q_kdM q_rhoM 22 (z + 77) (z + 99) μM H) (hS : va_S (fun q : Nat => s.heap.size ≤ q) s.heap H locs) {ls : Array Slot} (hl : lv_has ls 4 [(0, .ref b), (1, .ref (z + 0)), (2, .ref (z + 77 + 0)), (3, .int (q_I i))])
    (hnext : ∀ (μC μM : q_M) (H : Heap) (locs : List Loc), Inv (c + 1) μC μM → q_P D dA q_kdC q_rhoC 77 z (z + 99) μC H → q_P D dA q_kdM q_rhoM 22 (z + 77) (z + 99) μM H → va_S (fun q : Nat => s.heap.size ≤ q) s.heap H locs → ∀ (ls : Array Slot), lv_has ls 4 [(0, .ref b), (1, .ref (z + 0)), (2, .ref (z + 77 + 0)), (3, .int (q_I i))] → W p l e room_1 s m #[Value.ref b] below meth c0 H locs 99 19249 (lw_Z below #[Value.ref b] s) (F0 m 1297 ls [])) : W p l e room_1 s m #[Value.ref b] below meth c0 H locs 99 19249 (lw_Z below #[Value.ref b] s) (F0 m 1097 ls []) := by
  obtain ⟨hx, hb, hr, hml, hown, hts0, hX, hbl, hlocks, hgv⟩ := id C0
  have hts : ∀ w ∈ q_W, w.before #[Value.ref b] s = true := fun w hw => hts0 w (List.mem_filter.mp hw).1
  have hbA : ¬ (fun q : Nat => s.heap.size ≤ q) b := Nat.not_le.mpr hbl
  have hAC : ∀ q, q_A z 77 q → (fun q : Nat => s.heap.size ≤ q) q := fun q h => by rw [← hz]; exact h.1
  have hAM : ∀ q, q_A (z + 77) 22 q → (fun q : Nat => s.heap.size ≤ q) q := fun q h => by rw [← hz]; exact Nat.le_trans (Nat.le_add_right z 77) h.1
  obtain ⟨r, μ1, μ2, h1, h2, hI2⟩ := hs31 c μC μM hc hI 
  refine lv_aload_n hx hb dL_law_1097 rfl (lv_at hl 1 rfl) ?_
  refine q_callV hx hb hml hts hown hK hPC hS (As := []) (rest := []) (st1 := .int (q_I r) :: []) cv_RL_144 (c_CR_repairCost l D dA  h1) (Nat.le_of_ble_eq_true rfl) q_kdC_0 rfl ⟨rfl, rfl, Nat.le_of_ble_eq_true rfl, Nat.le_of_ble_eq_true rfl⟩ ⟨Nat.le_of_ble_eq_true rfl, Nat.le_of_ble_eq_true rfl⟩ rfl hl.1 rfl (Nat.le_of_ble_eq_true rfl) rfl hAC dL_law_1098 ?_
  clear hS; intro H1 locs _ hPC1 hS hF
  replace hPM := hPM.keep hPC1.1 (fun k hk => hF _ (hPM.lt2 hk) (by rintro ⟨u1, u2⟩; omega))
  clear hF
  refine lv_aload_n hx hb dL_law_1101 rfl (lv_at hl 2 rfl) ?_
  refine q_callV hx hb hml hts hown hK hPM hS (As := []) (rest := [.int (q_I r)]) (st1 := .int (q_I r) :: [.int (q_I r)]) cv_RL_147 (c_M_repairCost l D dA  h2) (Nat.le_of_ble_eq_true rfl) q_kdM_0 rfl ⟨rfl, rfl, Nat.le_of_ble_eq_true rfl, Nat.le_of_ble_eq_true rfl⟩ ⟨Nat.le_of_ble_eq_true rfl, Nat.le_of_ble_eq_true rfl⟩ rfl hl.1 rfl (Nat.le_of_ble_eq_true rfl) rfl hAM dL_law_1102 ?_
  clear hS; intro H2 locs _ hPM1 hS hF
  replace hPC1 := hPC1.keep hPM1.1 (fun k hk => hF _ (hPC1.lt2 hk) (by rintro ⟨u1, u2⟩; omega))
  refine lv_icmp_eq (tgt := 1297) hx hb dL_law_1105 (by decide) (fun _ => ?_) (fun q => absurd rfl q)
  exact hnext _ _ _ _ hI2 hPC1 hPM1 hS ls hl
set_option maxHeartbeats 8000000 in
set_option maxRecDepth 100000 in
theorem q_law_moved {p : Program} {l : Launch} {e : Env} {s : State} {m : MethodId} {below : List Frame} {meth : Method} {c0 : Code} {D : va_G} {dA : Nat → ClassId} {b L : Nat} {xs : Nat → Int32} (C0 : lw_At p s m meth c0 b L xs) (hK : q_K D dA s) {N : Nat} {Inv : Nat → q_M → q_M → Prop} (hs32 : q_st_moved N Inv) {z : Nat} (hz : z = s.heap.size) {i : Int} (hi0 : 0 ≤ i) (hi1 : i ≤ (L : Int) - 5) (hL : L ≤ 2560) {c : Nat} (hc : c < 512) {μC μM : q_M} {H : Heap} {locs : List Loc} (hI : Inv c μC μM) (hPC : q_P D dA q_kdC q_rhoC 77 z (z + 99) μC H) (hPM : q_P D dA q_kdM q_rhoM 22 (z + 77) (z + 99) μM H) (hS : va_S (fun q : Nat => s.heap.size ≤ q) s.heap H locs) {ls : Array Slot} (hl : lv_has ls 4 [(0, .ref b), (1, .ref (z + 0)), (2, .ref (z + 77 + 0)), (3, .int (q_I i))])
    (hnext : ∀ (μC μM : q_M) (H : Heap) (locs : List Loc), Inv (c + 1) μC μM → q_P D dA q_kdC q_rhoC 77 z (z + 99) μC H → q_P D dA q_kdM q_rhoM 22 (z + 77) (z + 99) μM H → va_S (fun q : Nat => s.heap.size ≤ q) s.heap H locs → ∀ (ls : Array Slot), lv_has ls 4 [(0, .ref b), (1, .ref (z + 0)), (2, .ref (z + 77 + 0)), (3, .int (q_I i))] → W p l e room_1 s m #[Value.ref b] below meth c0 H locs 99 19249 (lw_Z below #[Value.ref b] s) (F0 m 1297 ls [])) : W p l e room_1 s m #[Value.ref b] below meth c0 H locs 99 19249 (lw_Z below #[Value.ref b] s) (F0 m 1110 ls []) := by
  obtain ⟨hx, hb, hr, hml, hown, hts0, hX, hbl, hlocks, hgv⟩ := id C0
  have hts : ∀ w ∈ q_W, w.before #[Value.ref b] s = true := fun w hw => hts0 w (List.mem_filter.mp hw).1
  have hbA : ¬ (fun q : Nat => s.heap.size ≤ q) b := Nat.not_le.mpr hbl
  have hAC : ∀ q, q_A z 77 q → (fun q : Nat => s.heap.size ≤ q) q := fun q h => by rw [← hz]; exact h.1
  have hAM : ∀ q, q_A (z + 77) 22 q → (fun q : Nat => s.heap.size ≤ q) q := fun q h => by rw [← hz]; exact Nat.le_trans (Nat.le_add_right z 77) h.1
  obtain ⟨r, μ1, μ2, h1, h2, hI2⟩ := hs32 c μC μM hc hI _ (q_rI (xs (i + 1).toNat)) _ (q_rI (xs (i + 2).toNat)) _ (q_rI (xs (i + 3).toNat))
  refine lv_aload_n hx hb dL_law_1110 rfl (lv_at hl 1 rfl) ?_
  refine lv_aload_n hx hb dL_law_1111 rfl (lv_at hl 0 rfl) ?_
  refine lv_iload_n hx hb dL_law_1112 rfl (lv_at hl 3 rfl) ?_
  refine lv_iconst (v := q_I 1) hx hb dL_law_1113 rfl ?_
  refine lv_iadd hx hb dL_law_1114 ?_
  rw [q_addI]
  refine q_sld (i := i + 1) hx hb hX hbl hbA hS ⟨by omega, by omega⟩ (by omega) (by omega) dL_law_1115 ?_
  refine lv_aload_n hx hb dL_law_1116 rfl (lv_at hl 0 rfl) ?_
  refine lv_iload_n hx hb dL_law_1117 rfl (lv_at hl 3 rfl) ?_
  refine lv_iconst (v := q_I 2) hx hb dL_law_1118 rfl ?_
  refine lv_iadd hx hb dL_law_1119 ?_
  rw [q_addI]
  refine q_sld (i := i + 2) hx hb hX hbl hbA hS ⟨by omega, by omega⟩ (by omega) (by omega) dL_law_1120 ?_
  refine lv_aload_n hx hb dL_law_1121 rfl (lv_at hl 0 rfl) ?_
  refine lv_iload_n hx hb dL_law_1122 rfl (lv_at hl 3 rfl) ?_
  refine lv_iconst (v := q_I 3) hx hb dL_law_1123 rfl ?_
  refine lv_iadd hx hb dL_law_1124 ?_
  rw [q_addI]
  refine q_sld (i := i + 3) hx hb hX hbl hbA hS ⟨by omega, by omega⟩ (by omega) (by omega) dL_law_1125 ?_
  refine q_callV hx hb hml hts hown hK hPC hS (As := [.int (q_I (xs (i + 1).toNat).toInt), .int (q_I (xs (i + 2).toNat).toInt), .int (q_I (xs (i + 3).toNat).toInt)]) (rest := []) (st1 := .int (q_I r) :: []) cv_RL_148 (c_CR_moved l D dA (q_rI _) (q_rI _) (q_rI _) h1) (Nat.le_of_ble_eq_true rfl) q_kdC_0 rfl ⟨rfl, rfl, Nat.le_of_ble_eq_true rfl, Nat.le_of_ble_eq_true rfl⟩ ⟨Nat.le_of_ble_eq_true rfl, Nat.le_of_ble_eq_true rfl⟩ rfl hl.1 rfl (Nat.le_of_ble_eq_true rfl) rfl hAC dL_law_1126 ?_
  clear hS; intro H1 locs _ hPC1 hS hF
  replace hPM := hPM.keep hPC1.1 (fun k hk => hF _ (hPM.lt2 hk) (by rintro ⟨u1, u2⟩; omega))
  clear hF
  refine lv_aload_n hx hb dL_law_1129 rfl (lv_at hl 2 rfl) ?_
  refine lv_aload_n hx hb dL_law_1130 rfl (lv_at hl 0 rfl) ?_
  refine lv_iload_n hx hb dL_law_1131 rfl (lv_at hl 3 rfl) ?_
  refine lv_iconst (v := q_I 1) hx hb dL_law_1132 rfl ?_
  refine lv_iadd hx hb dL_law_1133 ?_
  rw [q_addI]
  refine q_sld (i := i + 1) hx hb hX hbl hbA hS ⟨by omega, by omega⟩ (by omega) (by omega) dL_law_1134 ?_
  refine lv_aload_n hx hb dL_law_1135 rfl (lv_at hl 0 rfl) ?_
  refine lv_iload_n hx hb dL_law_1136 rfl (lv_at hl 3 rfl) ?_
  refine lv_iconst (v := q_I 2) hx hb dL_law_1137 rfl ?_
  refine lv_iadd hx hb dL_law_1138 ?_
  rw [q_addI]
  refine q_sld (i := i + 2) hx hb hX hbl hbA hS ⟨by omega, by omega⟩ (by omega) (by omega) dL_law_1139 ?_
  refine lv_aload_n hx hb dL_law_1140 rfl (lv_at hl 0 rfl) ?_
  refine lv_iload_n hx hb dL_law_1141 rfl (lv_at hl 3 rfl) ?_
  refine lv_iconst (v := q_I 3) hx hb dL_law_1142 rfl ?_
  refine lv_iadd hx hb dL_law_1143 ?_
  rw [q_addI]
  refine q_sld (i := i + 3) hx hb hX hbl hbA hS ⟨by omega, by omega⟩ (by omega) (by omega) dL_law_1144 ?_
  refine q_callV hx hb hml hts hown hK hPM hS (As := [.int (q_I (xs (i + 1).toNat).toInt), .int (q_I (xs (i + 2).toNat).toInt), .int (q_I (xs (i + 3).toNat).toInt)]) (rest := [.int (q_I r)]) (st1 := .int (q_I r) :: [.int (q_I r)]) cv_RL_151 (c_M_moved l D dA (q_rI _) (q_rI _) (q_rI _) h2) (Nat.le_of_ble_eq_true rfl) q_kdM_0 rfl ⟨rfl, rfl, Nat.le_of_ble_eq_true rfl, Nat.le_of_ble_eq_true rfl⟩ ⟨Nat.le_of_ble_eq_true rfl, Nat.le_of_ble_eq_true rfl⟩ rfl hl.1 rfl (Nat.le_of_ble_eq_true rfl) rfl hAM dL_law_1145 ?_
  clear hS; intro H2 locs _ hPM1 hS hF
  replace hPC1 := hPC1.keep hPM1.1 (fun k hk => hF _ (hPC1.lt2 hk) (by rintro ⟨u1, u2⟩; omega))
  refine lv_icmp_eq (tgt := 1297) hx hb dL_law_1148 (by decide) (fun _ => ?_) (fun q => absurd rfl q)
  exact hnext _ _ _ _ hI2 hPC1 hPM1 hS ls hl
set_option maxHeartbeats 8000000 in
set_option maxRecDepth 100000 in
theorem q_law_outside {p : Program} {l : Launch} {e : Env} {s : State} {m : MethodId} {below : List Frame} {meth : Method} {c0 : Code} {D : va_G} {dA : Nat → ClassId} {b L : Nat} {xs : Nat → Int32} (C0 : lw_At p s m meth c0 b L xs) (hK : q_K D dA s) {N : Nat} {Inv : Nat → q_M → q_M → Prop} (hs33 : q_st_outside N Inv) {z : Nat} (hz : z = s.heap.size) {i : Int} (hi0 : 0 ≤ i) (hi1 : i ≤ (L : Int) - 5) (hL : L ≤ 2560) {c : Nat} (hc : c < 512) {μC μM : q_M} {H : Heap} {locs : List Loc} (hI : Inv c μC μM) (hPC : q_P D dA q_kdC q_rhoC 77 z (z + 99) μC H) (hPM : q_P D dA q_kdM q_rhoM 22 (z + 77) (z + 99) μM H) (hS : va_S (fun q : Nat => s.heap.size ≤ q) s.heap H locs) {ls : Array Slot} (hl : lv_has ls 4 [(0, .ref b), (1, .ref (z + 0)), (2, .ref (z + 77 + 0)), (3, .int (q_I i))])
    (hnext : ∀ (μC μM : q_M) (H : Heap) (locs : List Loc), Inv (c + 1) μC μM → q_P D dA q_kdC q_rhoC 77 z (z + 99) μC H → q_P D dA q_kdM q_rhoM 22 (z + 77) (z + 99) μM H → va_S (fun q : Nat => s.heap.size ≤ q) s.heap H locs → ∀ (ls : Array Slot), lv_has ls 4 [(0, .ref b), (1, .ref (z + 0)), (2, .ref (z + 77 + 0)), (3, .int (q_I i))] → W p l e room_1 s m #[Value.ref b] below meth c0 H locs 99 19249 (lw_Z below #[Value.ref b] s) (F0 m 1297 ls [])) : W p l e room_1 s m #[Value.ref b] below meth c0 H locs 99 19249 (lw_Z below #[Value.ref b] s) (F0 m 1153 ls []) := by
  obtain ⟨hx, hb, hr, hml, hown, hts0, hX, hbl, hlocks, hgv⟩ := id C0
  have hts : ∀ w ∈ q_W, w.before #[Value.ref b] s = true := fun w hw => hts0 w (List.mem_filter.mp hw).1
  have hbA : ¬ (fun q : Nat => s.heap.size ≤ q) b := Nat.not_le.mpr hbl
  have hAC : ∀ q, q_A z 77 q → (fun q : Nat => s.heap.size ≤ q) q := fun q h => by rw [← hz]; exact h.1
  have hAM : ∀ q, q_A (z + 77) 22 q → (fun q : Nat => s.heap.size ≤ q) q := fun q h => by rw [← hz]; exact Nat.le_trans (Nat.le_add_right z 77) h.1
  by_cases g0 : (xs (i + 3).toNat).toInt = 0
  · obtain ⟨r, μ1, μ2, h1, h2, hI2⟩ := hs33 c μC μM hc hI _ (q_rI (xs (i + 1).toNat)) _ (q_rI (xs (i + 2).toNat)) 0 (Or.inl rfl)
    refine lv_aload_n hx hb dL_law_1153 rfl (lv_at hl 1 rfl) ?_
    refine lv_aload_n hx hb dL_law_1154 rfl (lv_at hl 0 rfl) ?_
    refine lv_iload_n hx hb dL_law_1155 rfl (lv_at hl 3 rfl) ?_
    refine lv_iconst (v := q_I 1) hx hb dL_law_1156 rfl ?_
    refine lv_iadd hx hb dL_law_1157 ?_
    rw [q_addI]
    refine q_sld (i := i + 1) hx hb hX hbl hbA hS ⟨by omega, by omega⟩ (by omega) (by omega) dL_law_1158 ?_
    refine lv_aload_n hx hb dL_law_1159 rfl (lv_at hl 0 rfl) ?_
    refine lv_iload_n hx hb dL_law_1160 rfl (lv_at hl 3 rfl) ?_
    refine lv_iconst (v := q_I 2) hx hb dL_law_1161 rfl ?_
    refine lv_iadd hx hb dL_law_1162 ?_
    rw [q_addI]
    refine q_sld (i := i + 2) hx hb hX hbl hbA hS ⟨by omega, by omega⟩ (by omega) (by omega) dL_law_1163 ?_
    refine lv_aload_n hx hb dL_law_1164 rfl (lv_at hl 0 rfl) ?_
    refine lv_iload_n hx hb dL_law_1165 rfl (lv_at hl 3 rfl) ?_
    refine lv_iconst (v := q_I 3) hx hb dL_law_1166 rfl ?_
    refine lv_iadd hx hb dL_law_1167 ?_
    rw [q_addI]
    refine q_sld (i := i + 3) hx hb hX hbl hbA hS ⟨by omega, by omega⟩ (by omega) (by omega) dL_law_1168 ?_
    refine q_if0 (tgt := 1176) hx hb g0 dL_law_1169 (by decide) ?_
    refine lv_iconst (v := q_I 0) hx hb dL_law_1176 rfl ?_
    refine q_callV hx hb hml hts hown hK hPC hS (As := [.int (q_I (xs (i + 1).toNat).toInt), .int (q_I (xs (i + 2).toNat).toInt), .int (q_I 0)]) (rest := []) (st1 := .int (q_I r) :: []) cv_RL_152 (c_CR_outside l D dA (q_rI _) (q_rI _) (q_r 0 rfl) h1) (Nat.le_of_ble_eq_true rfl) q_kdC_0 rfl ⟨rfl, rfl, Nat.le_of_ble_eq_true rfl, Nat.le_of_ble_eq_true rfl⟩ ⟨Nat.le_of_ble_eq_true rfl, Nat.le_of_ble_eq_true rfl⟩ rfl hl.1 rfl (Nat.le_of_ble_eq_true rfl) rfl hAC dL_law_1177 ?_
    clear hS; intro H1 locs _ hPC1 hS hF
    replace hPM := hPM.keep hPC1.1 (fun k hk => hF _ (hPM.lt2 hk) (by rintro ⟨u1, u2⟩; omega))
    clear hF
    refine lv_aload_n hx hb dL_law_1180 rfl (lv_at hl 2 rfl) ?_
    refine lv_aload_n hx hb dL_law_1181 rfl (lv_at hl 0 rfl) ?_
    refine lv_iload_n hx hb dL_law_1182 rfl (lv_at hl 3 rfl) ?_
    refine lv_iconst (v := q_I 1) hx hb dL_law_1183 rfl ?_
    refine lv_iadd hx hb dL_law_1184 ?_
    rw [q_addI]
    refine q_sld (i := i + 1) hx hb hX hbl hbA hS ⟨by omega, by omega⟩ (by omega) (by omega) dL_law_1185 ?_
    refine lv_aload_n hx hb dL_law_1186 rfl (lv_at hl 0 rfl) ?_
    refine lv_iload_n hx hb dL_law_1187 rfl (lv_at hl 3 rfl) ?_
    refine lv_iconst (v := q_I 2) hx hb dL_law_1188 rfl ?_
    refine lv_iadd hx hb dL_law_1189 ?_
    rw [q_addI]
    refine q_sld (i := i + 2) hx hb hX hbl hbA hS ⟨by omega, by omega⟩ (by omega) (by omega) dL_law_1190 ?_
    refine lv_aload_n hx hb dL_law_1191 rfl (lv_at hl 0 rfl) ?_
    refine lv_iload_n hx hb dL_law_1192 rfl (lv_at hl 3 rfl) ?_
    refine lv_iconst (v := q_I 3) hx hb dL_law_1193 rfl ?_
    refine lv_iadd hx hb dL_law_1194 ?_
    rw [q_addI]
    refine q_sld (i := i + 3) hx hb hX hbl hbA hS ⟨by omega, by omega⟩ (by omega) (by omega) dL_law_1195 ?_
    refine q_if0 (tgt := 1203) hx hb g0 dL_law_1196 (by decide) ?_
    refine lv_iconst (v := q_I 0) hx hb dL_law_1203 rfl ?_
    refine q_callV hx hb hml hts hown hK hPM hS (As := [.int (q_I (xs (i + 1).toNat).toInt), .int (q_I (xs (i + 2).toNat).toInt), .int (q_I 0)]) (rest := [.int (q_I r)]) (st1 := .int (q_I r) :: [.int (q_I r)]) cv_RL_156 (c_M_outside l D dA (q_rI _) (q_rI _) (q_r 0 rfl) h2) (Nat.le_of_ble_eq_true rfl) q_kdM_0 rfl ⟨rfl, rfl, Nat.le_of_ble_eq_true rfl, Nat.le_of_ble_eq_true rfl⟩ ⟨Nat.le_of_ble_eq_true rfl, Nat.le_of_ble_eq_true rfl⟩ rfl hl.1 rfl (Nat.le_of_ble_eq_true rfl) rfl hAM dL_law_1204 ?_
    clear hS; intro H2 locs _ hPM1 hS hF
    replace hPC1 := hPC1.keep hPM1.1 (fun k hk => hF _ (hPC1.lt2 hk) (by rintro ⟨u1, u2⟩; omega))
    refine lv_icmp_eq (tgt := 1297) hx hb dL_law_1207 (by decide) (fun _ => ?_) (fun q => absurd rfl q)
    exact hnext _ _ _ _ hI2 hPC1 hPM1 hS ls hl
  · obtain ⟨r, μ1, μ2, h1, h2, hI2⟩ := hs33 c μC μM hc hI _ (q_rI (xs (i + 1).toNat)) _ (q_rI (xs (i + 2).toNat)) 1 (Or.inr rfl)
    refine lv_aload_n hx hb dL_law_1153 rfl (lv_at hl 1 rfl) ?_
    refine lv_aload_n hx hb dL_law_1154 rfl (lv_at hl 0 rfl) ?_
    refine lv_iload_n hx hb dL_law_1155 rfl (lv_at hl 3 rfl) ?_
    refine lv_iconst (v := q_I 1) hx hb dL_law_1156 rfl ?_
    refine lv_iadd hx hb dL_law_1157 ?_
    rw [q_addI]
    refine q_sld (i := i + 1) hx hb hX hbl hbA hS ⟨by omega, by omega⟩ (by omega) (by omega) dL_law_1158 ?_
    refine lv_aload_n hx hb dL_law_1159 rfl (lv_at hl 0 rfl) ?_
    refine lv_iload_n hx hb dL_law_1160 rfl (lv_at hl 3 rfl) ?_
    refine lv_iconst (v := q_I 2) hx hb dL_law_1161 rfl ?_
    refine lv_iadd hx hb dL_law_1162 ?_
    rw [q_addI]
    refine q_sld (i := i + 2) hx hb hX hbl hbA hS ⟨by omega, by omega⟩ (by omega) (by omega) dL_law_1163 ?_
    refine lv_aload_n hx hb dL_law_1164 rfl (lv_at hl 0 rfl) ?_
    refine lv_iload_n hx hb dL_law_1165 rfl (lv_at hl 3 rfl) ?_
    refine lv_iconst (v := q_I 3) hx hb dL_law_1166 rfl ?_
    refine lv_iadd hx hb dL_law_1167 ?_
    rw [q_addI]
    refine q_sld (i := i + 3) hx hb hX hbl hbA hS ⟨by omega, by omega⟩ (by omega) (by omega) dL_law_1168 ?_
    refine q_ifn (tgt := 1176) hx hb (q_rI _) g0 dL_law_1169 (by decide) ?_
    refine lv_iconst (v := q_I 1) hx hb dL_law_1172 rfl ?_
    refine lv_goto (tgt := 1177) hx hb dL_law_1173 (by decide) ?_
    refine q_callV hx hb hml hts hown hK hPC hS (As := [.int (q_I (xs (i + 1).toNat).toInt), .int (q_I (xs (i + 2).toNat).toInt), .int (q_I 1)]) (rest := []) (st1 := .int (q_I r) :: []) cv_RL_152 (c_CR_outside l D dA (q_rI _) (q_rI _) (q_r 1 rfl) h1) (Nat.le_of_ble_eq_true rfl) q_kdC_0 rfl ⟨rfl, rfl, Nat.le_of_ble_eq_true rfl, Nat.le_of_ble_eq_true rfl⟩ ⟨Nat.le_of_ble_eq_true rfl, Nat.le_of_ble_eq_true rfl⟩ rfl hl.1 rfl (Nat.le_of_ble_eq_true rfl) rfl hAC dL_law_1177 ?_
    clear hS; intro H1 locs _ hPC1 hS hF
    replace hPM := hPM.keep hPC1.1 (fun k hk => hF _ (hPM.lt2 hk) (by rintro ⟨u1, u2⟩; omega))
    clear hF
    refine lv_aload_n hx hb dL_law_1180 rfl (lv_at hl 2 rfl) ?_
    refine lv_aload_n hx hb dL_law_1181 rfl (lv_at hl 0 rfl) ?_
    refine lv_iload_n hx hb dL_law_1182 rfl (lv_at hl 3 rfl) ?_
    refine lv_iconst (v := q_I 1) hx hb dL_law_1183 rfl ?_
    refine lv_iadd hx hb dL_law_1184 ?_
    rw [q_addI]
    refine q_sld (i := i + 1) hx hb hX hbl hbA hS ⟨by omega, by omega⟩ (by omega) (by omega) dL_law_1185 ?_
    refine lv_aload_n hx hb dL_law_1186 rfl (lv_at hl 0 rfl) ?_
    refine lv_iload_n hx hb dL_law_1187 rfl (lv_at hl 3 rfl) ?_
    refine lv_iconst (v := q_I 2) hx hb dL_law_1188 rfl ?_
    refine lv_iadd hx hb dL_law_1189 ?_
    rw [q_addI]
    refine q_sld (i := i + 2) hx hb hX hbl hbA hS ⟨by omega, by omega⟩ (by omega) (by omega) dL_law_1190 ?_
    refine lv_aload_n hx hb dL_law_1191 rfl (lv_at hl 0 rfl) ?_
    refine lv_iload_n hx hb dL_law_1192 rfl (lv_at hl 3 rfl) ?_
    refine lv_iconst (v := q_I 3) hx hb dL_law_1193 rfl ?_
    refine lv_iadd hx hb dL_law_1194 ?_
    rw [q_addI]
    refine q_sld (i := i + 3) hx hb hX hbl hbA hS ⟨by omega, by omega⟩ (by omega) (by omega) dL_law_1195 ?_
    refine q_ifn (tgt := 1203) hx hb (q_rI _) g0 dL_law_1196 (by decide) ?_
    refine lv_iconst (v := q_I 1) hx hb dL_law_1199 rfl ?_
    refine lv_goto (tgt := 1204) hx hb dL_law_1200 (by decide) ?_
    refine q_callV hx hb hml hts hown hK hPM hS (As := [.int (q_I (xs (i + 1).toNat).toInt), .int (q_I (xs (i + 2).toNat).toInt), .int (q_I 1)]) (rest := [.int (q_I r)]) (st1 := .int (q_I r) :: [.int (q_I r)]) cv_RL_156 (c_M_outside l D dA (q_rI _) (q_rI _) (q_r 1 rfl) h2) (Nat.le_of_ble_eq_true rfl) q_kdM_0 rfl ⟨rfl, rfl, Nat.le_of_ble_eq_true rfl, Nat.le_of_ble_eq_true rfl⟩ ⟨Nat.le_of_ble_eq_true rfl, Nat.le_of_ble_eq_true rfl⟩ rfl hl.1 rfl (Nat.le_of_ble_eq_true rfl) rfl hAM dL_law_1204 ?_
    clear hS; intro H2 locs _ hPM1 hS hF
    replace hPC1 := hPC1.keep hPM1.1 (fun k hk => hF _ (hPC1.lt2 hk) (by rintro ⟨u1, u2⟩; omega))
    refine lv_icmp_eq (tgt := 1297) hx hb dL_law_1207 (by decide) (fun _ => ?_) (fun q => absurd rfl q)
    exact hnext _ _ _ _ hI2 hPC1 hPM1 hS ls hl
set_option maxHeartbeats 8000000 in
set_option maxRecDepth 100000 in
theorem q_law_repairedStock {p : Program} {l : Launch} {e : Env} {s : State} {m : MethodId} {below : List Frame} {meth : Method} {c0 : Code} {D : va_G} {dA : Nat → ClassId} {b L : Nat} {xs : Nat → Int32} (C0 : lw_At p s m meth c0 b L xs) (hK : q_K D dA s) {N : Nat} {Inv : Nat → q_M → q_M → Prop} (hs34 : q_st_repairedStock N Inv) {z : Nat} (hz : z = s.heap.size) {i : Int} (hi0 : 0 ≤ i) (hi1 : i ≤ (L : Int) - 5) (hL : L ≤ 2560) {c : Nat} (hc : c < 512) {μC μM : q_M} {H : Heap} {locs : List Loc} (hI : Inv c μC μM) (hPC : q_P D dA q_kdC q_rhoC 77 z (z + 99) μC H) (hPM : q_P D dA q_kdM q_rhoM 22 (z + 77) (z + 99) μM H) (hS : va_S (fun q : Nat => s.heap.size ≤ q) s.heap H locs) {ls : Array Slot} (hl : lv_has ls 4 [(0, .ref b), (1, .ref (z + 0)), (2, .ref (z + 77 + 0)), (3, .int (q_I i))])
    (hnext : ∀ (μC μM : q_M) (H : Heap) (locs : List Loc), Inv (c + 1) μC μM → q_P D dA q_kdC q_rhoC 77 z (z + 99) μC H → q_P D dA q_kdM q_rhoM 22 (z + 77) (z + 99) μM H → va_S (fun q : Nat => s.heap.size ≤ q) s.heap H locs → ∀ (ls : Array Slot), lv_has ls 4 [(0, .ref b), (1, .ref (z + 0)), (2, .ref (z + 77 + 0)), (3, .int (q_I i))] → W p l e room_1 s m #[Value.ref b] below meth c0 H locs 99 19249 (lw_Z below #[Value.ref b] s) (F0 m 1297 ls [])) : W p l e room_1 s m #[Value.ref b] below meth c0 H locs 99 19249 (lw_Z below #[Value.ref b] s) (F0 m 1212 ls []) := by
  obtain ⟨hx, hb, hr, hml, hown, hts0, hX, hbl, hlocks, hgv⟩ := id C0
  have hts : ∀ w ∈ q_W, w.before #[Value.ref b] s = true := fun w hw => hts0 w (List.mem_filter.mp hw).1
  have hbA : ¬ (fun q : Nat => s.heap.size ≤ q) b := Nat.not_le.mpr hbl
  have hAC : ∀ q, q_A z 77 q → (fun q : Nat => s.heap.size ≤ q) q := fun q h => by rw [← hz]; exact h.1
  have hAM : ∀ q, q_A (z + 77) 22 q → (fun q : Nat => s.heap.size ≤ q) q := fun q h => by rw [← hz]; exact Nat.le_trans (Nat.le_add_right z 77) h.1
  obtain ⟨r, μ1, μ2, h1, h2, hI2⟩ := hs34 c μC μM hc hI _ (q_rI (xs (i + 1).toNat)) _ (q_rI (xs (i + 2).toNat))
  refine lv_aload_n hx hb dL_law_1212 rfl (lv_at hl 1 rfl) ?_
  refine lv_aload_n hx hb dL_law_1213 rfl (lv_at hl 0 rfl) ?_
  refine lv_iload_n hx hb dL_law_1214 rfl (lv_at hl 3 rfl) ?_
  refine lv_iconst (v := q_I 1) hx hb dL_law_1215 rfl ?_
  refine lv_iadd hx hb dL_law_1216 ?_
  rw [q_addI]
  refine q_sld (i := i + 1) hx hb hX hbl hbA hS ⟨by omega, by omega⟩ (by omega) (by omega) dL_law_1217 ?_
  refine lv_aload_n hx hb dL_law_1218 rfl (lv_at hl 0 rfl) ?_
  refine lv_iload_n hx hb dL_law_1219 rfl (lv_at hl 3 rfl) ?_
  refine lv_iconst (v := q_I 2) hx hb dL_law_1220 rfl ?_
  refine lv_iadd hx hb dL_law_1221 ?_
  rw [q_addI]
  refine q_sld (i := i + 2) hx hb hX hbl hbA hS ⟨by omega, by omega⟩ (by omega) (by omega) dL_law_1222 ?_
  refine q_callV hx hb hml hts hown hK hPC hS (As := [.int (q_I (xs (i + 1).toNat).toInt), .int (q_I (xs (i + 2).toNat).toInt)]) (rest := []) (st1 := .int (q_I r) :: []) cv_RL_157 (c_CR_repairedStock l D dA (q_rI _) (q_rI _) h1) (Nat.le_of_ble_eq_true rfl) q_kdC_0 rfl ⟨rfl, rfl, Nat.le_of_ble_eq_true rfl, Nat.le_of_ble_eq_true rfl⟩ ⟨Nat.le_of_ble_eq_true rfl, Nat.le_of_ble_eq_true rfl⟩ rfl hl.1 rfl (Nat.le_of_ble_eq_true rfl) rfl hAC dL_law_1223 ?_
  clear hS; intro H1 locs _ hPC1 hS hF
  replace hPM := hPM.keep hPC1.1 (fun k hk => hF _ (hPM.lt2 hk) (by rintro ⟨u1, u2⟩; omega))
  clear hF
  refine lv_aload_n hx hb dL_law_1226 rfl (lv_at hl 2 rfl) ?_
  refine lv_aload_n hx hb dL_law_1227 rfl (lv_at hl 0 rfl) ?_
  refine lv_iload_n hx hb dL_law_1228 rfl (lv_at hl 3 rfl) ?_
  refine lv_iconst (v := q_I 1) hx hb dL_law_1229 rfl ?_
  refine lv_iadd hx hb dL_law_1230 ?_
  rw [q_addI]
  refine q_sld (i := i + 1) hx hb hX hbl hbA hS ⟨by omega, by omega⟩ (by omega) (by omega) dL_law_1231 ?_
  refine lv_aload_n hx hb dL_law_1232 rfl (lv_at hl 0 rfl) ?_
  refine lv_iload_n hx hb dL_law_1233 rfl (lv_at hl 3 rfl) ?_
  refine lv_iconst (v := q_I 2) hx hb dL_law_1234 rfl ?_
  refine lv_iadd hx hb dL_law_1235 ?_
  rw [q_addI]
  refine q_sld (i := i + 2) hx hb hX hbl hbA hS ⟨by omega, by omega⟩ (by omega) (by omega) dL_law_1236 ?_
  refine q_callV hx hb hml hts hown hK hPM hS (As := [.int (q_I (xs (i + 1).toNat).toInt), .int (q_I (xs (i + 2).toNat).toInt)]) (rest := [.int (q_I r)]) (st1 := .int (q_I r) :: [.int (q_I r)]) cv_RL_160 (c_M_repairedStock l D dA (q_rI _) (q_rI _) h2) (Nat.le_of_ble_eq_true rfl) q_kdM_0 rfl ⟨rfl, rfl, Nat.le_of_ble_eq_true rfl, Nat.le_of_ble_eq_true rfl⟩ ⟨Nat.le_of_ble_eq_true rfl, Nat.le_of_ble_eq_true rfl⟩ rfl hl.1 rfl (Nat.le_of_ble_eq_true rfl) rfl hAM dL_law_1237 ?_
  clear hS; intro H2 locs _ hPM1 hS hF
  replace hPC1 := hPC1.keep hPM1.1 (fun k hk => hF _ (hPC1.lt2 hk) (by rintro ⟨u1, u2⟩; omega))
  refine lv_icmp_eq (tgt := 1297) hx hb dL_law_1240 (by decide) (fun _ => ?_) (fun q => absurd rfl q)
  exact hnext _ _ _ _ hI2 hPC1 hPM1 hS ls hl
set_option maxHeartbeats 8000000 in
set_option maxRecDepth 100000 in
theorem q_law_apply {p : Program} {l : Launch} {e : Env} {s : State} {m : MethodId} {below : List Frame} {meth : Method} {c0 : Code} {D : va_G} {dA : Nat → ClassId} {b L : Nat} {xs : Nat → Int32} (C0 : lw_At p s m meth c0 b L xs) (hK : q_K D dA s) {N : Nat} {Inv : Nat → q_M → q_M → Prop} (hs35 : q_st_apply N Inv) {z : Nat} (hz : z = s.heap.size) {i : Int} (hi0 : 0 ≤ i) (hi1 : i ≤ (L : Int) - 5) (hL : L ≤ 2560) {c : Nat} (hc : c < 512) {μC μM : q_M} {H : Heap} {locs : List Loc} (hI : Inv c μC μM) (hPC : q_P D dA q_kdC q_rhoC 77 z (z + 99) μC H) (hPM : q_P D dA q_kdM q_rhoM 22 (z + 77) (z + 99) μM H) (hS : va_S (fun q : Nat => s.heap.size ≤ q) s.heap H locs) {ls : Array Slot} (hl : lv_has ls 4 [(0, .ref b), (1, .ref (z + 0)), (2, .ref (z + 77 + 0)), (3, .int (q_I i))])
    (hnext : ∀ (μC μM : q_M) (H : Heap) (locs : List Loc), Inv (c + 1) μC μM → q_P D dA q_kdC q_rhoC 77 z (z + 99) μC H → q_P D dA q_kdM q_rhoM 22 (z + 77) (z + 99) μM H → va_S (fun q : Nat => s.heap.size ≤ q) s.heap H locs → ∀ (ls : Array Slot), lv_has ls 4 [(0, .ref b), (1, .ref (z + 0)), (2, .ref (z + 77 + 0)), (3, .int (q_I i))] → W p l e room_1 s m #[Value.ref b] below meth c0 H locs 99 19249 (lw_Z below #[Value.ref b] s) (F0 m 1297 ls [])) : W p l e room_1 s m #[Value.ref b] below meth c0 H locs 99 19249 (lw_Z below #[Value.ref b] s) (F0 m 1245 ls []) := by
  obtain ⟨hx, hb, hr, hml, hown, hts0, hX, hbl, hlocks, hgv⟩ := id C0
  have hts : ∀ w ∈ q_W, w.before #[Value.ref b] s = true := fun w hw => hts0 w (List.mem_filter.mp hw).1
  have hbA : ¬ (fun q : Nat => s.heap.size ≤ q) b := Nat.not_le.mpr hbl
  have hAC : ∀ q, q_A z 77 q → (fun q : Nat => s.heap.size ≤ q) q := fun q h => by rw [← hz]; exact h.1
  have hAM : ∀ q, q_A (z + 77) 22 q → (fun q : Nat => s.heap.size ≤ q) q := fun q h => by rw [← hz]; exact Nat.le_trans (Nat.le_add_right z 77) h.1
  by_cases g0 : (xs (i + 1).toNat).toInt = 0
  · obtain ⟨r, μ1, μ2, h1, h2, hI2⟩ := hs35 c μC μM hc hI 0 (Or.inl rfl)
    refine lv_aload_n hx hb dL_law_1245 rfl (lv_at hl 1 rfl) ?_
    refine lv_aload_n hx hb dL_law_1246 rfl (lv_at hl 0 rfl) ?_
    refine lv_iload_n hx hb dL_law_1247 rfl (lv_at hl 3 rfl) ?_
    refine lv_iconst (v := q_I 1) hx hb dL_law_1248 rfl ?_
    refine lv_iadd hx hb dL_law_1249 ?_
    rw [q_addI]
    refine q_sld (i := i + 1) hx hb hX hbl hbA hS ⟨by omega, by omega⟩ (by omega) (by omega) dL_law_1250 ?_
    refine q_if0 (tgt := 1258) hx hb g0 dL_law_1251 (by decide) ?_
    refine lv_iconst (v := q_I 0) hx hb dL_law_1258 rfl ?_
    refine q_callV hx hb hml hts hown hK hPC hS (As := [.int (q_I 0)]) (rest := []) (st1 := .int (q_I r) :: []) cv_RL_161 (c_CR_apply l D dA (q_r 0 rfl) h1) (Nat.le_of_ble_eq_true rfl) q_kdC_0 rfl ⟨rfl, rfl, Nat.le_of_ble_eq_true rfl, Nat.le_of_ble_eq_true rfl⟩ ⟨Nat.le_of_ble_eq_true rfl, Nat.le_of_ble_eq_true rfl⟩ rfl hl.1 rfl (Nat.le_of_ble_eq_true rfl) rfl hAC dL_law_1259 ?_
    clear hS; intro H1 locs _ hPC1 hS hF
    replace hPM := hPM.keep hPC1.1 (fun k hk => hF _ (hPM.lt2 hk) (by rintro ⟨u1, u2⟩; omega))
    clear hF
    refine lv_aload_n hx hb dL_law_1262 rfl (lv_at hl 2 rfl) ?_
    refine lv_aload_n hx hb dL_law_1263 rfl (lv_at hl 0 rfl) ?_
    refine lv_iload_n hx hb dL_law_1264 rfl (lv_at hl 3 rfl) ?_
    refine lv_iconst (v := q_I 1) hx hb dL_law_1265 rfl ?_
    refine lv_iadd hx hb dL_law_1266 ?_
    rw [q_addI]
    refine q_sld (i := i + 1) hx hb hX hbl hbA hS ⟨by omega, by omega⟩ (by omega) (by omega) dL_law_1267 ?_
    refine q_if0 (tgt := 1275) hx hb g0 dL_law_1268 (by decide) ?_
    refine lv_iconst (v := q_I 0) hx hb dL_law_1275 rfl ?_
    refine q_callV hx hb hml hts hown hK hPM hS (As := [.int (q_I 0)]) (rest := [.int (q_I r)]) (st1 := .int (q_I r) :: [.int (q_I r)]) cv_RL_164 (c_M_apply l D dA (q_r 0 rfl) h2) (Nat.le_of_ble_eq_true rfl) q_kdM_0 rfl ⟨rfl, rfl, Nat.le_of_ble_eq_true rfl, Nat.le_of_ble_eq_true rfl⟩ ⟨Nat.le_of_ble_eq_true rfl, Nat.le_of_ble_eq_true rfl⟩ rfl hl.1 rfl (Nat.le_of_ble_eq_true rfl) rfl hAM dL_law_1276 ?_
    clear hS; intro H2 locs _ hPM1 hS hF
    replace hPC1 := hPC1.keep hPM1.1 (fun k hk => hF _ (hPC1.lt2 hk) (by rintro ⟨u1, u2⟩; omega))
    refine lv_icmp_eq (tgt := 1297) hx hb dL_law_1279 (by decide) (fun _ => ?_) (fun q => absurd rfl q)
    exact hnext _ _ _ _ hI2 hPC1 hPM1 hS ls hl
  · obtain ⟨r, μ1, μ2, h1, h2, hI2⟩ := hs35 c μC μM hc hI 1 (Or.inr rfl)
    refine lv_aload_n hx hb dL_law_1245 rfl (lv_at hl 1 rfl) ?_
    refine lv_aload_n hx hb dL_law_1246 rfl (lv_at hl 0 rfl) ?_
    refine lv_iload_n hx hb dL_law_1247 rfl (lv_at hl 3 rfl) ?_
    refine lv_iconst (v := q_I 1) hx hb dL_law_1248 rfl ?_
    refine lv_iadd hx hb dL_law_1249 ?_
    rw [q_addI]
    refine q_sld (i := i + 1) hx hb hX hbl hbA hS ⟨by omega, by omega⟩ (by omega) (by omega) dL_law_1250 ?_
    refine q_ifn (tgt := 1258) hx hb (q_rI _) g0 dL_law_1251 (by decide) ?_
    refine lv_iconst (v := q_I 1) hx hb dL_law_1254 rfl ?_
    refine lv_goto (tgt := 1259) hx hb dL_law_1255 (by decide) ?_
    refine q_callV hx hb hml hts hown hK hPC hS (As := [.int (q_I 1)]) (rest := []) (st1 := .int (q_I r) :: []) cv_RL_161 (c_CR_apply l D dA (q_r 1 rfl) h1) (Nat.le_of_ble_eq_true rfl) q_kdC_0 rfl ⟨rfl, rfl, Nat.le_of_ble_eq_true rfl, Nat.le_of_ble_eq_true rfl⟩ ⟨Nat.le_of_ble_eq_true rfl, Nat.le_of_ble_eq_true rfl⟩ rfl hl.1 rfl (Nat.le_of_ble_eq_true rfl) rfl hAC dL_law_1259 ?_
    clear hS; intro H1 locs _ hPC1 hS hF
    replace hPM := hPM.keep hPC1.1 (fun k hk => hF _ (hPM.lt2 hk) (by rintro ⟨u1, u2⟩; omega))
    clear hF
    refine lv_aload_n hx hb dL_law_1262 rfl (lv_at hl 2 rfl) ?_
    refine lv_aload_n hx hb dL_law_1263 rfl (lv_at hl 0 rfl) ?_
    refine lv_iload_n hx hb dL_law_1264 rfl (lv_at hl 3 rfl) ?_
    refine lv_iconst (v := q_I 1) hx hb dL_law_1265 rfl ?_
    refine lv_iadd hx hb dL_law_1266 ?_
    rw [q_addI]
    refine q_sld (i := i + 1) hx hb hX hbl hbA hS ⟨by omega, by omega⟩ (by omega) (by omega) dL_law_1267 ?_
    refine q_ifn (tgt := 1275) hx hb (q_rI _) g0 dL_law_1268 (by decide) ?_
    refine lv_iconst (v := q_I 1) hx hb dL_law_1271 rfl ?_
    refine lv_goto (tgt := 1276) hx hb dL_law_1272 (by decide) ?_
    refine q_callV hx hb hml hts hown hK hPM hS (As := [.int (q_I 1)]) (rest := [.int (q_I r)]) (st1 := .int (q_I r) :: [.int (q_I r)]) cv_RL_164 (c_M_apply l D dA (q_r 1 rfl) h2) (Nat.le_of_ble_eq_true rfl) q_kdM_0 rfl ⟨rfl, rfl, Nat.le_of_ble_eq_true rfl, Nat.le_of_ble_eq_true rfl⟩ ⟨Nat.le_of_ble_eq_true rfl, Nat.le_of_ble_eq_true rfl⟩ rfl hl.1 rfl (Nat.le_of_ble_eq_true rfl) rfl hAM dL_law_1276 ?_
    clear hS; intro H2 locs _ hPM1 hS hF
    replace hPC1 := hPC1.keep hPM1.1 (fun k hk => hF _ (hPC1.lt2 hk) (by rintro ⟨u1, u2⟩; omega))
    refine lv_icmp_eq (tgt := 1297) hx hb dL_law_1279 (by decide) (fun _ => ?_) (fun q => absurd rfl q)
    exact hnext _ _ _ _ hI2 hPC1 hPM1 hS ls hl
set_option maxHeartbeats 8000000 in
set_option maxRecDepth 100000 in
theorem q_law_restore {p : Program} {l : Launch} {e : Env} {s : State} {m : MethodId} {below : List Frame} {meth : Method} {c0 : Code} {D : va_G} {dA : Nat → ClassId} {b L : Nat} {xs : Nat → Int32} (C0 : lw_At p s m meth c0 b L xs) (hK : q_K D dA s) {N : Nat} {Inv : Nat → q_M → q_M → Prop} (hs36 : q_st_restore N Inv) {z : Nat} (hz : z = s.heap.size) {i : Int} (hi0 : 0 ≤ i) (hi1 : i ≤ (L : Int) - 5) (hL : L ≤ 2560) {c : Nat} (hc : c < 512) {μC μM : q_M} {H : Heap} {locs : List Loc} (hI : Inv c μC μM) (hPC : q_P D dA q_kdC q_rhoC 77 z (z + 99) μC H) (hPM : q_P D dA q_kdM q_rhoM 22 (z + 77) (z + 99) μM H) (hS : va_S (fun q : Nat => s.heap.size ≤ q) s.heap H locs) {ls : Array Slot} (hl : lv_has ls 4 [(0, .ref b), (1, .ref (z + 0)), (2, .ref (z + 77 + 0)), (3, .int (q_I i))])
    (hnext : ∀ (μC μM : q_M) (H : Heap) (locs : List Loc), Inv (c + 1) μC μM → q_P D dA q_kdC q_rhoC 77 z (z + 99) μC H → q_P D dA q_kdM q_rhoM 22 (z + 77) (z + 99) μM H → va_S (fun q : Nat => s.heap.size ≤ q) s.heap H locs → ∀ (ls : Array Slot), lv_has ls 4 [(0, .ref b), (1, .ref (z + 0)), (2, .ref (z + 77 + 0)), (3, .int (q_I i))] → W p l e room_1 s m #[Value.ref b] below meth c0 H locs 99 19249 (lw_Z below #[Value.ref b] s) (F0 m 1297 ls [])) : W p l e room_1 s m #[Value.ref b] below meth c0 H locs 99 19249 (lw_Z below #[Value.ref b] s) (F0 m 1284 ls []) := by
  obtain ⟨hx, hb, hr, hml, hown, hts0, hX, hbl, hlocks, hgv⟩ := id C0
  have hts : ∀ w ∈ q_W, w.before #[Value.ref b] s = true := fun w hw => hts0 w (List.mem_filter.mp hw).1
  have hbA : ¬ (fun q : Nat => s.heap.size ≤ q) b := Nat.not_le.mpr hbl
  have hAC : ∀ q, q_A z 77 q → (fun q : Nat => s.heap.size ≤ q) q := fun q h => by rw [← hz]; exact h.1
  have hAM : ∀ q, q_A (z + 77) 22 q → (fun q : Nat => s.heap.size ≤ q) q := fun q h => by rw [← hz]; exact Nat.le_trans (Nat.le_add_right z 77) h.1
  obtain ⟨r, μ1, μ2, h1, h2, hI2⟩ := hs36 c μC μM hc hI 
  refine lv_aload_n hx hb dL_law_1284 rfl (lv_at hl 1 rfl) ?_
  refine q_callV hx hb hml hts hown hK hPC hS (As := []) (rest := []) (st1 := .int (q_I r) :: []) cv_RL_165 (c_CR_restore l D dA  h1) (Nat.le_of_ble_eq_true rfl) q_kdC_0 rfl ⟨rfl, rfl, Nat.le_of_ble_eq_true rfl, Nat.le_of_ble_eq_true rfl⟩ ⟨Nat.le_of_ble_eq_true rfl, Nat.le_of_ble_eq_true rfl⟩ rfl hl.1 rfl (Nat.le_of_ble_eq_true rfl) rfl hAC dL_law_1285 ?_
  clear hS; intro H1 locs _ hPC1 hS hF
  replace hPM := hPM.keep hPC1.1 (fun k hk => hF _ (hPM.lt2 hk) (by rintro ⟨u1, u2⟩; omega))
  clear hF
  refine lv_aload_n hx hb dL_law_1288 rfl (lv_at hl 2 rfl) ?_
  refine q_callV hx hb hml hts hown hK hPM hS (As := []) (rest := [.int (q_I r)]) (st1 := .int (q_I r) :: [.int (q_I r)]) cv_RL_168 (c_M_restore l D dA  h2) (Nat.le_of_ble_eq_true rfl) q_kdM_0 rfl ⟨rfl, rfl, Nat.le_of_ble_eq_true rfl, Nat.le_of_ble_eq_true rfl⟩ ⟨Nat.le_of_ble_eq_true rfl, Nat.le_of_ble_eq_true rfl⟩ rfl hl.1 rfl (Nat.le_of_ble_eq_true rfl) rfl hAM dL_law_1289 ?_
  clear hS; intro H2 locs _ hPM1 hS hF
  replace hPC1 := hPC1.keep hPM1.1 (fun k hk => hF _ (hPC1.lt2 hk) (by rintro ⟨u1, u2⟩; omega))
  refine lv_icmp_eq (tgt := 1297) hx hb dL_law_1292 (by decide) (fun _ => ?_) (fun q => absurd rfl q)
  exact hnext _ _ _ _ hI2 hPC1 hPM1 hS ls hl
set_option maxHeartbeats 8000000 in
set_option maxRecDepth 100000 in
theorem q_law_loop {p : Program} {l : Launch} {e : Env} {s : State} {m : MethodId} {below : List Frame} {meth : Method} {c : Code} {D : va_G} {dA : Nat → ClassId} {b L : Nat} {xs : Nat → Int32} (hL : L ≤ 2560) (C0 : lw_At p s m meth c b L xs) (hK : q_K D dA s) {N : Nat} {Inv : Nat → q_M → q_M → Prop} (hs0 : q_st_reset N Inv) (hs1 : q_st_setStock N Inv) (hs2 : q_st_change N Inv) (hs3 : q_st_send N Inv) (hs4 : q_st_receive N Inv) (hs5 : q_st_stock N Inv) (hs6 : q_st_inChannel N Inv) (hs7 : q_st_event N Inv) (hs8 : q_st_clock N Inv) (hs9 : q_st_order N Inv) (hs10 : q_st_count N Inv) (hs11 : q_st_eventsOf N Inv) (hs12 : q_st_beginSnapshot N Inv) (hs13 : q_st_abandonSnapshot N Inv) (hs14 : q_st_recorded N Inv) (hs15 : q_st_takeSnapshot N Inv) (hs16 : q_st_setCut N Inv) (hs17 : q_st_cut N Inv) (hs18 : q_st_orphans N Inv) (hs19 : q_st_lowerCut N Inv) (hs20 : q_st_raiseCut N Inv) (hs21 : q_st_stockAtCut N Inv) (hs22 : q_st_inTransit N Inv) (hs23 : q_st_type N Inv) (hs24 : q_st_clearText N Inv) (hs25 : q_st_addRule N Inv) (hs26 : q_st_removeRule N Inv) (hs27 : q_st_rule N Inv) (hs28 : q_st_broken N Inv) (hs29 : q_st_setMoveCost N Inv) (hs30 : q_st_setOutsideCosts N Inv) (hs31 : q_st_repairCost N Inv) (hs32 : q_st_moved N Inv) (hs33 : q_st_outside N Inv) (hs34 : q_st_repairedStock N Inv) (hs35 : q_st_apply N Inv) (hs36 : q_st_restore N Inv) {z : Nat} (hz : z = s.heap.size) :
    ∀ (n t : Nat), t + n = 513 → ∀ (cn : Nat) (μC μM : q_M) (H : Heap) (locs : List Loc), cn ≤ t → t ≤ 512 → Inv cn μC μM → q_P D dA q_kdC q_rhoC 77 z (z + 99) μC H → q_P D dA q_kdM q_rhoM 22 (z + 77) (z + 99) μM H → va_S (fun q : Nat => s.heap.size ≤ q) s.heap H locs → ∀ (ls : Array Slot), lv_has ls 4 [(0, .ref b), (1, .ref (z + 0)), (2, .ref (z + 77 + 0)), (3, .int (q_I (5 * (t : Int))))] → W p l e room_1 s m #[Value.ref b] below meth c H locs 99 19249 (lw_Z below #[Value.ref b] s) (F0 m 18 ls []) := by
  obtain ⟨hx, hb, hr, hml, hown, hts0, hX, hbl, hlocks, hgv⟩ := id C0
  have hts : ∀ w ∈ q_W, w.before #[Value.ref b] s = true := fun w hw => hts0 w (List.mem_filter.mp hw).1
  have hbA : ¬ (fun q : Nat => s.heap.size ≤ q) b := Nat.not_le.mpr hbl
  have hAC : ∀ q, q_A z 77 q → (fun q : Nat => s.heap.size ≤ q) q := fun q h => by rw [← hz]; exact h.1
  have hAM : ∀ q, q_A (z + 77) 22 q → (fun q : Nat => s.heap.size ≤ q) q := fun q h => by rw [← hz]; exact Nat.le_trans (Nat.le_add_right z 77) h.1
  intro n
  induction n with
  | zero =>
    intro t h1 cn μC μM H locs h2 h3
    exact absurd h1 (by omega)
  | succ n ih =>
    intro t h1 cn μC μM H locs hct ht hI hPC hPM hS ls hl
    obtain ⟨i, hi⟩ : ∃ i : Int, i = 5 * (t : Int) := ⟨_, rfl⟩
    rw [← hi] at hl
    have ri : q_R i := ⟨by omega, by omega⟩
    have rL : q_R (L : Int) := ⟨by omega, by omega⟩
    have rL5 : q_R ((L : Int) - 5) := ⟨by omega, by omega⟩
    refine lv_iload_n hx hb dL_law_18 rfl (lv_at hl 3 rfl) ?_
    refine lv_aload_n hx hb dL_law_19 rfl (lv_at hl 0 rfl) ?_
    refine va_slen hx hb hX hbl hbA hS dL_law_20 ?_
    refine lv_iconst (v := q_I 5) hx hb dL_law_21 rfl ?_
    refine lv_isub hx hb dL_law_22 ?_
    rw [show Int32.ofNat L - q_I 5 = q_I ((L : Int) - 5) from q_subI (L : Int) 5]
    refine lv_icmp_gt (tgt := 1303) hx hb dL_law_23 (by decide) (fun g => ?_) (fun g => ?_)
    · refine lv_iconst (v := 1) hx hb dL_law_1303 rfl ?_
      refine va_forget (fun q hq => hS.2.2 q hq) ?_
      exact lw_ret hx hb hr hlocks dL_law_1304
    · have hle : i ≤ (L : Int) - 5 := by
        rcases Int.lt_or_le ((L : Int) - 5) i with q | q
        · exact absurd ((q_ltI rL5 ri).mpr q) g
        · exact q
      clear g
      have hc : cn < 512 := by omega
      have hnext : ∀ (μC μM : q_M) (H : Heap) (locs : List Loc), Inv (cn + 1) μC μM → q_P D dA q_kdC q_rhoC 77 z (z + 99) μC H → q_P D dA q_kdM q_rhoM 22 (z + 77) (z + 99) μM H → va_S (fun q : Nat => s.heap.size ≤ q) s.heap H locs → ∀ (ls : Array Slot), lv_has ls 4 [(0, .ref b), (1, .ref (z + 0)), (2, .ref (z + 77 + 0)), (3, .int (q_I i))] → W p l e room_1 s m #[Value.ref b] below meth c H locs 99 19249 (lw_Z below #[Value.ref b] s) (F0 m 1297 ls []) := by
        intro μC μM H locs hI hPC hPM hS ls hl
        refine lv_iinc (k := 3) (lv' := [(3, .int (q_I (i + 5))), (0, .ref b), (1, .ref (z + 0)), (2, .ref (z + 77 + 0))]) hx hb dL_law_1297 hl rfl (q_addI i 5) (by decide) rfl (fun ls hl => ?_)
        refine lv_goto (tgt := 18) hx hb dL_law_1300 (by decide) ?_
        exact ih (t + 1) (by omega) (cn + 1) μC μM H locs (by omega) (by omega) hI hPC hPM hS ls (by rw [show 5 * ((t + 1 : Nat) : Int) = i + 5 by omega]; exact lv_sub hl [1, 2, 3, 0] rfl)
      refine lv_aload_n hx hb dL_law_26 rfl (lv_at hl 0 rfl) ?_
      refine lv_iload_n hx hb dL_law_27 rfl (lv_at hl 3 rfl) ?_
      refine q_sld hx hb hX hbl hbA hS ri (by omega) (by omega) dL_law_28 ?_
      refine lv_bipush (v := q_I 63) hx hb dL_law_29 (by decide) ?_
      refine lv_iand hx hb dL_law_31 ?_
      rw [← q_asI (q_I (xs i.toNat).toInt &&& q_I 63)]
      have rj := q_rI (q_I (xs i.toNat).toInt &&& q_I 63)
      generalize (q_I (xs i.toNat).toInt &&& q_I 63).toInt = j at rj ⊢
      by_cases g0 : j = 0
      · exact q_tabIn (tgt := 196) (v := 0) hx hb rj g0 dL_law_32 (by decide) (by decide) rfl (by decide) (q_law_reset C0 hK hs0 hz (by omega) hle hL hc hI hPC hPM hS hl hnext)
      · skip
        by_cases g1 : j = 1
        · exact q_tabIn (tgt := 219) (v := 1) hx hb rj g1 dL_law_32 (by decide) (by decide) rfl (by decide) (q_law_setStock C0 hK hs1 hz (by omega) hle hL hc hI hPC hPM hS hl hnext)
        · skip
          by_cases g2 : j = 2
          · exact q_tabIn (tgt := 262) (v := 2) hx hb rj g2 dL_law_32 (by decide) (by decide) rfl (by decide) (q_law_change C0 hK hs2 hz (by omega) hle hL hc hI hPC hPM hS hl hnext)
          · skip
            by_cases g3 : j = 3
            · exact q_tabIn (tgt := 305) (v := 3) hx hb rj g3 dL_law_32 (by decide) (by decide) rfl (by decide) (q_law_send C0 hK hs3 hz (by omega) hle hL hc hI hPC hPM hS hl hnext)
            · skip
              by_cases g4 : j = 4
              · exact q_tabIn (tgt := 358) (v := 4) hx hb rj g4 dL_law_32 (by decide) (by decide) rfl (by decide) (q_law_receive C0 hK hs4 hz (by omega) hle hL hc hI hPC hPM hS hl hnext)
              · skip
                by_cases g5 : j = 5
                · exact q_tabIn (tgt := 391) (v := 5) hx hb rj g5 dL_law_32 (by decide) (by decide) rfl (by decide) (q_law_stock C0 hK hs5 hz (by omega) hle hL hc hI hPC hPM hS hl hnext)
                · skip
                  by_cases g6 : j = 6
                  · exact q_tabIn (tgt := 424) (v := 6) hx hb rj g6 dL_law_32 (by decide) (by decide) rfl (by decide) (q_law_inChannel C0 hK hs6 hz (by omega) hle hL hc hI hPC hPM hS hl hnext)
                  · skip
                    by_cases g7 : j = 7
                    · exact q_tabIn (tgt := 477) (v := 7) hx hb rj g7 dL_law_32 (by decide) (by decide) rfl (by decide) (q_law_event C0 hK hs7 hz (by omega) hle hL hc hI hPC hPM hS hl hnext)
                    · skip
                      by_cases g8 : j = 8
                      · exact q_tabIn (tgt := 510) (v := 8) hx hb rj g8 dL_law_32 (by decide) (by decide) rfl (by decide) (q_law_clock C0 hK hs8 hz (by omega) hle hL hc hI hPC hPM hS hl hnext)
                      · skip
                        by_cases g9 : j = 9
                        · exact q_tabIn (tgt := 543) (v := 9) hx hb rj g9 dL_law_32 (by decide) (by decide) rfl (by decide) (q_law_order C0 hK hs9 hz (by omega) hle hL hc hI hPC hPM hS hl hnext)
                        · skip
                          by_cases g10 : j = 10
                          · exact q_tabIn (tgt := 576) (v := 10) hx hb rj g10 dL_law_32 (by decide) (by decide) rfl (by decide) (q_law_count C0 hK hs10 hz (by omega) hle hL hc hI hPC hPM hS hl hnext)
                          · skip
                            by_cases g11 : j = 11
                            · exact q_tabIn (tgt := 599) (v := 11) hx hb rj g11 dL_law_32 (by decide) (by decide) rfl (by decide) (q_law_eventsOf C0 hK hs11 hz (by omega) hle hL hc hI hPC hPM hS hl hnext)
                            · skip
                              by_cases g12 : j = 12
                              · exact q_tabIn (tgt := 622) (v := 12) hx hb rj g12 dL_law_32 (by decide) (by decide) rfl (by decide) (q_law_beginSnapshot C0 hK hs12 hz (by omega) hle hL hc hI hPC hPM hS hl hnext)
                              · skip
                                by_cases g13 : j = 13
                                · exact q_tabIn (tgt := 645) (v := 13) hx hb rj g13 dL_law_32 (by decide) (by decide) rfl (by decide) (q_law_abandonSnapshot C0 hK hs13 hz (by omega) hle hL hc hI hPC hPM hS hl hnext)
                                · skip
                                  by_cases g14 : j = 14
                                  · exact q_tabIn (tgt := 658) (v := 14) hx hb rj g14 dL_law_32 (by decide) (by decide) rfl (by decide) (q_law_recorded C0 hK hs14 hz (by omega) hle hL hc hI hPC hPM hS hl hnext)
                                  · skip
                                    by_cases g15 : j = 15
                                    · exact q_tabIn (tgt := 681) (v := 15) hx hb rj g15 dL_law_32 (by decide) (by decide) rfl (by decide) (q_law_takeSnapshot C0 hK hs15 hz (by omega) hle hL hc hI hPC hPM hS hl hnext)
                                    · skip
                                      by_cases g16 : j = 16
                                      · exact q_tabIn (tgt := 694) (v := 16) hx hb rj g16 dL_law_32 (by decide) (by decide) rfl (by decide) (q_law_setCut C0 hK hs16 hz (by omega) hle hL hc hI hPC hPM hS hl hnext)
                                      · skip
                                        by_cases g17 : j = 17
                                        · exact q_tabIn (tgt := 727) (v := 17) hx hb rj g17 dL_law_32 (by decide) (by decide) rfl (by decide) (q_law_cut C0 hK hs17 hz (by omega) hle hL hc hI hPC hPM hS hl hnext)
                                        · skip
                                          by_cases g18 : j = 18
                                          · exact q_tabIn (tgt := 750) (v := 18) hx hb rj g18 dL_law_32 (by decide) (by decide) rfl (by decide) (q_law_orphans C0 hK hs18 hz (by omega) hle hL hc hI hPC hPM hS hl hnext)
                                          · skip
                                            by_cases g19 : j = 19
                                            · exact q_tabIn (tgt := 763) (v := 19) hx hb rj g19 dL_law_32 (by decide) (by decide) rfl (by decide) (q_law_lowerCut C0 hK hs19 hz (by omega) hle hL hc hI hPC hPM hS hl hnext)
                                            · skip
                                              by_cases g20 : j = 20
                                              · exact q_tabIn (tgt := 776) (v := 20) hx hb rj g20 dL_law_32 (by decide) (by decide) rfl (by decide) (q_law_raiseCut C0 hK hs20 hz (by omega) hle hL hc hI hPC hPM hS hl hnext)
                                              · skip
                                                by_cases g21 : j = 21
                                                · exact q_tabIn (tgt := 789) (v := 21) hx hb rj g21 dL_law_32 (by decide) (by decide) rfl (by decide) (q_law_stockAtCut C0 hK hs21 hz (by omega) hle hL hc hI hPC hPM hS hl hnext)
                                                · skip
                                                  by_cases g22 : j = 22
                                                  · exact q_tabIn (tgt := 822) (v := 22) hx hb rj g22 dL_law_32 (by decide) (by decide) rfl (by decide) (q_law_inTransit C0 hK hs22 hz (by omega) hle hL hc hI hPC hPM hS hl hnext)
                                                  · skip
                                                    by_cases g23 : j = 23
                                                    · exact q_tabIn (tgt := 875) (v := 23) hx hb rj g23 dL_law_32 (by decide) (by decide) rfl (by decide) (q_law_type C0 hK hs23 hz (by omega) hle hL hc hI hPC hPM hS hl hnext)
                                                    · skip
                                                      by_cases g24 : j = 24
                                                      · exact q_tabIn (tgt := 900) (v := 24) hx hb rj g24 dL_law_32 (by decide) (by decide) rfl (by decide) (q_law_clearText C0 hK hs24 hz (by omega) hle hL hc hI hPC hPM hS hl hnext)
                                                      · skip
                                                        by_cases g25 : j = 25
                                                        · exact q_tabIn (tgt := 913) (v := 25) hx hb rj g25 dL_law_32 (by decide) (by decide) rfl (by decide) (q_law_addRule C0 hK hs25 hz (by omega) hle hL hc hI hPC hPM hS hl hnext)
                                                        · skip
                                                          by_cases g26 : j = 26
                                                          · exact q_tabIn (tgt := 926) (v := 26) hx hb rj g26 dL_law_32 (by decide) (by decide) rfl (by decide) (q_law_removeRule C0 hK hs26 hz (by omega) hle hL hc hI hPC hPM hS hl hnext)
                                                          · skip
                                                            by_cases g27 : j = 27
                                                            · exact q_tabIn (tgt := 949) (v := 27) hx hb rj g27 dL_law_32 (by decide) (by decide) rfl (by decide) (q_law_rule C0 hK hs27 hz (by omega) hle hL hc hI hPC hPM hS hl hnext)
                                                            · skip
                                                              by_cases g28 : j = 28
                                                              · exact q_tabIn (tgt := 982) (v := 28) hx hb rj g28 dL_law_32 (by decide) (by decide) rfl (by decide) (q_law_broken C0 hK hs28 hz (by omega) hle hL hc hI hPC hPM hS hl hnext)
                                                              · skip
                                                                by_cases g29 : j = 29
                                                                · exact q_tabIn (tgt := 1021) (v := 29) hx hb rj g29 dL_law_32 (by decide) (by decide) rfl (by decide) (q_law_setMoveCost C0 hK hs29 hz (by omega) hle hL hc hI hPC hPM hS hl hnext)
                                                                · skip
                                                                  by_cases g30 : j = 30
                                                                  · exact q_tabIn (tgt := 1064) (v := 30) hx hb rj g30 dL_law_32 (by decide) (by decide) rfl (by decide) (q_law_setOutsideCosts C0 hK hs30 hz (by omega) hle hL hc hI hPC hPM hS hl hnext)
                                                                  · skip
                                                                    by_cases g31 : j = 31
                                                                    · exact q_tabIn (tgt := 1097) (v := 31) hx hb rj g31 dL_law_32 (by decide) (by decide) rfl (by decide) (q_law_repairCost C0 hK hs31 hz (by omega) hle hL hc hI hPC hPM hS hl hnext)
                                                                    · skip
                                                                      by_cases g32 : j = 32
                                                                      · exact q_tabIn (tgt := 1110) (v := 32) hx hb rj g32 dL_law_32 (by decide) (by decide) rfl (by decide) (q_law_moved C0 hK hs32 hz (by omega) hle hL hc hI hPC hPM hS hl hnext)
                                                                      · skip
                                                                        by_cases g33 : j = 33
                                                                        · exact q_tabIn (tgt := 1153) (v := 33) hx hb rj g33 dL_law_32 (by decide) (by decide) rfl (by decide) (q_law_outside C0 hK hs33 hz (by omega) hle hL hc hI hPC hPM hS hl hnext)
                                                                        · skip
                                                                          by_cases g34 : j = 34
                                                                          · exact q_tabIn (tgt := 1212) (v := 34) hx hb rj g34 dL_law_32 (by decide) (by decide) rfl (by decide) (q_law_repairedStock C0 hK hs34 hz (by omega) hle hL hc hI hPC hPM hS hl hnext)
                                                                          · skip
                                                                            by_cases g35 : j = 35
                                                                            · exact q_tabIn (tgt := 1245) (v := 35) hx hb rj g35 dL_law_32 (by decide) (by decide) rfl (by decide) (q_law_apply C0 hK hs35 hz (by omega) hle hL hc hI hPC hPM hS hl hnext)
                                                                            · skip
                                                                              by_cases g36 : j = 36
                                                                              · exact q_tabIn (tgt := 1284) (v := 36) hx hb rj g36 dL_law_32 (by decide) (by decide) rfl (by decide) (q_law_restore C0 hK hs36 hz (by omega) hle hL hc hI hPC hPM hS hl hnext)
                                                                              · skip
                                                                                refine q_tabOut (tgt := 1297) hx hb rj dL_law_32 (by omega) (by decide) ?_
                                                                                refine lv_iinc (k := 3) (lv' := [(3, .int (q_I (i + 5))), (0, .ref b), (1, .ref (z + 0)), (2, .ref (z + 77 + 0))]) hx hb dL_law_1297 hl rfl (q_addI i 5) (by decide) rfl (fun ls hl => ?_)
                                                                                refine lv_goto (tgt := 18) hx hb dL_law_1300 (by decide) ?_
                                                                                exact ih (t + 1) (by omega) cn μC μM H locs (by omega) (by omega) hI hPC hPM hS ls (by rw [show 5 * ((t + 1 : Nat) : Int) = i + 5 by omega]; exact lv_sub hl [1, 2, 3, 0] rfl)
