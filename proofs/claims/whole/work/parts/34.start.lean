/-! the law from its entry, given an invariant that every call keeps -/
theorem q_Rg0 {kd : Nat → Nat × Nat} : q_Rg kd q_O := fun _ _ => ⟨q_rs q_r0, fun _ => q_r0⟩
theorem q_P0 {D : va_G} {dA : Nat → ClassId} {kd : Nat → Nat × Nat} {r : Nat → Nat → Option Nat} {H : Heap} : q_P D dA kd r 0 H.size (H.size + 0) q_O H := ⟨rfl, fun k hk => absurd hk (Nat.not_lt_zero k), q_Rg0⟩
theorem q_arr {args : Array Value} {s : State} {ty : FieldType} (h : (Cond.arrayClass ty).before args s = true) : ∃ cA : ClassId, ArrOfT s cA ty ∧ s.vm.findClass ("[" ++ ty.toString) = some cA := by
  obtain ⟨cA, k, comp, h1, h2, h3⟩ := Cond.arrayClass_spec h
  exact ⟨cA, fun n z => ⟨fun q g => (by cases g), k, h2, comp, h3⟩, h1⟩
theorem q_arrO {args : Array Value} {s : State} {C : String} (h : (Cond.arrayOver (.object C)).before args s = true) : ∃ cA : ClassId, ArrOfT s cA (.object C) ∧ va_RA s cA (.object C) := by
  obtain ⟨comp, cA, k, h1, -, h2, h3, h4⟩ := Cond.arrayOver_spec h
  exact ⟨cA, fun n z => ⟨fun q g => (by cases g), k, h2, comp, h3⟩, k, comp, h2, h3, h1, h4⟩
theorem q_in0 : Cond.instantiable RX0 7 ∈ q_W := q_inT 86 (by decide +kernel) rfl
theorem q_in1 : Cond.instantiable RX1 3 ∈ q_W := q_inT 237 (by decide +kernel) rfl
theorem q_in2 : Cond.instantiable RX2 7 ∈ q_W := q_inT 286 (by decide +kernel) rfl
theorem q_in3 : Cond.instantiable RX3 10 ∈ q_W := q_inT 31 (by decide +kernel) rfl
theorem q_in4 : Cond.instantiable RX4 1 ∈ q_W := q_inT 279 (by decide +kernel) rfl
theorem q_in5 : Cond.instantiable RX5 5 ∈ q_W := q_inT 207 (by decide +kernel) rfl
theorem q_in6 : Cond.instantiable RX6 6 ∈ q_W := q_inT 176 (by decide +kernel) rfl
theorem q_in7 : Cond.instantiable RX7 2 ∈ q_W := q_inT 127 (by decide +kernel) rfl
theorem q_in8 : Cond.instantiable RX8 3 ∈ q_W := q_inT 259 (by decide +kernel) rfl
theorem q_in9 : Cond.instantiable RX9 7 ∈ q_W := q_inT 25 (by decide +kernel) rfl
theorem q_in10 : Cond.instantiable RX10 8 ∈ q_W := q_inT 17 (by decide +kernel) rfl
theorem q_in11 : Cond.instantiable RX11 31 ∈ q_W := q_inT 948 (by decide +kernel) rfl
set_option maxHeartbeats 8000000 in
set_option maxRecDepth 100000 in
theorem q_known {args : Array Value} {s : State} (hts0 : ∀ w ∈ lw_tbl, w.before args s = true) : ∃ (D : va_G) (dA : Nat → ClassId), q_K D dA s ∧ va_AO "CutRepairer$Flow" s := by
  have hts : ∀ w ∈ q_W, w.before args s = true := fun w hw => hts0 w (List.mem_filter.mp hw).1
  obtain ⟨c0, i0, h0⟩ := u_known (C := RX0) (T := TX0) (N := 7) (n := 7) hts q_cl0 (hts _ q_in0)
  obtain ⟨c1, i1, h1⟩ := u_known (C := RX1) (T := TX1) (N := 3) (n := 3) hts q_cl1 (hts _ q_in1)
  obtain ⟨c2, i2, h2⟩ := u_known (C := RX2) (T := TX2) (N := 7) (n := 7) hts q_cl2 (hts _ q_in2)
  obtain ⟨c3, i3, h3⟩ := u_known (C := RX3) (T := TX3) (N := 10) (n := 10) hts q_cl3 (hts _ q_in3)
  obtain ⟨c4, i4, h4⟩ := u_known (C := RX4) (T := TX4) (N := 1) (n := 1) hts q_cl4 (hts _ q_in4)
  obtain ⟨c5, i5, h5⟩ := u_known (C := RX5) (T := TX5) (N := 5) (n := 5) hts q_cl5 (hts _ q_in5)
  obtain ⟨c6, i6, h6⟩ := u_known (C := RX6) (T := TX6) (N := 6) (n := 6) hts q_cl6 (hts _ q_in6)
  obtain ⟨c7, i7, h7⟩ := u_known (C := RX7) (T := TX7) (N := 2) (n := 2) hts q_cl7 (hts _ q_in7)
  obtain ⟨c8, i8, h8⟩ := u_known (C := RX8) (T := TX8) (N := 3) (n := 3) hts q_cl8 (hts _ q_in8)
  obtain ⟨c9, i9, h9⟩ := u_known (C := RX9) (T := TX9) (N := 7) (n := 7) hts q_cl9 (hts _ q_in9)
  obtain ⟨c10, i10, h10⟩ := u_known (C := RX10) (T := TX10) (N := 8) (n := 8) hts q_cl10 (hts _ q_in10)
  obtain ⟨c11, i11, h11⟩ := u_known (C := RX11) (T := TX11) (N := 31) (n := 31) hts q_cl11 (hts _ q_in11)
  obtain ⟨a1, b1, e1⟩ := q_arr (hts _ aw_1)
  obtain ⟨a2, b2, e2⟩ := q_arr (hts _ aw_2)
  obtain ⟨a3, b3, e3⟩ := q_arr (hts _ aw_3)
  obtain ⟨a4, b4, e4⟩ := q_arr (hts _ aw_4)
  have hO : (Cond.arrayOver (.object "CutRepairer$Flow")).before args s = true := hts0 _ (List.mem_append_right _ (List.mem_of_getElem? (i := 285) (by decide +kernel)))
  obtain ⟨a5, b5, e5⟩ := q_arrO hO
  refine ⟨(fun k => if k = 0 then c0 else if k = 1 then c1 else if k = 2 then c2 else if k = 3 then c3 else if k = 4 then c4 else if k = 5 then c5 else if k = 6 then c6 else if k = 7 then c7 else if k = 8 then c8 else if k = 9 then c9 else if k = 10 then c10 else c11, fun k => if k = 0 then i0 else if k = 1 then i1 else if k = 2 then i2 else if k = 3 then i3 else if k = 4 then i4 else if k = 5 then i5 else if k = 6 then i6 else if k = 7 then i7 else if k = 8 then i8 else if k = 9 then i9 else if k = 10 then i10 else i11), fun k => if k = 0 then a1 else if k = 1 then a2 else if k = 2 then a3 else if k = 3 then a4 else a5, ⟨⟨?_, ?_⟩, ?_⟩, va_AO.of hO⟩
  · intro k q hq
    match k, hq with
    | 0, hq => cases hq; exact h0
    | 1, hq => cases hq; exact h1
    | 2, hq => cases hq; exact h2
    | 3, hq => cases hq; exact h3
    | 4, hq => cases hq; exact h4
    | 5, hq => cases hq; exact h5
    | 6, hq => cases hq; exact h6
    | 7, hq => cases hq; exact h7
    | 8, hq => cases hq; exact h8
    | 9, hq => cases hq; exact h9
    | 10, hq => cases hq; exact h10
    | 11, hq => cases hq; exact h11
    | k + 12, hq => simp [vwCl] at hq
  · intro k q hq
    match k, hq with
    | 0, hq => cases hq; exact ⟨b1, e1⟩
    | 1, hq => cases hq; exact ⟨b2, e2⟩
    | 2, hq => cases hq; exact ⟨b3, e3⟩
    | 3, hq => cases hq; exact ⟨b4, e4⟩
    | 4, hq => cases hq; exact ⟨b5, e5⟩
    | k + 5, hq => simp [q_tys] at hq
  · refine List.forall_mem_cons.mpr ⟨va_Nw.of rfl (hts0 _ (List.mem_append_right _ (List.mem_of_getElem? (i := 26) (by decide +kernel)))), List.forall_mem_cons.mpr ⟨va_Nw.of rfl (hts0 _ (List.mem_append_right _ (List.mem_of_getElem? (i := 32) (by decide +kernel)))), List.forall_mem_cons.mpr ⟨va_Nw.of rfl (hts0 _ (List.mem_append_right _ (List.mem_of_getElem? (i := 87) (by decide +kernel)))), List.forall_mem_cons.mpr ⟨va_Nw.of rfl (hts0 _ (List.mem_append_right _ (List.mem_of_getElem? (i := 128) (by decide +kernel)))), List.forall_mem_cons.mpr ⟨va_Nw.of rfl (hts0 _ (List.mem_append_right _ (List.mem_of_getElem? (i := 177) (by decide +kernel)))), List.forall_mem_cons.mpr ⟨va_Nw.of rfl (hts0 _ (List.mem_append_right _ (List.mem_of_getElem? (i := 208) (by decide +kernel)))), List.forall_mem_cons.mpr ⟨va_Nw.of rfl (hts0 _ (List.mem_append_right _ (List.mem_of_getElem? (i := 238) (by decide +kernel)))), List.forall_mem_cons.mpr ⟨va_Nw.of rfl (hts0 _ (List.mem_append_right _ (List.mem_of_getElem? (i := 260) (by decide +kernel)))), List.forall_mem_cons.mpr ⟨va_Nw.of rfl (hts0 _ (List.mem_append_right _ (List.mem_of_getElem? (i := 280) (by decide +kernel)))), List.forall_mem_cons.mpr ⟨va_Nw.of rfl (hts0 _ (List.mem_append_right _ (List.mem_of_getElem? (i := 287) (by decide +kernel)))), List.forall_mem_cons.mpr ⟨va_Nw.of rfl (hts0 _ (List.mem_append_right _ (List.mem_of_getElem? (i := 411) (by decide +kernel)))), List.forall_mem_cons.mpr ⟨va_Nw.of rfl (hts0 _ (List.mem_append_right _ (List.mem_of_getElem? (i := 412) (by decide +kernel)))), List.forall_mem_cons.mpr ⟨va_Nw.of rfl (hts0 _ (List.mem_append_right _ (List.mem_of_getElem? (i := 440) (by decide +kernel)))), List.forall_mem_cons.mpr ⟨va_Nw.of rfl (hts0 _ (List.mem_append_right _ (List.mem_of_getElem? (i := 669) (by decide +kernel)))), List.forall_mem_cons.mpr ⟨va_Nw.of rfl (hts0 _ (List.mem_append_right _ (List.mem_of_getElem? (i := 674) (by decide +kernel)))), List.forall_mem_cons.mpr ⟨va_Nw.of rfl (hts0 _ (List.mem_append_right _ (List.mem_of_getElem? (i := 707) (by decide +kernel)))), List.forall_mem_cons.mpr ⟨va_Nw.of rfl (hts0 _ (List.mem_append_right _ (List.mem_of_getElem? (i := 729) (by decide +kernel)))), List.forall_mem_cons.mpr ⟨va_Nw.of rfl (hts0 _ (List.mem_append_right _ (List.mem_of_getElem? (i := 730) (by decide +kernel)))), List.forall_mem_cons.mpr ⟨va_Nw.of rfl (hts0 _ (List.mem_append_right _ (List.mem_of_getElem? (i := 741) (by decide +kernel)))), List.forall_mem_cons.mpr ⟨va_Nw.of rfl (hts0 _ (List.mem_append_right _ (List.mem_of_getElem? (i := 783) (by decide +kernel)))), List.forall_mem_cons.mpr ⟨va_Nw.of rfl (hts0 _ (List.mem_append_right _ (List.mem_of_getElem? (i := 810) (by decide +kernel)))), List.forall_mem_cons.mpr ⟨va_Nw.of rfl (hts0 _ (List.mem_append_right _ (List.mem_of_getElem? (i := 900) (by decide +kernel)))), List.forall_mem_cons.mpr ⟨va_Nw.of rfl (hts0 _ (List.mem_append_right _ (List.mem_of_getElem? (i := 905) (by decide +kernel)))), List.forall_mem_cons.mpr ⟨va_Nw.of rfl (hts0 _ (List.mem_append_right _ (List.mem_of_getElem? (i := 910) (by decide +kernel)))), List.forall_mem_cons.mpr ⟨va_Nw.of rfl (hts0 _ (List.mem_append_right _ (List.mem_of_getElem? (i := 915) (by decide +kernel)))), fun _ h => absurd h List.not_mem_nil⟩⟩⟩⟩⟩⟩⟩⟩⟩⟩⟩⟩⟩⟩⟩⟩⟩⟩⟩⟩⟩⟩⟩⟩⟩
set_option maxHeartbeats 8000000 in
set_option maxRecDepth 100000 in
theorem q_start {p : Program} {e : Env} {s : State} {m : MethodId} {below : List Frame} {meth : Method} {c : Code} (l : Launch) {b L : Nat} {xs : Nat → Int32} (hL : L ≤ 2560) (C0 : lw_At p s m meth c b L xs) {N : Nat} {Inv : Nat → q_M → q_M → Prop} (hs0 : q_st_reset N Inv) (hs1 : q_st_setStock N Inv) (hs2 : q_st_change N Inv) (hs3 : q_st_send N Inv) (hs4 : q_st_receive N Inv) (hs5 : q_st_stock N Inv) (hs6 : q_st_inChannel N Inv) (hs7 : q_st_event N Inv) (hs8 : q_st_clock N Inv) (hs9 : q_st_order N Inv) (hs10 : q_st_count N Inv) (hs11 : q_st_eventsOf N Inv) (hs12 : q_st_beginSnapshot N Inv) (hs13 : q_st_abandonSnapshot N Inv) (hs14 : q_st_recorded N Inv) (hs15 : q_st_takeSnapshot N Inv) (hs16 : q_st_setCut N Inv) (hs17 : q_st_cut N Inv) (hs18 : q_st_orphans N Inv) (hs19 : q_st_lowerCut N Inv) (hs20 : q_st_raiseCut N Inv) (hs21 : q_st_stockAtCut N Inv) (hs22 : q_st_inTransit N Inv) (hs23 : q_st_type N Inv) (hs24 : q_st_clearText N Inv) (hs25 : q_st_addRule N Inv) (hs26 : q_st_removeRule N Inv) (hs27 : q_st_rule N Inv) (hs28 : q_st_broken N Inv) (hs29 : q_st_setMoveCost N Inv) (hs30 : q_st_setOutsideCosts N Inv) (hs31 : q_st_repairCost N Inv) (hs32 : q_st_moved N Inv) (hs33 : q_st_outside N Inv) (hs34 : q_st_repairedStock N Inv) (hs35 : q_st_apply N Inv) (hs36 : q_st_restore N Inv) {μC μM : q_M} (hC : f_CR_startWith 3 q_O = some μC) (hM : f_M_begin N 3 q_O = some μM) (hI : Inv 0 μC μM) : W p l e room_1 s m #[Value.ref b] below meth c s.heap [] 0 0 (lw_Z below #[Value.ref b] s) (entryFrame m ([Value.ref b] : List Value).toArray 4) := by
  obtain ⟨hx, hb, hr, hml, hown, hts0, hX, hbl, hlocks, hgv⟩ := id C0
  have hts : ∀ w ∈ q_W, w.before #[Value.ref b] s = true := fun w hw => hts0 w (List.mem_filter.mp hw).1
  obtain ⟨D, dA, hK, hO⟩ := q_known hts0
  have hS : va_S (fun q : Nat => s.heap.size ≤ q) s.heap s.heap [] := va_S.rf
  have hl := lv_entry ([.ref b]) (n := 4) (Nat.le_of_ble_eq_true rfl)
  rw [lg_entry_eq]
  generalize (lg_sl ([.ref b]) ++ List.replicate (4 - (lg_sl ([.ref b])).length) Slot.unset).toArray = ls at hl ⊢
  have hl : lv_has ls 4 [(0, .ref b)] := hl
  have hP : q_P D dA q_kdC (q_rho (q_LC.drop 76)) 0 s.heap.size (s.heap.size + 0) q_O s.heap := q_P0
  generalize hz : s.heap.size = z at hP
  have hAC : ∀ q, q_A z 77 q → (fun q : Nat => s.heap.size ≤ q) q := fun q h => by show s.heap.size ≤ q; rw [hz]; exact h.1
  have hAM : ∀ q, q_A (z + 77) 22 q → (fun q : Nat => s.heap.size ≤ q) q := fun q h => by show s.heap.size ≤ q; rw [hz]; exact Nat.le_trans (Nat.le_add_right z 77) h.1
  refine q_new (n := 0) (cells' := 1) (slots' := 8) hx hb hts hown hK hP hS nw_RL_7 q_kdC_0 (q_rho_none (by decide +kernel)) (fun _ => rfl) rfl rfl (Nat.le_of_ble_eq_true rfl) (Nat.le_of_ble_eq_true rfl) dL_law_0 ?_
  clear hP hS
  intro H hP hS _
  replace hP : q_P D dA q_kdC (q_rho (q_LC.drop 76)) 1 z (z + 1) q_O H := hP
  refine lv_dup hx hb dL_law_3 rfl ?_
  refine q_callI2 (cells' := 77) (slots' := 8273) (rest := [.ref (z + 0)]) hx hb hml hts hown hS gi_RL_9 (c_init_CR_0 l D dA hC) q_blindO (fun U hU hW => ⟨by rw [hU]; exact hP, hK.moved hW, va_AO.moved hW.alike hO⟩) ⟨rfl, rfl, Nat.le_of_ble_eq_true rfl, Nat.le_of_ble_eq_true rfl⟩ rfl rfl ⟨Nat.le_of_ble_eq_true rfl, Nat.le_of_ble_eq_true rfl⟩ hl.1 (Nat.le_of_ble_eq_true rfl) hAC dL_law_4 ?_
  clear hP hS
  intro H1 locs hPC hS _
  refine lv_astore_n (lv' := [(1, .ref (z + 0)), (0, .ref b)]) hx hb dL_law_7 rfl hl (by decide) rfl (fun ls hl => ?_)
  have hP : q_P D dA q_kdM (q_rho (q_LM.drop 21)) 0 (z + 77) (z + 77 + 0) q_O H1 := by
    rw [← hPC.1]
    exact q_P0
  refine q_new (n := 0) (z := z + 77) (cells' := 78) (slots' := 8304) hx hb hts hown hK hP hS nw_RL_10 q_kdM_0 (q_rho_none (by decide +kernel)) (fun _ => rfl) rfl rfl (Nat.le_of_ble_eq_true rfl) (Nat.le_of_ble_eq_true rfl) dL_law_8 ?_
  clear hP hS
  intro H2 hP hS hF
  replace hP : q_P D dA q_kdM (q_rho (q_LM.drop 21)) 1 (z + 77) (z + 77 + 1) q_O H2 := hP
  replace hPC := hPC.keep hP.1 (fun k hk => hF _ (hPC.lt2 hk))
  refine lv_dup hx hb dL_law_11 rfl ?_
  refine q_callI2 (cells' := 99) (slots' := 19249) (rest := [.ref (z + 77 + 0)]) hx hb hml hts hown hS gi_RL_12 (c_init_M_0 l D dA hM) q_blindO (fun U hU hW => ⟨by rw [hU]; exact hP, hK.moved hW, va_AO.moved hW.alike hO⟩) ⟨rfl, rfl, Nat.le_of_ble_eq_true rfl, Nat.le_of_ble_eq_true rfl⟩ rfl rfl ⟨Nat.le_of_ble_eq_true rfl, Nat.le_of_ble_eq_true rfl⟩ hl.1 (Nat.le_of_ble_eq_true rfl) hAM dL_law_12 ?_
  clear hP hS hF
  intro H3 locs hPM hS hF
  replace hPC := hPC.keep hPM.1 (fun k hk => hF _ (hPC.lt2 hk) (by rintro ⟨u1, u2⟩; omega))
  refine lv_astore_n (lv' := [(2, .ref (z + 77 + 0)), (1, .ref (z + 0)), (0, .ref b)]) hx hb dL_law_15 rfl hl (by decide) rfl (fun ls hl => ?_)
  refine lv_iconst (v := q_I 0) hx hb dL_law_16 rfl ?_
  refine lv_istore_n (lv' := [(3, .int (q_I 0)), (2, .ref (z + 77 + 0)), (1, .ref (z + 0)), (0, .ref b)]) hx hb dL_law_17 rfl hl (by decide) rfl (fun ls hl => ?_)
  exact q_law_loop hL C0 hK hs0 hs1 hs2 hs3 hs4 hs5 hs6 hs7 hs8 hs9 hs10 hs11 hs12 hs13 hs14 hs15 hs16 hs17 hs18 hs19 hs20 hs21 hs22 hs23 hs24 hs25 hs26 hs27 hs28 hs29 hs30 hs31 hs32 hs33 hs34 hs35 hs36 hz.symm 513 0 rfl 0 μC μM _ _ (Nat.le_refl 0) (Nat.zero_le _) hI hPC hPM hS ls (lv_sub hl [3, 2, 1, 0] rfl)
