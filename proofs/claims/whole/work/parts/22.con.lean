set_option maxHeartbeats 4000000 in
set_option maxRecDepth 100000 in
theorem c_RB_lowest (l : Launch) (D : va_G) (dA : Nat → ClassId) {z sz : Nat} {a0 : Int} (ra0 : q_R a0) {μ : q_M} {xo : Int} (h : f_RB_lowest a0 μ = some xo) : Met l yX5_lowest (q_wc yX5_lowest cX5_lowest 2 (some .int)) ({ frames := 0, cells := 0, slots := 0, locals := 0 } : Room) (va_Pc [.ref (z + 49), .int (q_I a0)] (q_B (q_P D dA q_kdC q_rhoC 77 z sz μ) D dA)) (q_Q (some (.int (q_I xo))) (q_R xo) (q_P D dA q_kdC q_rhoC 77 z sz μ) (q_A z 77)) 0 0 (q_A z 77) := by
  refine Met.ofW (cc := cX5_lowest) (maxL := 2) (ret := (some .int)) (by decide) rfl ?_
  intro p e s m args below meth c s₁ B hml hv
  obtain ⟨hargs, hP, hK⟩ := hv
  have hx := B.exec
  have hb := B.bytes
  have hr := B.returns
  have hts : ∀ w ∈ q_W, w.before args s = true := fun w hw => atoms_spec (ws := q_wc yX5_lowest cX5_lowest 2 (some .int)) B.pre w (List.mem_cons_of_mem _ hw)
  have hown : s.vm.findClass RX5 = some m.cls := findClass_of_methodNamed B.named
  have hlocks := B.notSynchronized
  have hS : va_S (q_A z 77) s.heap s.heap [] := va_S.rf
  have hA : ∀ k, k < 77 → q_A z 77 (z + k) := fun k hk => ⟨Nat.le_add_right z k, Nat.add_lt_add_left hk z⟩
  have hl := lv_entry [.ref (z + 49), .int (q_I a0)] (n := 2) (Nat.le_of_ble_eq_true rfl)
  refine W.eq (by rw [hargs, lg_entry_eq]) ?_
  generalize (lg_sl [.ref (z + 49), .int (q_I a0)] ++ List.replicate (2 - (lg_sl [.ref (z + 49), .int (q_I a0)]).length) Slot.unset).toArray = ls at hl ⊢
  have hl : lv_has ls 2 [(0, .ref (z + 49)), (1, .int (q_I a0))] := hl
  generalize hQ : MQ below _ args s 0 0 _ = Qf
  change W p l e ({ frames := 0, cells := 0, slots := 0, locals := 0 } : Room) s m args below meth c s.heap [] 0 0 Qf (F0 m 0 ls [])
  unfold f_RB_lowest at h
  refine lv_aload_n hx hb dX5_lowest_0 rfl (lv_at hl 0 rfl) ?_
  refine q_getR hx hb hts hown hK hP fd_RX5_18 (Nat.le_of_ble_eq_true rfl) q_kdC_49 rfl q_rhC_49_3 dX5_lowest_1 ?_
  refine lv_iload_n hx hb dX5_lowest_4 rfl (lv_at hl 1 rfl) ?_
  refine q_iald hx hb hK hP (Nat.le_of_ble_eq_true rfl) q_kdC_52 ra0 dX5_lowest_5 h ?_
  clear h; intro x1 r1 h
  refine q_jn_in h (fun J => ∀ (x2 : Int) (H : Heap) (locs : List Loc) (ls : Array Slot), q_R x2 → q_P D dA q_kdC q_rhoC 77 z sz μ H → va_S (q_A z 77) s.heap H locs → lv_has ls 2 [] → J x2 = some xo → W p l e ({ frames := 0, cells := 0, slots := 0, locals := 0 } : Room) s m args below meth c H locs 0 0 Qf (F0 m 20 ls [.int (q_I x2)])) ?_ ?_
  · clear h hl hP hS; intro x2 H locs ls r2 hP hS hl h
    rw [← hQ]
    exact q_ret1 hx hb hr hlocks hP hS r2 h dX5_lowest_20
  · clear h; intro j20 hj20 h
    refine q_zne hx hb r1 (tgt := 14) dX5_lowest_6 (by decide) h ?_ ?_
    · clear h; intro g4 h
      refine lv_ldc hx hb hown (hts _ ck_RX5_63) dX5_lowest_9 ?_
      refine lv_goto (tgt := 20) hx hb dX5_lowest_11 (by decide) ?_
      exact hj20 ((-1000000)) _ _ _ (q_r (-1000000) rfl) hP hS (lv_sub hl [] rfl) h
    · clear h; intro g4 h
      refine lv_aload_n hx hb dX5_lowest_14 rfl (lv_at hl 0 rfl) ?_
      refine q_getR hx hb hts hown hK hP fd_RX5_21 (Nat.le_of_ble_eq_true rfl) q_kdC_49 rfl q_rhC_49_4 dX5_lowest_15 ?_
      refine lv_iload_n hx hb dX5_lowest_18 rfl (lv_at hl 1 rfl) ?_
      refine q_iald hx hb hK hP (Nat.le_of_ble_eq_true rfl) q_kdC_53 ra0 dX5_lowest_19 h ?_
      clear h; intro x3 r3 h
      exact hj20 x3 _ _ _ r3 hP hS (lv_sub hl [] rfl) h
set_option maxHeartbeats 4000000 in
set_option maxRecDepth 100000 in
theorem c_RB_highest (l : Launch) (D : va_G) (dA : Nat → ClassId) {z sz : Nat} {a0 : Int} (ra0 : q_R a0) {μ : q_M} {xo : Int} (h : f_RB_highest a0 μ = some xo) : Met l yX5_highest (q_wc yX5_highest cX5_highest 2 (some .int)) ({ frames := 0, cells := 0, slots := 0, locals := 0 } : Room) (va_Pc [.ref (z + 49), .int (q_I a0)] (q_B (q_P D dA q_kdC q_rhoC 77 z sz μ) D dA)) (q_Q (some (.int (q_I xo))) (q_R xo) (q_P D dA q_kdC q_rhoC 77 z sz μ) (q_A z 77)) 0 0 (q_A z 77) := by
  refine Met.ofW (cc := cX5_highest) (maxL := 2) (ret := (some .int)) (by decide) rfl ?_
  intro p e s m args below meth c s₁ B hml hv
  obtain ⟨hargs, hP, hK⟩ := hv
  have hx := B.exec
  have hb := B.bytes
  have hr := B.returns
  have hts : ∀ w ∈ q_W, w.before args s = true := fun w hw => atoms_spec (ws := q_wc yX5_highest cX5_highest 2 (some .int)) B.pre w (List.mem_cons_of_mem _ hw)
  have hown : s.vm.findClass RX5 = some m.cls := findClass_of_methodNamed B.named
  have hlocks := B.notSynchronized
  have hS : va_S (q_A z 77) s.heap s.heap [] := va_S.rf
  have hA : ∀ k, k < 77 → q_A z 77 (z + k) := fun k hk => ⟨Nat.le_add_right z k, Nat.add_lt_add_left hk z⟩
  have hl := lv_entry [.ref (z + 49), .int (q_I a0)] (n := 2) (Nat.le_of_ble_eq_true rfl)
  refine W.eq (by rw [hargs, lg_entry_eq]) ?_
  generalize (lg_sl [.ref (z + 49), .int (q_I a0)] ++ List.replicate (2 - (lg_sl [.ref (z + 49), .int (q_I a0)]).length) Slot.unset).toArray = ls at hl ⊢
  have hl : lv_has ls 2 [(0, .ref (z + 49)), (1, .int (q_I a0))] := hl
  generalize hQ : MQ below _ args s 0 0 _ = Qf
  change W p l e ({ frames := 0, cells := 0, slots := 0, locals := 0 } : Room) s m args below meth c s.heap [] 0 0 Qf (F0 m 0 ls [])
  unfold f_RB_highest at h
  refine lv_aload_n hx hb dX5_highest_0 rfl (lv_at hl 0 rfl) ?_
  refine q_getR hx hb hts hown hK hP fd_RX5_18 (Nat.le_of_ble_eq_true rfl) q_kdC_49 rfl q_rhC_49_3 dX5_highest_1 ?_
  refine lv_iload_n hx hb dX5_highest_4 rfl (lv_at hl 1 rfl) ?_
  refine q_iald hx hb hK hP (Nat.le_of_ble_eq_true rfl) q_kdC_52 ra0 dX5_highest_5 h ?_
  clear h; intro x1 r1 h
  refine lv_iconst (v := q_I 1) hx hb dX5_highest_6 rfl ?_
  refine q_jn_in h (fun J => ∀ (x2 : Int) (H : Heap) (locs : List Loc) (ls : Array Slot), q_R x2 → q_P D dA q_kdC q_rhoC 77 z sz μ H → va_S (q_A z 77) s.heap H locs → lv_has ls 2 [] → J x2 = some xo → W p l e ({ frames := 0, cells := 0, slots := 0, locals := 0 } : Room) s m args below meth c H locs 0 0 Qf (F0 m 21 ls [.int (q_I x2)])) ?_ ?_
  · clear h hl hP hS; intro x2 H locs ls r2 hP hS hl h
    rw [← hQ]
    exact q_ret1 hx hb hr hlocks hP hS r2 h dX5_highest_21
  · clear h; intro j21 hj21 h
    refine q_cne hx hb r1 (q_r 1 rfl) (tgt := 15) dX5_highest_7 (by decide) h ?_ ?_
    · clear h; intro g4 h
      refine lv_ldc hx hb hown (hts _ ck_RX5_64) dX5_highest_10 ?_
      refine lv_goto (tgt := 21) hx hb dX5_highest_12 (by decide) ?_
      exact hj21 1000000 _ _ _ (q_r 1000000 rfl) hP hS (lv_sub hl [] rfl) h
    · clear h; intro g4 h
      refine lv_aload_n hx hb dX5_highest_15 rfl (lv_at hl 0 rfl) ?_
      refine q_getR hx hb hts hown hK hP fd_RX5_21 (Nat.le_of_ble_eq_true rfl) q_kdC_49 rfl q_rhC_49_4 dX5_highest_16 ?_
      refine lv_iload_n hx hb dX5_highest_19 rfl (lv_at hl 1 rfl) ?_
      refine q_iald hx hb hK hP (Nat.le_of_ble_eq_true rfl) q_kdC_53 ra0 dX5_highest_20 h ?_
      clear h; intro x3 r3 h
      exact hj21 x3 _ _ _ r3 hP hS (lv_sub hl [] rfl) h
set_option maxHeartbeats 4000000 in
set_option maxRecDepth 100000 in
theorem c_RB_isKept (l : Launch) (D : va_G) (dA : Nat → ClassId) {z sz : Nat} {N : Nat} {a0 : Int} (ra0 : q_R a0) {μ : q_M} {xo : Int} (h : f_RB_isKept N a0 μ = some xo) : Met l yX5_isKept (q_wc yX5_isKept cX5_isKept 3 (some .boolean)) ({ frames := 2, cells := 0, slots := 0, locals := 46 } : Room) (va_Pc [.ref (z + 49), .int (q_I a0), .ref (z + 56)] (q_B (q_P D dA q_kdC q_rhoC 77 z sz μ) D dA)) (q_Q (some (.int (q_I xo))) (q_R xo) (q_P D dA q_kdC q_rhoC 77 z sz μ) (q_A z 77)) 0 0 (q_A z 77) := by
  refine Met.ofW (cc := cX5_isKept) (maxL := 3) (ret := (some .boolean)) (by decide) rfl ?_
  intro p e s m args below meth c s₁ B hml hv
  obtain ⟨hargs, hP, hK⟩ := hv
  have hx := B.exec
  have hb := B.bytes
  have hr := B.returns
  have hts : ∀ w ∈ q_W, w.before args s = true := fun w hw => atoms_spec (ws := q_wc yX5_isKept cX5_isKept 3 (some .boolean)) B.pre w (List.mem_cons_of_mem _ hw)
  have hown : s.vm.findClass RX5 = some m.cls := findClass_of_methodNamed B.named
  have hlocks := B.notSynchronized
  have hS : va_S (q_A z 77) s.heap s.heap [] := va_S.rf
  have hA : ∀ k, k < 77 → q_A z 77 (z + k) := fun k hk => ⟨Nat.le_add_right z k, Nat.add_lt_add_left hk z⟩
  have hl := lv_entry [.ref (z + 49), .int (q_I a0), .ref (z + 56)] (n := 3) (Nat.le_of_ble_eq_true rfl)
  refine W.eq (by rw [hargs, lg_entry_eq]) ?_
  generalize (lg_sl [.ref (z + 49), .int (q_I a0), .ref (z + 56)] ++ List.replicate (3 - (lg_sl [.ref (z + 49), .int (q_I a0), .ref (z + 56)]).length) Slot.unset).toArray = ls at hl ⊢
  have hl : lv_has ls 3 [(0, .ref (z + 49)), (1, .int (q_I a0)), (2, .ref (z + 56))] := hl
  generalize hQ : MQ below _ args s 0 0 _ = Qf
  change W p l e ({ frames := 2, cells := 0, slots := 0, locals := 46 } : Room) s m args below meth c s.heap [] 0 0 Qf (F0 m 0 ls [])
  unfold f_RB_isKept at h
  refine lv_aload_n hx hb dX5_isKept_0 rfl (lv_at hl 2 rfl) ?_
  refine lv_aload_n hx hb dX5_isKept_1 rfl (lv_at hl 0 rfl) ?_
  refine q_getR hx hb hts hown hK hP fd_RX5_9 (Nat.le_of_ble_eq_true rfl) q_kdC_49 rfl q_rhC_49_1 dX5_isKept_2 ?_
  refine lv_iload_n hx hb dX5_isKept_5 rfl (lv_at hl 1 rfl) ?_
  refine q_iald hx hb hK hP (Nat.le_of_ble_eq_true rfl) q_kdC_50 ra0 dX5_isKept_6 h ?_
  clear h; intro x1 r1 h
  refine lv_aload_n hx hb dX5_isKept_7 rfl (lv_at hl 0 rfl) ?_
  refine q_getR hx hb hts hown hK hP fd_RX5_15 (Nat.le_of_ble_eq_true rfl) q_kdC_49 rfl q_rhC_49_2 dX5_isKept_8 ?_
  refine lv_iload_n hx hb dX5_isKept_11 rfl (lv_at hl 1 rfl) ?_
  refine q_iald hx hb hK hP (Nat.le_of_ble_eq_true rfl) q_kdC_51 ra0 dX5_isKept_12 h ?_
  clear h; intro x2 r2 h
  obtain ⟨x4, hv3, h⟩ := q_b_some h
  refine q_callV hx hb hml hts hown hK hP hS (As := [.int (q_I x1), .int (q_I x2)]) (rest := []) (st1 := [.int (q_I x4)]) cv_RX5_46 (c_St_valueOf l D dA r1 r2 hv3) (Nat.le_of_ble_eq_true rfl) q_kdC_56 rfl ⟨rfl, rfl, Nat.le_of_ble_eq_true rfl, Nat.le_of_ble_eq_true rfl⟩ ⟨Nat.le_refl _, Nat.le_refl _⟩ rfl hl.1 rfl (Nat.le_of_ble_eq_true rfl) rfl (fun _ g => g) dX5_isKept_13 ?_
  clear hP hS hv3; intro H locs r4 hP hS _
  refine lv_aload_n hx hb dX5_isKept_16 rfl (lv_at hl 0 rfl) ?_
  refine lv_iload_n hx hb dX5_isKept_17 rfl (lv_at hl 1 rfl) ?_
  obtain ⟨x6, hv5, h⟩ := q_b_some h
  refine q_callV hx hb hml hts hown hK hP hS (As := [.int (q_I a0)]) (rest := [.int (q_I x4)]) (st1 := [.int (q_I x6), .int (q_I x4)]) cv_RX5_52 (c_RB_lowest l D dA ra0 hv5) (Nat.le_of_ble_eq_true rfl) q_kdC_49 rfl ⟨rfl, rfl, Nat.le_of_ble_eq_true rfl, Nat.le_of_ble_eq_true rfl⟩ ⟨Nat.le_refl _, Nat.le_refl _⟩ rfl hl.1 rfl (Nat.le_of_ble_eq_true rfl) rfl (fun _ g => g) dX5_isKept_18 ?_
  clear hP hS hv5; intro H locs r6 hP hS _
  refine lv_aload_n hx hb dX5_isKept_21 rfl (lv_at hl 0 rfl) ?_
  refine lv_iload_n hx hb dX5_isKept_22 rfl (lv_at hl 1 rfl) ?_
  obtain ⟨x8, hv7, h⟩ := q_b_some h
  refine q_callV hx hb hml hts hown hK hP hS (As := [.int (q_I a0)]) (rest := [.int (q_I x6), .int (q_I x4)]) (st1 := [.int (q_I x8), .int (q_I x6), .int (q_I x4)]) cv_RX5_56 (c_RB_highest l D dA ra0 hv7) (Nat.le_of_ble_eq_true rfl) q_kdC_49 rfl ⟨rfl, rfl, Nat.le_of_ble_eq_true rfl, Nat.le_of_ble_eq_true rfl⟩ ⟨Nat.le_refl _, Nat.le_refl _⟩ rfl hl.1 rfl (Nat.le_of_ble_eq_true rfl) rfl (fun _ g => g) dX5_isKept_23 ?_
  clear hP hS hv7; intro H locs r8 hP hS _
  obtain ⟨x10, hv9, h⟩ := q_b_some h
  refine q_callN hx hb hml hts hown hK hP hS (As := [.int (q_I x4), .int (q_I x6), .int (q_I x8)]) (rest := []) (st1 := [.int (q_I x10)]) cn_RX5_59 (c_CR_within l D dA r4 r6 r8 hv9) ⟨rfl, rfl, Nat.le_of_ble_eq_true rfl, Nat.le_of_ble_eq_true rfl⟩ ⟨Nat.le_refl _, Nat.le_refl _⟩ rfl hl.1 rfl (Nat.le_of_ble_eq_true rfl) rfl (fun _ g => g) dX5_isKept_26 ?_
  clear hP hS hv9; intro H locs r10 hP hS _
  rw [← hQ]
  obtain ⟨hz, h⟩ := q_rz_some h
  exact q_retz1 hx hb hr hlocks hP hS hz h dX5_isKept_29
set_option maxHeartbeats 4000000 in
set_option maxRecDepth 100000 in
theorem c_RB_brokenIn (l : Launch) (D : va_G) (dA : Nat → ClassId) {z sz : Nat} {N : Nat} {μ : q_M} {xo : Int} (h : f_RB_brokenIn N μ = some xo) : Met l yX5_brokenIn (q_wc yX5_brokenIn cX5_brokenIn 4 (some .int)) ({ frames := 3, cells := 0, slots := 0, locals := 68 } : Room) (va_Pc [.ref (z + 49), .ref (z + 56)] (q_B (q_P D dA q_kdC q_rhoC 77 z sz μ) D dA)) (q_Q (some (.int (q_I xo))) (q_R xo) (q_P D dA q_kdC q_rhoC 77 z sz μ) (q_A z 77)) 0 0 (q_A z 77) := by
  refine Met.ofW (cc := cX5_brokenIn) (maxL := 4) (ret := (some .int)) (by decide) rfl ?_
  intro p e s m args below meth c s₁ B hml hv
  obtain ⟨hargs, hP, hK⟩ := hv
  have hx := B.exec
  have hb := B.bytes
  have hr := B.returns
  have hts : ∀ w ∈ q_W, w.before args s = true := fun w hw => atoms_spec (ws := q_wc yX5_brokenIn cX5_brokenIn 4 (some .int)) B.pre w (List.mem_cons_of_mem _ hw)
  have hown : s.vm.findClass RX5 = some m.cls := findClass_of_methodNamed B.named
  have hlocks := B.notSynchronized
  have hS : va_S (q_A z 77) s.heap s.heap [] := va_S.rf
  have hA : ∀ k, k < 77 → q_A z 77 (z + k) := fun k hk => ⟨Nat.le_add_right z k, Nat.add_lt_add_left hk z⟩
  have hl := lv_entry [.ref (z + 49), .ref (z + 56)] (n := 4) (Nat.le_of_ble_eq_true rfl)
  refine W.eq (by rw [hargs, lg_entry_eq]) ?_
  generalize (lg_sl [.ref (z + 49), .ref (z + 56)] ++ List.replicate (4 - (lg_sl [.ref (z + 49), .ref (z + 56)]).length) Slot.unset).toArray = ls at hl ⊢
  have hl : lv_has ls 4 [(0, .ref (z + 49)), (1, .ref (z + 56))] := hl
  generalize hQ : MQ below _ args s 0 0 _ = Qf
  change W p l e ({ frames := 3, cells := 0, slots := 0, locals := 68 } : Room) s m args below meth c s.heap [] 0 0 Qf (F0 m 0 ls [])
  unfold f_RB_brokenIn at h
  refine lv_iconst (v := q_I 0) hx hb dX5_brokenIn_0 rfl ?_
  refine lv_istore_n (lv' := [(2, .int (q_I 0)), (0, .ref (z + 49)), (1, .ref (z + 56))]) hx hb dX5_brokenIn_1 rfl hl (by decide) rfl ?_
  clear hl; intro ls hl
  refine lv_iconst (v := q_I 0) hx hb dX5_brokenIn_2 rfl ?_
  refine lv_istore_n (lv' := [(3, .int (q_I 0)), (2, .int (q_I 0)), (0, .ref (z + 49)), (1, .ref (z + 56))]) hx hb dX5_brokenIn_3 rfl hl (by decide) rfl ?_
  clear hl; intro ls hl
  have L4 : ∀ (k33 : Int → Option Int), (∀ (x3 : Int) (H : Heap) (locs : List Loc) (ls : Array Slot), q_R x3 → q_P D dA q_kdC q_rhoC 77 z sz μ H → va_S (q_A z 77) s.heap H locs → lv_has ls 4 [(2, .int (q_I x3))] → k33 x3 = some xo → W p l e ({ frames := 3, cells := 0, slots := 0, locals := 68 } : Room) s m args below meth c H locs 0 0 Qf (F0 m 33 ls [])) → ∀ (nf4 : Nat) (x1 : Int) (x2 : Int) (H : Heap) (locs : List Loc) (ls : Array Slot), q_R x1 → q_R x2 → q_P D dA q_kdC q_rhoC 77 z sz μ H → va_S (q_A z 77) s.heap H locs → lv_has ls 4 [(0, .ref (z + 49)), (1, .ref (z + 56)), (2, .int (q_I x1)), (3, .int (q_I x2))] → f_RB_brokenIn_L4 N μ k33 nf4 x1 x2 = some xo → W p l e ({ frames := 3, cells := 0, slots := 0, locals := 68 } : Room) s m args below meth c H locs 0 0 Qf (F0 m 4 ls []) := by
    clear h hl hP hS
    intro k33 hk33 nf4
    induction nf4 with
    | zero =>
      intro x1 x2 H locs ls r1 r2 hP hS hl h
      rw [f_RB_brokenIn_L4] at h
      cases h
    | succ nf4 ih4 =>
      intro x1 x2 H locs ls r1 r2 hP hS hl h
      rw [f_RB_brokenIn_L4] at h
      refine lv_iload_n hx hb dX5_brokenIn_4 rfl (lv_at hl 3 rfl) ?_
      refine lv_aload_n hx hb dX5_brokenIn_5 rfl (lv_at hl 0 rfl) ?_
      refine q_getI hx hb hts hown hK hP fd_RX5_24 (Nat.le_of_ble_eq_true rfl) q_kdC_49 rfl dX5_brokenIn_6 h ?_
      clear h; intro x4 r4 h
      refine q_cge hx hb r2 r4 (tgt := 33) dX5_brokenIn_9 (by decide) h ?_ ?_
      · clear h; intro g12 h
        exact hk33 x1 _ _ _ r1 hP hS (lv_sub hl [2] rfl) h
      · clear h; intro g12 h
        refine lv_aload_n hx hb dX5_brokenIn_12 rfl (lv_at hl 0 rfl) ?_
        refine lv_iload_n hx hb dX5_brokenIn_13 rfl (lv_at hl 3 rfl) ?_
        refine lv_aload_n hx hb dX5_brokenIn_14 rfl (lv_at hl 1 rfl) ?_
        obtain ⟨x6, hv5, h⟩ := q_b_some h
        refine q_callV hx hb hml hts hown hK hP hS (As := [.int (q_I x2), .ref (z + 56)]) (rest := []) (st1 := [.int (q_I x6)]) cv_RX5_42 (c_RB_isKept l D dA r2 hv5) (Nat.le_of_ble_eq_true rfl) q_kdC_49 rfl ⟨rfl, rfl, Nat.le_of_ble_eq_true rfl, Nat.le_of_ble_eq_true rfl⟩ ⟨Nat.le_refl _, Nat.le_refl _⟩ rfl hl.1 rfl (Nat.le_of_ble_eq_true rfl) rfl (fun _ g => g) dX5_brokenIn_15 ?_
        clear hP hS hv5; intro H locs r6 hP hS _
        refine q_jn_in h (fun J => ∀ (x7 : Int) (H : Heap) (locs : List Loc) (ls : Array Slot), q_R x7 → q_P D dA q_kdC q_rhoC 77 z sz μ H → va_S (q_A z 77) s.heap H locs → lv_has ls 4 [(0, .ref (z + 49)), (1, .ref (z + 56)), (2, .int (q_I x7)), (3, .int (q_I x2))] → J x7 = some xo → W p l e ({ frames := 3, cells := 0, slots := 0, locals := 68 } : Room) s m args below meth c H locs 0 0 Qf (F0 m 27 ls [])) ?_ ?_
        · clear h hl hP hS; intro x7 H locs ls r7 hP hS hl h
          refine q_iinc (k := 3) (lv' := fun t => [(3, .int (q_I t)), (0, .ref (z + 49)), (1, .ref (z + 56)), (2, .int (q_I x7))]) hx hb dX5_brokenIn_27 hl rfl (by decide) (fun _ => rfl) h ?_
          clear h hl; intro x8 ls r8 hl h
          refine lv_goto (tgt := 4) hx hb dX5_brokenIn_30 (by decide) ?_
          exact ih4 x7 x8 _ _ _ r7 r8 hP hS (lv_sub hl [1, 2, 3, 0] rfl) h
        · clear h; intro j27 hj27 h
          refine q_zne hx hb r6 (tgt := 27) dX5_brokenIn_18 (by decide) h ?_ ?_
          · clear h; intro g11 h
            refine lv_iload_n hx hb dX5_brokenIn_21 rfl (lv_at hl 2 rfl) ?_
            refine lv_iconst (v := q_I 1) hx hb dX5_brokenIn_22 rfl ?_
            refine lv_iload_n hx hb dX5_brokenIn_23 rfl (lv_at hl 3 rfl) ?_
            refine q_ishl hx hb dX5_brokenIn_24 h ?_
            clear h; intro x9 r9 h
            refine q_ior hx hb dX5_brokenIn_25 h ?_
            clear h; intro x10 r10 h
            refine lv_istore_n (lv' := [(2, .int (q_I x10)), (0, .ref (z + 49)), (1, .ref (z + 56)), (3, .int (q_I x2))]) hx hb dX5_brokenIn_26 rfl hl (by decide) rfl ?_
            clear hl; intro ls hl
            exact hj27 x10 _ _ _ r10 hP hS (lv_sub hl [1, 2, 0, 3] rfl) h
          · clear h; intro g11 h
            exact hj27 x1 _ _ _ r1 hP hS (lv_sub hl [0, 1, 2, 3] rfl) h
  refine L4 _ ?_  _ 0 0 _ _ _ (q_r 0 rfl) (q_r 0 rfl) hP hS (lv_sub hl [2, 3, 1, 0] rfl) h
  · clear h hl hP hS; intro x3 H locs ls r3 hP hS hl h
    refine lv_iload_n hx hb dX5_brokenIn_33 rfl (lv_at hl 0 rfl) ?_
    rw [← hQ]
    exact q_ret1 hx hb hr hlocks hP hS r3 h dX5_brokenIn_34
set_option maxHeartbeats 4000000 in
set_option maxRecDepth 100000 in
theorem c_St_readCut (l : Launch) (D : va_G) (dA : Nat → ClassId) {z sz : Nat} {N : Nat} {oa : Nat} (hoa : oa = 1 ∨ oa = 24) {μ : q_M} {μo : q_M} (h : f_St_readCut N oa μ = some μo) : Met l yX8_readCut (q_wc yX8_readCut cX8_readCut 4 none) ({ frames := 3, cells := 0, slots := 0, locals := 67 } : Room) (va_Pc [.ref (z + 56), .ref (z + oa)] (q_B (q_P D dA q_kdC q_rhoC 77 z sz μ) D dA)) (q_Q none True (q_P D dA q_kdC q_rhoC 77 z sz μo) (q_A z 77)) 0 0 (q_A z 77) := by
  refine Met.ofW (cc := cX8_readCut) (maxL := 4) (ret := none) (by decide) rfl ?_
  intro p e s m args below meth c s₁ B hml hv
  obtain ⟨hargs, hP, hK⟩ := hv
  have hx := B.exec
  have hb := B.bytes
  have hr := B.returns
  have hts : ∀ w ∈ q_W, w.before args s = true := fun w hw => atoms_spec (ws := q_wc yX8_readCut cX8_readCut 4 none) B.pre w (List.mem_cons_of_mem _ hw)
  have hown : s.vm.findClass RX8 = some m.cls := findClass_of_methodNamed B.named
  have hlocks := B.notSynchronized
  have hS : va_S (q_A z 77) s.heap s.heap [] := va_S.rf
  have hA : ∀ k, k < 77 → q_A z 77 (z + k) := fun k hk => ⟨Nat.le_add_right z k, Nat.add_lt_add_left hk z⟩
  have hl := lv_entry [.ref (z + 56), .ref (z + oa)] (n := 4) (Nat.le_of_ble_eq_true rfl)
  refine W.eq (by rw [hargs, lg_entry_eq]) ?_
  generalize (lg_sl [.ref (z + 56), .ref (z + oa)] ++ List.replicate (4 - (lg_sl [.ref (z + 56), .ref (z + oa)]).length) Slot.unset).toArray = ls at hl ⊢
  have hl : lv_has ls 4 [(0, .ref (z + 56)), (1, .ref (z + oa))] := hl
  generalize hQ : MQ below _ args s 0 0 _ = Qf
  change W p l e ({ frames := 3, cells := 0, slots := 0, locals := 67 } : Room) s m args below meth c s.heap [] 0 0 Qf (F0 m 0 ls [])
  unfold f_St_readCut at h
  refine lv_aload_n hx hb dX8_readCut_0 rfl (lv_at hl 0 rfl) ?_
  refine lv_aload_n hx hb dX8_readCut_1 rfl (lv_at hl 1 rfl) ?_
  refine q_getI hx hb hts hown hK hP fd_RX8_18 (q_ltW0 hoa) (q_kdW_0 hoa) rfl dX8_readCut_2 h ?_
  clear h; intro x1 r1 h
  refine q_putI hx hb hts hown hK hP hS hA fd_RX8_24 (Nat.le_of_ble_eq_true rfl) q_kdC_56 rfl r1 dX8_readCut_5 h ?_
  clear h hP hS; intro μ2 H locs hP hS h
  refine lv_iconst (v := q_I 0) hx hb dX8_readCut_8 rfl ?_
  refine lv_istore_n (lv' := [(2, .int (q_I 0)), (0, .ref (z + 56)), (1, .ref (z + oa))]) hx hb dX8_readCut_9 rfl hl (by decide) rfl ?_
  clear hl; intro ls hl
  have L10 : ∀ (k53 : q_M → Option q_M), (∀ (μ5 : q_M) (H : Heap) (locs : List Loc) (ls : Array Slot), q_P D dA q_kdC q_rhoC 77 z sz μ5 H → va_S (q_A z 77) s.heap H locs → lv_has ls 4 [(0, .ref (z + 56)), (1, .ref (z + oa))] → k53 μ5 = some μo → W p l e ({ frames := 3, cells := 0, slots := 0, locals := 67 } : Room) s m args below meth c H locs 0 0 Qf (F0 m 53 ls [])) → ∀ (nf10 : Nat) (x3 : Int) (μ4 : q_M) (H : Heap) (locs : List Loc) (ls : Array Slot), q_R x3 → q_P D dA q_kdC q_rhoC 77 z sz μ4 H → va_S (q_A z 77) s.heap H locs → lv_has ls 4 [(0, .ref (z + 56)), (1, .ref (z + oa)), (2, .int (q_I x3))] → f_St_readCut_L10 N oa k53 nf10 x3 μ4 = some μo → W p l e ({ frames := 3, cells := 0, slots := 0, locals := 67 } : Room) s m args below meth c H locs 0 0 Qf (F0 m 10 ls []) := by
    clear h hl hP hS
    intro k53 hk53 nf10
    induction nf10 with
    | zero =>
      intro x3 μ4 H locs ls r3 hP hS hl h
      rw [f_St_readCut_L10] at h
      cases h
    | succ nf10 ih10 =>
      intro x3 μ4 H locs ls r3 hP hS hl h
      rw [f_St_readCut_L10] at h
      refine lv_iload_n hx hb dX8_readCut_10 rfl (lv_at hl 2 rfl) ?_
      refine lv_aload_n hx hb dX8_readCut_11 rfl (lv_at hl 0 rfl) ?_
      refine q_getI hx hb hts hown hK hP fd_RX8_24 (Nat.le_of_ble_eq_true rfl) q_kdC_56 rfl dX8_readCut_12 h ?_
      clear h; intro x6 r6 h
      refine q_cge hx hb r3 r6 (tgt := 53) dX8_readCut_15 (by decide) h ?_ ?_
      · clear h; intro g18 h
        exact hk53 μ4 _ _ _ hP hS (lv_sub hl [0, 1] rfl) h
      · clear h; intro g18 h
        refine lv_iconst (v := q_I 0) hx hb dX8_readCut_18 rfl ?_
        refine lv_istore_n (lv' := [(3, .int (q_I 0)), (0, .ref (z + 56)), (1, .ref (z + oa)), (2, .int (q_I x3))]) hx hb dX8_readCut_19 rfl hl (by decide) rfl ?_
        clear hl; intro ls hl
        have L20 : ∀ (k47 : q_M → Option q_M), (∀ (μ9 : q_M) (H : Heap) (locs : List Loc) (ls : Array Slot), q_P D dA q_kdC q_rhoC 77 z sz μ9 H → va_S (q_A z 77) s.heap H locs → lv_has ls 4 [(0, .ref (z + 56)), (1, .ref (z + oa)), (2, .int (q_I x3))] → k47 μ9 = some μo → W p l e ({ frames := 3, cells := 0, slots := 0, locals := 67 } : Room) s m args below meth c H locs 0 0 Qf (F0 m 47 ls [])) → ∀ (nf20 : Nat) (x7 : Int) (μ8 : q_M) (H : Heap) (locs : List Loc) (ls : Array Slot), q_R x7 → q_P D dA q_kdC q_rhoC 77 z sz μ8 H → va_S (q_A z 77) s.heap H locs → lv_has ls 4 [(0, .ref (z + 56)), (1, .ref (z + oa)), (2, .int (q_I x3)), (3, .int (q_I x7))] → f_St_readCut_L20 N oa x3 k47 nf20 x7 μ8 = some μo → W p l e ({ frames := 3, cells := 0, slots := 0, locals := 67 } : Room) s m args below meth c H locs 0 0 Qf (F0 m 20 ls []) := by
          clear h hl hP hS
          intro k47 hk47 nf20
          induction nf20 with
          | zero =>
            intro x7 μ8 H locs ls r7 hP hS hl h
            rw [f_St_readCut_L20] at h
            cases h
          | succ nf20 ih20 =>
            intro x7 μ8 H locs ls r7 hP hS hl h
            rw [f_St_readCut_L20] at h
            refine lv_iload_n hx hb dX8_readCut_20 rfl (lv_at hl 3 rfl) ?_
            refine lv_iconst (v := q_I 2) hx hb dX8_readCut_21 rfl ?_
            refine q_cge hx hb r7 (q_r 2 rfl) (tgt := 47) dX8_readCut_22 (by decide) h ?_ ?_
            · clear h; intro g16 h
              exact hk47 μ8 _ _ _ hP hS (lv_sub hl [0, 1, 2] rfl) h
            · clear h; intro g16 h
              refine lv_aload_n hx hb dX8_readCut_25 rfl (lv_at hl 0 rfl) ?_
              refine q_getR hx hb hts hown hK hP fd_RX8_9 (Nat.le_of_ble_eq_true rfl) q_kdC_56 rfl q_rhC_56_1 dX8_readCut_26 ?_
              refine lv_iload_n hx hb dX8_readCut_29 rfl (lv_at hl 2 rfl) ?_
              refine lv_iload_n hx hb dX8_readCut_30 rfl (lv_at hl 3 rfl) ?_
              obtain ⟨x11, hv10, h⟩ := q_b_some h
              refine q_callN hx hb hml hts hown hK hP hS (As := [.int (q_I x3), .int (q_I x7)]) (rest := [.ref (z + 57)]) (st1 := [.int (q_I x11), .ref (z + 57)]) cn_RX8_54 (c_CR_slot l D dA r3 r7 hv10) ⟨rfl, rfl, Nat.le_of_ble_eq_true rfl, Nat.le_of_ble_eq_true rfl⟩ ⟨Nat.le_refl _, Nat.le_refl _⟩ rfl hl.1 rfl (Nat.le_of_ble_eq_true rfl) rfl (fun _ g => g) dX8_readCut_31 ?_
              clear hP hS hv10; intro H locs r11 hP hS _
              refine lv_aload_n hx hb dX8_readCut_34 rfl (lv_at hl 1 rfl) ?_
              refine lv_iload_n hx hb dX8_readCut_35 rfl (lv_at hl 2 rfl) ?_
              refine lv_iload_n hx hb dX8_readCut_36 rfl (lv_at hl 3 rfl) ?_
              obtain ⟨x13, hv12, h⟩ := q_b_some h
              refine q_callV hx hb hml hts hown hK hP hS (As := [.int (q_I x3), .int (q_I x7)]) (rest := [.int (q_I x11), .ref (z + 57)]) (st1 := [.int (q_I x13), .int (q_I x11), .ref (z + 57)]) cv_RX8_58 (c_Wo_cutStock l D dA hoa r3 r7 hv12) (q_ltW0 hoa) (q_kdW_0 hoa) rfl ⟨rfl, rfl, Nat.le_of_ble_eq_true rfl, Nat.le_of_ble_eq_true rfl⟩ ⟨Nat.le_refl _, Nat.le_refl _⟩ rfl hl.1 rfl (Nat.le_of_ble_eq_true rfl) rfl (fun _ g => g) dX8_readCut_37 ?_
              clear hP hS hv12; intro H locs r13 hP hS _
              refine q_iast hx hb hK hP hS hA (Nat.le_of_ble_eq_true rfl) q_kdC_57 r11 r13 dX8_readCut_40 h ?_
              clear h hP hS; intro μ14 H locs hP hS h
              refine q_iinc (k := 3) (lv' := fun t => [(3, .int (q_I t)), (0, .ref (z + 56)), (1, .ref (z + oa)), (2, .int (q_I x3))]) hx hb dX8_readCut_41 hl rfl (by decide) (fun _ => rfl) h ?_
              clear h hl; intro x15 ls r15 hl h
              refine lv_goto (tgt := 20) hx hb dX8_readCut_44 (by decide) ?_
              exact ih20 x15 μ14 _ _ _ r15 hP hS (lv_sub hl [1, 2, 3, 0] rfl) h
        refine L20 _ ?_  _ 0 μ4 _ _ _ (q_r 0 rfl) hP hS (lv_sub hl [1, 2, 3, 0] rfl) h
        · clear h hl hP hS; intro μ9 H locs ls  hP hS hl h
          refine q_iinc (k := 2) (lv' := fun t => [(2, .int (q_I t)), (0, .ref (z + 56)), (1, .ref (z + oa))]) hx hb dX8_readCut_47 hl rfl (by decide) (fun _ => rfl) h ?_
          clear h hl; intro x17 ls r17 hl h
          refine lv_goto (tgt := 10) hx hb dX8_readCut_50 (by decide) ?_
          exact ih10 x17 μ9 _ _ _ r17 hP hS (lv_sub hl [1, 2, 0] rfl) h
  refine L10 _ ?_  _ 0 μ2 _ _ _ (q_r 0 rfl) hP hS (lv_sub hl [1, 2, 0] rfl) h
  · clear h hl hP hS; intro μ5 H locs ls  hP hS hl h
    refine lv_aload_n hx hb dX8_readCut_53 rfl (lv_at hl 0 rfl) ?_
    refine q_getR hx hb hts hown hK hP fd_RX8_15 (Nat.le_of_ble_eq_true rfl) q_kdC_56 rfl q_rhC_56_2 dX8_readCut_54 ?_
    refine lv_iconst (v := q_I 0) hx hb dX8_readCut_57 rfl ?_
    refine q_callS hx hb hml hts hown hK hP hS (As := [.ref (z + 58), .int (q_I 0)]) (rest := []) (st1 := []) cs_RX8_30 (c_fillI l D dA (Nat.le_of_ble_eq_true rfl) q_kdC_58 (q_r 0 rfl) (Nat.le_of_ble_eq_true rfl) hA) ⟨rfl, rfl, Nat.le_of_ble_eq_true rfl, Nat.le_of_ble_eq_true rfl⟩ ⟨Nat.le_refl _, Nat.le_refl _⟩ rfl hl.1 rfl (Nat.le_of_ble_eq_true rfl) rfl (fun _ g => g) dX8_readCut_58 ?_
    clear hP hS; intro H locs _ hP hS _
    replace h := q_fi_in h; generalize q_fill μ5 58 2 0 = μ19 at hP h
    refine lv_iconst (v := q_I 0) hx hb dX8_readCut_61 rfl ?_
    refine lv_istore_n (lv' := [(2, .int (q_I 0)), (0, .ref (z + 56)), (1, .ref (z + oa))]) hx hb dX8_readCut_62 rfl hl (by decide) rfl ?_
    clear hl; intro ls hl
    have L63 : ∀ (k114 : q_M → Option q_M), (∀ (μ22 : q_M) (H : Heap) (locs : List Loc) (ls : Array Slot), q_P D dA q_kdC q_rhoC 77 z sz μ22 H → va_S (q_A z 77) s.heap H locs → lv_has ls 4 [] → k114 μ22 = some μo → W p l e ({ frames := 3, cells := 0, slots := 0, locals := 67 } : Room) s m args below meth c H locs 0 0 Qf (F0 m 114 ls [])) → ∀ (nf63 : Nat) (x20 : Int) (μ21 : q_M) (H : Heap) (locs : List Loc) (ls : Array Slot), q_R x20 → q_P D dA q_kdC q_rhoC 77 z sz μ21 H → va_S (q_A z 77) s.heap H locs → lv_has ls 4 [(0, .ref (z + 56)), (1, .ref (z + oa)), (2, .int (q_I x20))] → f_St_readCut_L63 oa k114 nf63 x20 μ21 = some μo → W p l e ({ frames := 3, cells := 0, slots := 0, locals := 67 } : Room) s m args below meth c H locs 0 0 Qf (F0 m 63 ls []) := by
      clear h hl hP hS
      intro k114 hk114 nf63
      induction nf63 with
      | zero =>
        intro x20 μ21 H locs ls r20 hP hS hl h
        rw [f_St_readCut_L63] at h
        cases h
      | succ nf63 ih63 =>
        intro x20 μ21 H locs ls r20 hP hS hl h
        rw [f_St_readCut_L63] at h
        refine lv_iload_n hx hb dX8_readCut_63 rfl (lv_at hl 2 rfl) ?_
        refine lv_aload_n hx hb dX8_readCut_64 rfl (lv_at hl 1 rfl) ?_
        refine q_getR hx hb hts hown hK hP fd_RX8_36 (q_ltW0 hoa) (q_kdW_0 hoa) rfl (q_rhW_0_5 hoa) dX8_readCut_65 ?_
        refine q_getI hx hb hts hown hK hP fd_RX8_40 (q_ltW hoa rfl) (q_kdW_14 hoa) rfl dX8_readCut_68 h ?_
        clear h; intro x23 r23 h
        refine q_cge hx hb r20 r23 (tgt := 114) dX8_readCut_71 (by decide) h ?_ ?_
        · clear h; intro g34 h
          exact hk114 μ21 _ _ _ hP hS (lv_sub hl [] rfl) h
        · clear h; intro g34 h
          refine lv_aload_n hx hb dX8_readCut_74 rfl (lv_at hl 1 rfl) ?_
          refine lv_iload_n hx hb dX8_readCut_75 rfl (lv_at hl 2 rfl) ?_
          obtain ⟨x25, hv24, h⟩ := q_b_some h
          refine q_callV hx hb hml hts hown hK hP hS (As := [.int (q_I x20)]) (rest := []) (st1 := [.int (q_I x25)]) cv_RX8_61 (c_Wo_crossesCut l D dA hoa r20 hv24) (q_ltW0 hoa) (q_kdW_0 hoa) rfl ⟨rfl, rfl, Nat.le_of_ble_eq_true rfl, Nat.le_of_ble_eq_true rfl⟩ ⟨Nat.le_refl _, Nat.le_refl _⟩ rfl hl.1 rfl (Nat.le_of_ble_eq_true rfl) rfl (fun _ g => g) dX8_readCut_76 ?_
          clear hP hS hv24; intro H locs r25 hP hS _
          refine q_jn_in h (fun J => ∀ (μ26 : q_M) (H : Heap) (locs : List Loc) (ls : Array Slot), q_P D dA q_kdC q_rhoC 77 z sz μ26 H → va_S (q_A z 77) s.heap H locs → lv_has ls 4 [(0, .ref (z + 56)), (1, .ref (z + oa)), (2, .int (q_I x20))] → J μ26 = some μo → W p l e ({ frames := 3, cells := 0, slots := 0, locals := 67 } : Room) s m args below meth c H locs 0 0 Qf (F0 m 108 ls [])) ?_ ?_
          · clear h hl hP hS; intro μ26 H locs ls  hP hS hl h
            refine q_iinc (k := 2) (lv' := fun t => [(2, .int (q_I t)), (0, .ref (z + 56)), (1, .ref (z + oa))]) hx hb dX8_readCut_108 hl rfl (by decide) (fun _ => rfl) h ?_
            clear h hl; intro x27 ls r27 hl h
            refine lv_goto (tgt := 63) hx hb dX8_readCut_111 (by decide) ?_
            exact ih63 x27 μ26 _ _ _ r27 hP hS (lv_sub hl [1, 2, 0] rfl) h
          · clear h; intro j108 hj108 h
            refine q_zeq hx hb r25 (tgt := 108) dX8_readCut_79 (by decide) h ?_ ?_
            · clear h; intro g33 h
              exact hj108 μ21 _ _ _ hP hS (lv_sub hl [0, 1, 2] rfl) h
            · clear h; intro g33 h
              refine lv_aload_n hx hb dX8_readCut_82 rfl (lv_at hl 0 rfl) ?_
              refine q_getR hx hb hts hown hK hP fd_RX8_15 (Nat.le_of_ble_eq_true rfl) q_kdC_56 rfl q_rhC_56_2 dX8_readCut_83 ?_
              refine lv_aload_n hx hb dX8_readCut_86 rfl (lv_at hl 1 rfl) ?_
              refine q_getR hx hb hts hown hK hP fd_RX8_36 (q_ltW0 hoa) (q_kdW_0 hoa) rfl (q_rhW_0_5 hoa) dX8_readCut_87 ?_
              refine q_getR hx hb hts hown hK hP fd_RX8_48 (q_ltW hoa rfl) (q_kdW_14 hoa) rfl (q_rhW_14_2 hoa) dX8_readCut_90 ?_
              refine lv_iload_n hx hb dX8_readCut_93 rfl (lv_at hl 2 rfl) ?_
              refine q_iald hx hb hK hP (q_ltW hoa rfl) (q_kdW_16 hoa) r20 dX8_readCut_94 h ?_
              clear h; intro x28 r28 h
              refine lv_dup2_11 hx hb dX8_readCut_95 rfl rfl ?_
              refine q_iald hx hb hK hP (Nat.le_of_ble_eq_true rfl) q_kdC_58 r28 dX8_readCut_96 h ?_
              clear h; intro x29 r29 h
              refine lv_aload_n hx hb dX8_readCut_97 rfl (lv_at hl 1 rfl) ?_
              refine q_getR hx hb hts hown hK hP fd_RX8_36 (q_ltW0 hoa) (q_kdW_0 hoa) rfl (q_rhW_0_5 hoa) dX8_readCut_98 ?_
              refine q_getR hx hb hts hown hK hP fd_RX8_51 (q_ltW hoa rfl) (q_kdW_14 hoa) rfl (q_rhW_14_3 hoa) dX8_readCut_101 ?_
              refine lv_iload_n hx hb dX8_readCut_104 rfl (lv_at hl 2 rfl) ?_
              refine q_iald hx hb hK hP (q_ltW hoa rfl) (q_kdW_17 hoa) r20 dX8_readCut_105 h ?_
              clear h; intro x30 r30 h
              refine q_iadd hx hb dX8_readCut_106 h ?_
              clear h; intro x31 r31 h
              refine q_iast hx hb hK hP hS hA (Nat.le_of_ble_eq_true rfl) q_kdC_58 r28 r31 dX8_readCut_107 h ?_
              clear h hP hS; intro μ32 H locs hP hS h
              exact hj108 μ32 _ _ _ hP hS (lv_sub hl [0, 1, 2] rfl) h
    refine L63 _ ?_  _ 0 μ19 _ _ _ (q_r 0 rfl) hP hS (lv_sub hl [1, 2, 0] rfl) h
    · clear h hl hP hS; intro μ22 H locs ls  hP hS hl h
      rw [← hQ]
      exact q_retv hx hb hr hlocks hP hS h dX8_readCut_114
set_option maxHeartbeats 4000000 in
set_option maxRecDepth 100000 in
theorem c_CR_broken (l : Launch) (D : va_G) (dA : Nat → ClassId) {z sz : Nat} {N : Nat} {a0 : Int} (ra0 : q_R a0) {μ : q_M} {xo : Int} {μo : q_M} (h : f_CR_broken N a0 μ = some (xo, μo)) : Met l yX10_broken (q_wc yX10_broken cX10_broken 2 (some .int)) ({ frames := 4, cells := 0, slots := 0, locals := 91 } : Room) (va_Pc [.ref (z + 0), .int (q_I a0)] (q_B (q_P D dA q_kdC q_rhoC 77 z sz μ) D dA)) (q_Q (some (.int (q_I xo))) (q_R xo) (q_P D dA q_kdC q_rhoC 77 z sz μo) (q_A z 77)) 0 0 (q_A z 77) := by
  refine Met.ofW (cc := cX10_broken) (maxL := 2) (ret := (some .int)) (by decide) rfl ?_
  intro p e s m args below meth c s₁ B hml hv
  obtain ⟨hargs, hP, hK⟩ := hv
  have hx := B.exec
  have hb := B.bytes
  have hr := B.returns
  have hts : ∀ w ∈ q_W, w.before args s = true := fun w hw => atoms_spec (ws := q_wc yX10_broken cX10_broken 2 (some .int)) B.pre w (List.mem_cons_of_mem _ hw)
  have hown : s.vm.findClass RX10 = some m.cls := findClass_of_methodNamed B.named
  have hlocks := B.notSynchronized
  have hS : va_S (q_A z 77) s.heap s.heap [] := va_S.rf
  have hA : ∀ k, k < 77 → q_A z 77 (z + k) := fun k hk => ⟨Nat.le_add_right z k, Nat.add_lt_add_left hk z⟩
  have hl := lv_entry [.ref (z + 0), .int (q_I a0)] (n := 2) (Nat.le_of_ble_eq_true rfl)
  refine W.eq (by rw [hargs, lg_entry_eq]) ?_
  generalize (lg_sl [.ref (z + 0), .int (q_I a0)] ++ List.replicate (2 - (lg_sl [.ref (z + 0), .int (q_I a0)]).length) Slot.unset).toArray = ls at hl ⊢
  have hl : lv_has ls 2 [(0, .ref (z + 0)), (1, .int (q_I a0))] := hl
  generalize hQ : MQ below _ args s 0 0 _ = Qf
  change W p l e ({ frames := 4, cells := 0, slots := 0, locals := 91 } : Room) s m args below meth c s.heap [] 0 0 Qf (F0 m 0 ls [])
  unfold f_CR_broken at h
  refine lv_iload_n hx hb dX10_broken_0 rfl (lv_at hl 1 rfl) ?_
  refine q_zne hx hb ra0 (tgt := 27) dX10_broken_1 (by decide) h ?_ ?_
  · clear h; intro g12 h
    refine lv_aload_n hx hb dX10_broken_4 rfl (lv_at hl 0 rfl) ?_
    refine q_getR hx hb hts hown hK hP fd_RX10_43 (Nat.le_of_ble_eq_true rfl) q_kdC_0 rfl q_rhC_0_6 dX10_broken_5 ?_
    refine lv_aload_n hx hb dX10_broken_8 rfl (lv_at hl 0 rfl) ?_
    refine q_getR hx hb hts hown hK hP fd_RX10_10 (Nat.le_of_ble_eq_true rfl) q_kdC_0 rfl q_rhC_0_0 dX10_broken_9 ?_
    obtain ⟨μ9, hv8, h⟩ := q_b_some h
    refine q_callV hx hb hml hts hown hK hP hS (As := [.ref (z + 1)]) (rest := []) (st1 := []) cv_RX10_231 (c_St_readPresent l D dA (Or.inl rfl) hv8) (Nat.le_of_ble_eq_true rfl) q_kdC_56 rfl ⟨rfl, rfl, Nat.le_of_ble_eq_true rfl, Nat.le_of_ble_eq_true rfl⟩ ⟨Nat.le_refl _, Nat.le_refl _⟩ rfl hl.1 rfl (Nat.le_of_ble_eq_true rfl) rfl (fun _ g => g) dX10_broken_12 ?_
    clear hP hS hv8; intro H locs _ hP hS _
    refine lv_aload_n hx hb dX10_broken_15 rfl (lv_at hl 0 rfl) ?_
    refine q_getR hx hb hts hown hK hP fd_RX10_29 (Nat.le_of_ble_eq_true rfl) q_kdC_0 rfl q_rhC_0_4 dX10_broken_16 ?_
    refine lv_aload_n hx hb dX10_broken_19 rfl (lv_at hl 0 rfl) ?_
    refine q_getR hx hb hts hown hK hP fd_RX10_43 (Nat.le_of_ble_eq_true rfl) q_kdC_0 rfl q_rhC_0_6 dX10_broken_20 ?_
    obtain ⟨x11, hv10, h⟩ := q_b_some h
    refine q_callV hx hb hml hts hown hK hP hS (As := [.ref (z + 56)]) (rest := []) (st1 := [.int (q_I x11)]) cv_RX10_235 (c_RB_brokenIn l D dA hv10) (Nat.le_of_ble_eq_true rfl) q_kdC_49 rfl ⟨rfl, rfl, Nat.le_of_ble_eq_true rfl, Nat.le_of_ble_eq_true rfl⟩ ⟨Nat.le_refl _, Nat.le_refl _⟩ rfl hl.1 rfl (Nat.le_of_ble_eq_true rfl) rfl (fun _ g => g) dX10_broken_23 ?_
    clear hP hS hv10; intro H locs r11 hP hS _
    rw [← hQ]
    exact q_ret2 hx hb hr hlocks hP hS r11 h dX10_broken_26
  · clear h; intro g12 h
    refine lv_aload_n hx hb dX10_broken_27 rfl (lv_at hl 0 rfl) ?_
    refine q_getR hx hb hts hown hK hP fd_RX10_10 (Nat.le_of_ble_eq_true rfl) q_kdC_0 rfl q_rhC_0_0 dX10_broken_28 ?_
    obtain ⟨x2, hv1, h⟩ := q_b_some h
    refine q_callV hx hb hml hts hown hK hP hS (As := []) (rest := []) (st1 := [.int (q_I x2)]) cv_RX10_180 (c_Wo_countOrphans l D dA (Or.inl rfl) hv1) (Nat.le_of_ble_eq_true rfl) q_kdC_1 rfl ⟨rfl, rfl, Nat.le_of_ble_eq_true rfl, Nat.le_of_ble_eq_true rfl⟩ ⟨Nat.le_refl _, Nat.le_refl _⟩ rfl hl.1 rfl (Nat.le_of_ble_eq_true rfl) rfl (fun _ g => g) dX10_broken_31 ?_
    clear hP hS hv1; intro H locs r2 hP hS _
    refine q_zle hx hb r2 (tgt := 40) dX10_broken_34 (by decide) h ?_ ?_
    · clear h; intro g7 h
      refine lv_aload_n hx hb dX10_broken_40 rfl (lv_at hl 0 rfl) ?_
      refine q_getR hx hb hts hown hK hP fd_RX10_43 (Nat.le_of_ble_eq_true rfl) q_kdC_0 rfl q_rhC_0_6 dX10_broken_41 ?_
      refine lv_aload_n hx hb dX10_broken_44 rfl (lv_at hl 0 rfl) ?_
      refine q_getR hx hb hts hown hK hP fd_RX10_10 (Nat.le_of_ble_eq_true rfl) q_kdC_0 rfl q_rhC_0_0 dX10_broken_45 ?_
      obtain ⟨μ4, hv3, h⟩ := q_b_some h
      refine q_callV hx hb hml hts hown hK hP hS (As := [.ref (z + 1)]) (rest := []) (st1 := []) cv_RX10_239 (c_St_readCut l D dA (Or.inl rfl) hv3) (Nat.le_of_ble_eq_true rfl) q_kdC_56 rfl ⟨rfl, rfl, Nat.le_of_ble_eq_true rfl, Nat.le_of_ble_eq_true rfl⟩ ⟨Nat.le_refl _, Nat.le_refl _⟩ rfl hl.1 rfl (Nat.le_of_ble_eq_true rfl) rfl (fun _ g => g) dX10_broken_48 ?_
      clear hP hS hv3; intro H locs _ hP hS _
      refine lv_aload_n hx hb dX10_broken_51 rfl (lv_at hl 0 rfl) ?_
      refine q_getR hx hb hts hown hK hP fd_RX10_29 (Nat.le_of_ble_eq_true rfl) q_kdC_0 rfl q_rhC_0_4 dX10_broken_52 ?_
      refine lv_aload_n hx hb dX10_broken_55 rfl (lv_at hl 0 rfl) ?_
      refine q_getR hx hb hts hown hK hP fd_RX10_43 (Nat.le_of_ble_eq_true rfl) q_kdC_0 rfl q_rhC_0_6 dX10_broken_56 ?_
      obtain ⟨x6, hv5, h⟩ := q_b_some h
      refine q_callV hx hb hml hts hown hK hP hS (As := [.ref (z + 56)]) (rest := []) (st1 := [.int (q_I x6)]) cv_RX10_235 (c_RB_brokenIn l D dA hv5) (Nat.le_of_ble_eq_true rfl) q_kdC_49 rfl ⟨rfl, rfl, Nat.le_of_ble_eq_true rfl, Nat.le_of_ble_eq_true rfl⟩ ⟨Nat.le_refl _, Nat.le_refl _⟩ rfl hl.1 rfl (Nat.le_of_ble_eq_true rfl) rfl (fun _ g => g) dX10_broken_59 ?_
      clear hP hS hv5; intro H locs r6 hP hS _
      rw [← hQ]
      exact q_ret2 hx hb hr hlocks hP hS r6 h dX10_broken_62
    · clear h; intro g7 h
      refine lv_ldc hx hb hown (hts _ ck_RX10_192) dX10_broken_37 ?_
      rw [← hQ]
      exact q_ret2 hx hb hr hlocks hP hS (q_r (-100004) rfl) h dX10_broken_39
set_option maxHeartbeats 4000000 in
set_option maxRecDepth 100000 in
theorem c_CR_setMoveCost (l : Launch) (D : va_G) (dA : Nat → ClassId) {z sz : Nat} {a0 : Int} (ra0 : q_R a0) {a1 : Int} (ra1 : q_R a1) {a2 : Int} (ra2 : q_R a2) {μ : q_M} {xo : Int} {μo : q_M} (h : f_CR_setMoveCost a0 a1 a2 μ = some (xo, μo)) : Met l yX10_setMoveCost (q_wc yX10_setMoveCost cX10_setMoveCost 5 (some .int)) ({ frames := 3, cells := 0, slots := 0, locals := 65 } : Room) (va_Pc [.ref (z + 0), .int (q_I a0), .int (q_I a1), .int (q_I a2)] (q_B (q_P D dA q_kdC q_rhoC 77 z sz μ) D dA)) (q_Q (some (.int (q_I xo))) (q_R xo) (q_P D dA q_kdC q_rhoC 77 z sz μo) (q_A z 77)) 0 0 (q_A z 77) := by
  refine Met.ofW (cc := cX10_setMoveCost) (maxL := 5) (ret := (some .int)) (by decide) rfl ?_
  intro p e s m args below meth c s₁ B hml hv
  obtain ⟨hargs, hP, hK⟩ := hv
  have hx := B.exec
  have hb := B.bytes
  have hr := B.returns
  have hts : ∀ w ∈ q_W, w.before args s = true := fun w hw => atoms_spec (ws := q_wc yX10_setMoveCost cX10_setMoveCost 5 (some .int)) B.pre w (List.mem_cons_of_mem _ hw)
  have hown : s.vm.findClass RX10 = some m.cls := findClass_of_methodNamed B.named
  have hlocks := B.notSynchronized
  have hS : va_S (q_A z 77) s.heap s.heap [] := va_S.rf
  have hA : ∀ k, k < 77 → q_A z 77 (z + k) := fun k hk => ⟨Nat.le_add_right z k, Nat.add_lt_add_left hk z⟩
  have hl := lv_entry [.ref (z + 0), .int (q_I a0), .int (q_I a1), .int (q_I a2)] (n := 5) (Nat.le_of_ble_eq_true rfl)
  refine W.eq (by rw [hargs, lg_entry_eq]) ?_
  generalize (lg_sl [.ref (z + 0), .int (q_I a0), .int (q_I a1), .int (q_I a2)] ++ List.replicate (5 - (lg_sl [.ref (z + 0), .int (q_I a0), .int (q_I a1), .int (q_I a2)]).length) Slot.unset).toArray = ls at hl ⊢
  have hl : lv_has ls 5 [(0, .ref (z + 0)), (1, .int (q_I a0)), (2, .int (q_I a1)), (3, .int (q_I a2))] := hl
  generalize hQ : MQ below _ args s 0 0 _ = Qf
  change W p l e ({ frames := 3, cells := 0, slots := 0, locals := 65 } : Room) s m args below meth c s.heap [] 0 0 Qf (F0 m 0 ls [])
  unfold f_CR_setMoveCost at h
  refine lv_aload_n hx hb dX10_setMoveCost_0 rfl (lv_at hl 0 rfl) ?_
  refine lv_iload_n hx hb dX10_setMoveCost_1 rfl (lv_at hl 1 rfl) ?_
  refine lv_iload_n hx hb dX10_setMoveCost_2 rfl (lv_at hl 2 rfl) ?_
  obtain ⟨x2, hv1, h⟩ := q_b_some h
  refine q_callV hx hb hml hts hown hK hP hS (As := [.int (q_I a0), .int (q_I a1)]) (rest := []) (st1 := [.int (q_I x2)]) cv_RX10_100 (c_CR_isPair l D dA ra0 ra1 hv1) (Nat.le_of_ble_eq_true rfl) q_kdC_0 rfl ⟨rfl, rfl, Nat.le_of_ble_eq_true rfl, Nat.le_of_ble_eq_true rfl⟩ ⟨Nat.le_refl _, Nat.le_refl _⟩ rfl hl.1 rfl (Nat.le_of_ble_eq_true rfl) rfl (fun _ g => g) dX10_setMoveCost_3 ?_
  clear hP hS hv1; intro H locs r2 hP hS _
  refine q_zne hx hb r2 (tgt := 12) dX10_setMoveCost_6 (by decide) h ?_ ?_
  · clear h; intro g12 h
    refine lv_ldc hx hb hown (hts _ ck_RX10_74) dX10_setMoveCost_9 ?_
    rw [← hQ]
    exact q_ret2 hx hb hr hlocks hP hS (q_r (-100001) rfl) h dX10_setMoveCost_11
  · clear h; intro g12 h
    refine lv_iload_n hx hb dX10_setMoveCost_12 rfl (lv_at hl 3 rfl) ?_
    refine lv_iconst (v := q_I 1) hx hb dX10_setMoveCost_13 rfl ?_
    refine lv_sipush (v := q_I 1000) hx hb dX10_setMoveCost_14 (by decide) ?_
    obtain ⟨x4, hv3, h⟩ := q_b_some h
    refine q_callS hx hb hml hts hown hK hP hS (As := [.int (q_I a2), .int (q_I 1), .int (q_I 1000)]) (rest := []) (st1 := [.int (q_I x4)]) cs_RX10_58 (c_CR_within l D dA ra2 (q_r 1 rfl) (q_r 1000 rfl) hv3) ⟨rfl, rfl, Nat.le_of_ble_eq_true rfl, Nat.le_of_ble_eq_true rfl⟩ ⟨Nat.le_refl _, Nat.le_refl _⟩ rfl hl.1 rfl (Nat.le_of_ble_eq_true rfl) rfl (fun _ g => g) dX10_setMoveCost_17 ?_
    clear hP hS hv3; intro H locs r4 hP hS _
    refine q_zne hx hb r4 (tgt := 26) dX10_setMoveCost_20 (by decide) h ?_ ?_
    · clear h; intro g11 h
      refine lv_ldc hx hb hown (hts _ ck_RX10_62) dX10_setMoveCost_23 ?_
      rw [← hQ]
      exact q_ret2 hx hb hr hlocks hP hS (q_r (-100002) rfl) h dX10_setMoveCost_25
    · clear h; intro g11 h
      refine lv_aload_n hx hb dX10_setMoveCost_26 rfl (lv_at hl 0 rfl) ?_
      refine q_getR hx hb hts hown hK hP fd_RX10_36 (Nat.le_of_ble_eq_true rfl) q_kdC_0 rfl q_rhC_0_5 dX10_setMoveCost_27 ?_
      refine q_getR hx hb hts hown hK hP fd_RX10_242 (Nat.le_of_ble_eq_true rfl) q_kdC_54 rfl q_rhC_54_0 dX10_setMoveCost_30 ?_
      refine lv_iload_n hx hb dX10_setMoveCost_33 rfl (lv_at hl 1 rfl) ?_
      refine lv_iload_n hx hb dX10_setMoveCost_34 rfl (lv_at hl 2 rfl) ?_
      obtain ⟨x6, hv5, h⟩ := q_b_some h
      refine q_callS hx hb hml hts hown hK hP hS (As := [.int (q_I a0), .int (q_I a1)]) (rest := [.ref (z + 55)]) (st1 := [.int (q_I x6), .ref (z + 55)]) cs_RX10_115 (c_CR_channelOf l D dA ra0 ra1 hv5) ⟨rfl, rfl, Nat.le_of_ble_eq_true rfl, Nat.le_of_ble_eq_true rfl⟩ ⟨Nat.le_refl _, Nat.le_refl _⟩ rfl hl.1 rfl (Nat.le_of_ble_eq_true rfl) rfl (fun _ g => g) dX10_setMoveCost_35 ?_
      clear hP hS hv5; intro H locs r6 hP hS _
      refine q_iald hx hb hK hP (Nat.le_of_ble_eq_true rfl) q_kdC_55 r6 dX10_setMoveCost_38 h ?_
      clear h; intro x7 r7 h
      refine lv_istore (lv' := [(4, .int (q_I x7)), (0, .ref (z + 0)), (1, .int (q_I a0)), (2, .int (q_I a1)), (3, .int (q_I a2))]) hx hb dX10_setMoveCost_39 hl (by decide) rfl ?_
      clear hl; intro ls hl
      refine lv_aload_n hx hb dX10_setMoveCost_41 rfl (lv_at hl 1 rfl) ?_
      refine q_getR hx hb hts hown hK hP fd_RX10_36 (Nat.le_of_ble_eq_true rfl) q_kdC_0 rfl q_rhC_0_5 dX10_setMoveCost_42 ?_
      refine q_getR hx hb hts hown hK hP fd_RX10_242 (Nat.le_of_ble_eq_true rfl) q_kdC_54 rfl q_rhC_54_0 dX10_setMoveCost_45 ?_
      refine lv_iload_n hx hb dX10_setMoveCost_48 rfl (lv_at hl 2 rfl) ?_
      refine lv_iload_n hx hb dX10_setMoveCost_49 rfl (lv_at hl 3 rfl) ?_
      obtain ⟨x9, hv8, h⟩ := q_b_some h
      refine q_callS hx hb hml hts hown hK hP hS (As := [.int (q_I a0), .int (q_I a1)]) (rest := [.ref (z + 55)]) (st1 := [.int (q_I x9), .ref (z + 55)]) cs_RX10_115 (c_CR_channelOf l D dA ra0 ra1 hv8) ⟨rfl, rfl, Nat.le_of_ble_eq_true rfl, Nat.le_of_ble_eq_true rfl⟩ ⟨Nat.le_refl _, Nat.le_refl _⟩ rfl hl.1 rfl (Nat.le_of_ble_eq_true rfl) rfl (fun _ g => g) dX10_setMoveCost_50 ?_
      clear hP hS hv8; intro H locs r9 hP hS _
      refine lv_iload_n hx hb dX10_setMoveCost_53 rfl (lv_at hl 4 rfl) ?_
      refine q_iast hx hb hK hP hS hA (Nat.le_of_ble_eq_true rfl) q_kdC_55 r9 ra2 dX10_setMoveCost_54 h ?_
      clear h hP hS; intro μ10 H locs hP hS h
      refine lv_iload hx hb dX10_setMoveCost_55 (lv_at hl 0 rfl) ?_
      rw [← hQ]
      exact q_ret2 hx hb hr hlocks hP hS r7 h dX10_setMoveCost_57
set_option maxHeartbeats 4000000 in
set_option maxRecDepth 100000 in
theorem c_CR_setOutsideCosts (l : Launch) (D : va_G) (dA : Nat → ClassId) {z sz : Nat} {a0 : Int} (ra0 : q_R a0) {a1 : Int} (ra1 : q_R a1) {μ : q_M} {xo : Int} {μo : q_M} (h : f_CR_setOutsideCosts a0 a1 μ = some (xo, μo)) : Met l yX10_setOutsideCosts (q_wc yX10_setOutsideCosts cX10_setOutsideCosts 4 (some .int)) ({ frames := 1, cells := 0, slots := 0, locals := 22 } : Room) (va_Pc [.ref (z + 0), .int (q_I a0), .int (q_I a1)] (q_B (q_P D dA q_kdC q_rhoC 77 z sz μ) D dA)) (q_Q (some (.int (q_I xo))) (q_R xo) (q_P D dA q_kdC q_rhoC 77 z sz μo) (q_A z 77)) 0 0 (q_A z 77) := by
  refine Met.ofW (cc := cX10_setOutsideCosts) (maxL := 4) (ret := (some .int)) (by decide) rfl ?_
  intro p e s m args below meth c s₁ B hml hv
  obtain ⟨hargs, hP, hK⟩ := hv
  have hx := B.exec
  have hb := B.bytes
  have hr := B.returns
  have hts : ∀ w ∈ q_W, w.before args s = true := fun w hw => atoms_spec (ws := q_wc yX10_setOutsideCosts cX10_setOutsideCosts 4 (some .int)) B.pre w (List.mem_cons_of_mem _ hw)
  have hown : s.vm.findClass RX10 = some m.cls := findClass_of_methodNamed B.named
  have hlocks := B.notSynchronized
  have hS : va_S (q_A z 77) s.heap s.heap [] := va_S.rf
  have hA : ∀ k, k < 77 → q_A z 77 (z + k) := fun k hk => ⟨Nat.le_add_right z k, Nat.add_lt_add_left hk z⟩
  have hl := lv_entry [.ref (z + 0), .int (q_I a0), .int (q_I a1)] (n := 4) (Nat.le_of_ble_eq_true rfl)
  refine W.eq (by rw [hargs, lg_entry_eq]) ?_
  generalize (lg_sl [.ref (z + 0), .int (q_I a0), .int (q_I a1)] ++ List.replicate (4 - (lg_sl [.ref (z + 0), .int (q_I a0), .int (q_I a1)]).length) Slot.unset).toArray = ls at hl ⊢
  have hl : lv_has ls 4 [(0, .ref (z + 0)), (1, .int (q_I a0)), (2, .int (q_I a1))] := hl
  generalize hQ : MQ below _ args s 0 0 _ = Qf
  change W p l e ({ frames := 1, cells := 0, slots := 0, locals := 22 } : Room) s m args below meth c s.heap [] 0 0 Qf (F0 m 0 ls [])
  unfold f_CR_setOutsideCosts at h
  refine lv_iload_n hx hb dX10_setOutsideCosts_0 rfl (lv_at hl 1 rfl) ?_
  refine lv_iconst (v := q_I 1) hx hb dX10_setOutsideCosts_1 rfl ?_
  refine lv_sipush (v := q_I 1000) hx hb dX10_setOutsideCosts_2 (by decide) ?_
  obtain ⟨x2, hv1, h⟩ := q_b_some h
  refine q_callS hx hb hml hts hown hK hP hS (As := [.int (q_I a0), .int (q_I 1), .int (q_I 1000)]) (rest := []) (st1 := [.int (q_I x2)]) cs_RX10_58 (c_CR_within l D dA ra0 (q_r 1 rfl) (q_r 1000 rfl) hv1) ⟨rfl, rfl, Nat.le_of_ble_eq_true rfl, Nat.le_of_ble_eq_true rfl⟩ ⟨Nat.le_refl _, Nat.le_refl _⟩ rfl hl.1 rfl (Nat.le_of_ble_eq_true rfl) rfl (fun _ g => g) dX10_setOutsideCosts_5 ?_
  clear hP hS hv1; intro H locs r2 hP hS _
  refine q_jn_in h (fun J => ∀ (H : Heap) (locs : List Loc) (ls : Array Slot), q_P D dA q_kdC q_rhoC 77 z sz μ H → va_S (q_A z 77) s.heap H locs → lv_has ls 4 [] → J = some (xo, μo) → W p l e ({ frames := 1, cells := 0, slots := 0, locals := 22 } : Room) s m args below meth c H locs 0 0 Qf (F0 m 22 ls [])) ?_ ?_
  · clear h hl hP hS; intro  H locs ls  hP hS hl h
    refine lv_ldc hx hb hown (hts _ ck_RX10_62) dX10_setOutsideCosts_22 ?_
    rw [← hQ]
    exact q_ret2 hx hb hr hlocks hP hS (q_r (-100002) rfl) h dX10_setOutsideCosts_24
  · clear h; intro j22 hj22 h
    refine q_zeq hx hb r2 (tgt := 22) dX10_setOutsideCosts_8 (by decide) h ?_ ?_
    · clear h; intro g15 h
      exact hj22  _ _ _ hP hS (lv_sub hl [] rfl) h
    · clear h; intro g15 h
      refine lv_iload_n hx hb dX10_setOutsideCosts_11 rfl (lv_at hl 2 rfl) ?_
      refine lv_iconst (v := q_I 1) hx hb dX10_setOutsideCosts_12 rfl ?_
      refine lv_sipush (v := q_I 1000) hx hb dX10_setOutsideCosts_13 (by decide) ?_
      obtain ⟨x4, hv3, h⟩ := q_b_some h
      refine q_callS hx hb hml hts hown hK hP hS (As := [.int (q_I a1), .int (q_I 1), .int (q_I 1000)]) (rest := []) (st1 := [.int (q_I x4)]) cs_RX10_58 (c_CR_within l D dA ra1 (q_r 1 rfl) (q_r 1000 rfl) hv3) ⟨rfl, rfl, Nat.le_of_ble_eq_true rfl, Nat.le_of_ble_eq_true rfl⟩ ⟨Nat.le_refl _, Nat.le_refl _⟩ rfl hl.1 rfl (Nat.le_of_ble_eq_true rfl) rfl (fun _ g => g) dX10_setOutsideCosts_16 ?_
      clear hP hS hv3; intro H locs r4 hP hS _
      refine q_zne hx hb r4 (tgt := 25) dX10_setOutsideCosts_19 (by decide) h ?_ ?_
      · clear h; intro g14 h
        exact hj22  _ _ _ hP hS (lv_sub hl [] rfl) h
      · clear h; intro g14 h
        refine lv_iload_n hx hb dX10_setOutsideCosts_25 rfl (lv_at hl 1 rfl) ?_
        refine lv_aload_n hx hb dX10_setOutsideCosts_26 rfl (lv_at hl 0 rfl) ?_
        refine q_getR hx hb hts hown hK hP fd_RX10_36 (Nat.le_of_ble_eq_true rfl) q_kdC_0 rfl q_rhC_0_5 dX10_setOutsideCosts_27 ?_
        refine q_getI hx hb hts hown hK hP fd_RX10_245 (Nat.le_of_ble_eq_true rfl) q_kdC_54 rfl dX10_setOutsideCosts_30 h ?_
        clear h; intro x5 r5 h
        refine q_jn_in h (fun J => ∀ (x6 : Int) (H : Heap) (locs : List Loc) (ls : Array Slot), q_R x6 → q_P D dA q_kdC q_rhoC 77 z sz μ H → va_S (q_A z 77) s.heap H locs → lv_has ls 4 [(0, .ref (z + 0)), (1, .int (q_I a0)), (2, .int (q_I a1))] → J x6 = some (xo, μo) → W p l e ({ frames := 1, cells := 0, slots := 0, locals := 22 } : Room) s m args below meth c H locs 0 0 Qf (F0 m 52 ls [.int (q_I x6)])) ?_ ?_
        · clear h hl hP hS; intro x6 H locs ls r6 hP hS hl h
          refine lv_istore_n (lv' := [(3, .int (q_I x6)), (0, .ref (z + 0)), (1, .int (q_I a0)), (2, .int (q_I a1))]) hx hb dX10_setOutsideCosts_52 rfl hl (by decide) rfl ?_
          clear hl; intro ls hl
          refine lv_aload_n hx hb dX10_setOutsideCosts_53 rfl (lv_at hl 1 rfl) ?_
          refine q_getR hx hb hts hown hK hP fd_RX10_36 (Nat.le_of_ble_eq_true rfl) q_kdC_0 rfl q_rhC_0_5 dX10_setOutsideCosts_54 ?_
          refine lv_iload_n hx hb dX10_setOutsideCosts_57 rfl (lv_at hl 2 rfl) ?_
          refine q_putI hx hb hts hown hK hP hS hA fd_RX10_245 (Nat.le_of_ble_eq_true rfl) q_kdC_54 rfl ra0 dX10_setOutsideCosts_58 h ?_
          clear h hP hS; intro μ7 H locs hP hS h
          refine lv_aload_n hx hb dX10_setOutsideCosts_61 rfl (lv_at hl 1 rfl) ?_
          refine q_getR hx hb hts hown hK hP fd_RX10_36 (Nat.le_of_ble_eq_true rfl) q_kdC_0 rfl q_rhC_0_5 dX10_setOutsideCosts_62 ?_
          refine lv_iload_n hx hb dX10_setOutsideCosts_65 rfl (lv_at hl 3 rfl) ?_
          refine q_putI hx hb hts hown hK hP hS hA fd_RX10_248 (Nat.le_of_ble_eq_true rfl) q_kdC_54 rfl ra1 dX10_setOutsideCosts_66 h ?_
          clear h hP hS; intro μ8 H locs hP hS h
          refine lv_iload_n hx hb dX10_setOutsideCosts_69 rfl (lv_at hl 0 rfl) ?_
          refine q_jn_in h (fun J => ∀ (x9 : Int) (H : Heap) (locs : List Loc) (ls : Array Slot), q_R x9 → q_P D dA q_kdC q_rhoC 77 z sz μ8 H → va_S (q_A z 77) s.heap H locs → lv_has ls 4 [] → J x9 = some (xo, μo) → W p l e ({ frames := 1, cells := 0, slots := 0, locals := 22 } : Room) s m args below meth c H locs 0 0 Qf (F0 m 78 ls [.int (q_I x9)])) ?_ ?_
          · clear h hl hP hS; intro x9 H locs ls r9 hP hS hl h
            rw [← hQ]
            exact q_ret2 hx hb hr hlocks hP hS r9 h dX10_setOutsideCosts_78
          · clear h; intro j78 hj78 h
            refine q_zeq hx hb r6 (tgt := 77) dX10_setOutsideCosts_70 (by decide) h ?_ ?_
            · clear h; intro g10 h
              refine lv_iconst (v := q_I 0) hx hb dX10_setOutsideCosts_77 rfl ?_
              exact hj78 0 _ _ _ (q_r 0 rfl) hP hS (lv_sub hl [] rfl) h
            · clear h; intro g10 h
              refine lv_iconst (v := q_I 1) hx hb dX10_setOutsideCosts_73 rfl ?_
              refine lv_goto (tgt := 78) hx hb dX10_setOutsideCosts_74 (by decide) ?_
              exact hj78 1 _ _ _ (q_r 1 rfl) hP hS (lv_sub hl [] rfl) h
        · clear h; intro j52 hj52 h
          refine q_jn_in h (fun J => ∀ (H : Heap) (locs : List Loc) (ls : Array Slot), q_P D dA q_kdC q_rhoC 77 z sz μ H → va_S (q_A z 77) s.heap H locs → lv_has ls 4 [(0, .ref (z + 0)), (1, .int (q_I a0)), (2, .int (q_I a1))] → J = some (xo, μo) → W p l e ({ frames := 1, cells := 0, slots := 0, locals := 22 } : Room) s m args below meth c H locs 0 0 Qf (F0 m 47 ls [])) ?_ ?_
          · clear h hl hP hS; intro  H locs ls  hP hS hl h
            refine lv_iconst (v := q_I 1) hx hb dX10_setOutsideCosts_47 rfl ?_
            refine lv_goto (tgt := 52) hx hb dX10_setOutsideCosts_48 (by decide) ?_
            exact hj52 1 _ _ _ (q_r 1 rfl) hP hS (lv_sub hl [0, 1, 2] rfl) h
          · clear h; intro j47 hj47 h
            refine q_cne hx hb ra0 r5 (tgt := 47) dX10_setOutsideCosts_33 (by decide) h ?_ ?_
            · clear h; intro g13 h
              refine lv_iload_n hx hb dX10_setOutsideCosts_36 rfl (lv_at hl 2 rfl) ?_
              refine lv_aload_n hx hb dX10_setOutsideCosts_37 rfl (lv_at hl 0 rfl) ?_
              refine q_getR hx hb hts hown hK hP fd_RX10_36 (Nat.le_of_ble_eq_true rfl) q_kdC_0 rfl q_rhC_0_5 dX10_setOutsideCosts_38 ?_
              refine q_getI hx hb hts hown hK hP fd_RX10_248 (Nat.le_of_ble_eq_true rfl) q_kdC_54 rfl dX10_setOutsideCosts_41 h ?_
              clear h; intro x11 r11 h
              refine q_ceq hx hb ra1 r11 (tgt := 51) dX10_setOutsideCosts_44 (by decide) h ?_ ?_
              · clear h; intro g12 h
                refine lv_iconst (v := q_I 0) hx hb dX10_setOutsideCosts_51 rfl ?_
                exact hj52 0 _ _ _ (q_r 0 rfl) hP hS (lv_sub hl [0, 1, 2] rfl) h
              · clear h; intro g12 h
                exact hj47  _ _ _ hP hS (lv_sub hl [0, 1, 2] rfl) h
            · clear h; intro g13 h
              exact hj47  _ _ _ hP hS (lv_sub hl [0, 1, 2] rfl) h
set_option maxHeartbeats 4000000 in
set_option maxRecDepth 100000 in
theorem c_Fl_arc (l : Launch) (D : va_G) (dA : Nat → ClassId) {z sz : Nat} {a0 : Int} (ra0 : q_R a0) {a1 : Int} (ra1 : q_R a1) {μ : q_M} {xo : Int} (h : f_Fl_arc a0 a1 μ = some xo) : Met l yX2_arc (q_wc yX2_arc cX2_arc 2 (some .int)) ({ frames := 0, cells := 0, slots := 0, locals := 0 } : Room) (va_Pc [.int (q_I a0), .int (q_I a1)] (q_B (q_P D dA q_kdC q_rhoC 77 z sz μ) D dA)) (q_Q (some (.int (q_I xo))) (q_R xo) (q_P D dA q_kdC q_rhoC 77 z sz μ) (q_A z 77)) 0 0 (q_A z 77) := by
  refine Met.ofW (cc := cX2_arc) (maxL := 2) (ret := (some .int)) (by decide) rfl ?_
  intro p e s m args below meth c s₁ B hml hv
  obtain ⟨hargs, hP, hK⟩ := hv
  have hx := B.exec
  have hb := B.bytes
  have hr := B.returns
  have hts : ∀ w ∈ q_W, w.before args s = true := fun w hw => atoms_spec (ws := q_wc yX2_arc cX2_arc 2 (some .int)) B.pre w (List.mem_cons_of_mem _ hw)
  have hown : s.vm.findClass RX2 = some m.cls := findClass_of_methodNamed B.named
  have hlocks := B.notSynchronized
  have hS : va_S (q_A z 77) s.heap s.heap [] := va_S.rf
  have hA : ∀ k, k < 77 → q_A z 77 (z + k) := fun k hk => ⟨Nat.le_add_right z k, Nat.add_lt_add_left hk z⟩
  have hl := lv_entry [.int (q_I a0), .int (q_I a1)] (n := 2) (Nat.le_of_ble_eq_true rfl)
  refine W.eq (by rw [hargs, lg_entry_eq]) ?_
  generalize (lg_sl [.int (q_I a0), .int (q_I a1)] ++ List.replicate (2 - (lg_sl [.int (q_I a0), .int (q_I a1)]).length) Slot.unset).toArray = ls at hl ⊢
  have hl : lv_has ls 2 [(0, .int (q_I a0)), (1, .int (q_I a1))] := hl
  generalize hQ : MQ below _ args s 0 0 _ = Qf
  change W p l e ({ frames := 0, cells := 0, slots := 0, locals := 0 } : Room) s m args below meth c s.heap [] 0 0 Qf (F0 m 0 ls [])
  unfold f_Fl_arc at h
  refine lv_iload_n hx hb dX2_arc_0 rfl (lv_at hl 0 rfl) ?_
  refine lv_bipush (v := q_I 7) hx hb dX2_arc_1 (by decide) ?_
  refine q_imul hx hb dX2_arc_3 h ?_
  clear h; intro x1 r1 h
  refine lv_iload_n hx hb dX2_arc_4 rfl (lv_at hl 1 rfl) ?_
  refine q_iadd hx hb dX2_arc_5 h ?_
  clear h; intro x2 r2 h
  rw [← hQ]
  exact q_ret1 hx hb hr hlocks hP hS r2 h dX2_arc_6
set_option maxHeartbeats 4000000 in
set_option maxRecDepth 100000 in
theorem c_Fl_layPriced (l : Launch) (D : va_G) (dA : Nat → ClassId) {z sz : Nat} {o : Nat} (ho : o = 61 ∨ o = 69) {a0 : Int} (ra0 : q_R a0) {a1 : Int} (ra1 : q_R a1) {a2 : Int} (ra2 : q_R a2) {μ : q_M} {μo : q_M} (h : f_Fl_layPriced o a0 a1 a2 μ = some μo) : Met l yX2_layPriced (q_wc yX2_layPriced cX2_layPriced 4 none) ({ frames := 0, cells := 0, slots := 0, locals := 0 } : Room) (va_Pc [.ref (z + o), .int (q_I a0), .int (q_I a1), .int (q_I a2)] (q_B (q_P D dA q_kdC q_rhoC 77 z sz μ) D dA)) (q_Q none True (q_P D dA q_kdC q_rhoC 77 z sz μo) (q_A z 77)) 0 0 (q_A z 77) := by
  refine Met.ofW (cc := cX2_layPriced) (maxL := 4) (ret := none) (by decide) rfl ?_
  intro p e s m args below meth c s₁ B hml hv
  obtain ⟨hargs, hP, hK⟩ := hv
  have hx := B.exec
  have hb := B.bytes
  have hr := B.returns
  have hts : ∀ w ∈ q_W, w.before args s = true := fun w hw => atoms_spec (ws := q_wc yX2_layPriced cX2_layPriced 4 none) B.pre w (List.mem_cons_of_mem _ hw)
  have hown : s.vm.findClass RX2 = some m.cls := findClass_of_methodNamed B.named
  have hlocks := B.notSynchronized
  have hS : va_S (q_A z 77) s.heap s.heap [] := va_S.rf
  have hA : ∀ k, k < 77 → q_A z 77 (z + k) := fun k hk => ⟨Nat.le_add_right z k, Nat.add_lt_add_left hk z⟩
  have hl := lv_entry [.ref (z + o), .int (q_I a0), .int (q_I a1), .int (q_I a2)] (n := 4) (Nat.le_of_ble_eq_true rfl)
  refine W.eq (by rw [hargs, lg_entry_eq]) ?_
  generalize (lg_sl [.ref (z + o), .int (q_I a0), .int (q_I a1), .int (q_I a2)] ++ List.replicate (4 - (lg_sl [.ref (z + o), .int (q_I a0), .int (q_I a1), .int (q_I a2)]).length) Slot.unset).toArray = ls at hl ⊢
  have hl : lv_has ls 4 [(0, .ref (z + o)), (1, .int (q_I a0)), (2, .int (q_I a1)), (3, .int (q_I a2))] := hl
  generalize hQ : MQ below _ args s 0 0 _ = Qf
  change W p l e ({ frames := 0, cells := 0, slots := 0, locals := 0 } : Room) s m args below meth c s.heap [] 0 0 Qf (F0 m 0 ls [])
  unfold f_Fl_layPriced at h
  refine lv_aload_n hx hb dX2_layPriced_0 rfl (lv_at hl 0 rfl) ?_
  refine q_getR hx hb hts hown hK hP fd_RX2_18 (q_ltF0 ho) (q_kdF_0 ho) rfl (q_rhF_0_2 ho) dX2_layPriced_1 ?_
  refine lv_iload_n hx hb dX2_layPriced_4 rfl (lv_at hl 1 rfl) ?_
  refine lv_ldc hx hb hown (hts _ ck_RX2_70) dX2_layPriced_5 ?_
  refine q_iast hx hb hK hP hS hA (q_ltF ho rfl) (q_kdF_3 ho) ra0 (q_r 1000000 rfl) dX2_layPriced_7 h ?_
  clear h hP hS; intro μ1 H locs hP hS h
  refine lv_aload_n hx hb dX2_layPriced_8 rfl (lv_at hl 0 rfl) ?_
  refine q_getR hx hb hts hown hK hP fd_RX2_21 (q_ltF0 ho) (q_kdF_0 ho) rfl (q_rhF_0_3 ho) dX2_layPriced_9 ?_
  refine lv_iload_n hx hb dX2_layPriced_12 rfl (lv_at hl 1 rfl) ?_
  refine lv_iload_n hx hb dX2_layPriced_13 rfl (lv_at hl 2 rfl) ?_
  refine q_i2l hx hb ra1 dX2_layPriced_14 ?_
  refine lv_bipush (v := q_I 30) hx hb dX2_layPriced_15 (by decide) ?_
  refine q_lshl hx hb (q_r 30 rfl) dX2_layPriced_17 h ?_
  clear h; intro x2 r2 h
  refine lv_lconst (v := q_J 1) hx hb dX2_layPriced_18 (by decide) ?_
  refine lv_iload_n hx hb dX2_layPriced_19 rfl (lv_at hl 3 rfl) ?_
  refine q_lshl hx hb ra2 dX2_layPriced_20 h ?_
  clear h; intro x3 r3 h
  refine q_ladd hx hb dX2_layPriced_21 h ?_
  clear h; intro x4 r4 h
  refine q_last hx hb hK hP hS hA (q_ltF ho rfl) (q_kdF_4 ho) ra0 r4 dX2_layPriced_22 h ?_
  clear h hP hS; intro μ5 H locs hP hS h
  rw [← hQ]
  exact q_retv hx hb hr hlocks hP hS h dX2_layPriced_23
set_option maxHeartbeats 4000000 in
set_option maxRecDepth 100000 in
theorem c_Fl_layPricedArcs (l : Launch) (D : va_G) (dA : Nat → ClassId) {z sz : Nat} {N : Nat} {o : Nat} (ho : o = 61 ∨ o = 69) {a0 : Int} (ra0 : q_R a0) {μ : q_M} {μo : q_M} (h : f_Fl_layPricedArcs N o a0 μ = some μo) : Met l yX2_layPricedArcs (q_wc yX2_layPricedArcs cX2_layPricedArcs 6 none) ({ frames := 1, cells := 0, slots := 0, locals := 23 } : Room) (va_Pc [.ref (z + o), .int (q_I a0), .ref (z + 54)] (q_B (q_P D dA q_kdC q_rhoC 77 z sz μ) D dA)) (q_Q none True (q_P D dA q_kdC q_rhoC 77 z sz μo) (q_A z 77)) 0 0 (q_A z 77) := by
  refine Met.ofW (cc := cX2_layPricedArcs) (maxL := 6) (ret := none) (by decide) rfl ?_
  intro p e s m args below meth c s₁ B hml hv
  obtain ⟨hargs, hP, hK⟩ := hv
  have hx := B.exec
  have hb := B.bytes
  have hr := B.returns
  have hts : ∀ w ∈ q_W, w.before args s = true := fun w hw => atoms_spec (ws := q_wc yX2_layPricedArcs cX2_layPricedArcs 6 none) B.pre w (List.mem_cons_of_mem _ hw)
  have hown : s.vm.findClass RX2 = some m.cls := findClass_of_methodNamed B.named
  have hlocks := B.notSynchronized
  have hS : va_S (q_A z 77) s.heap s.heap [] := va_S.rf
  have hA : ∀ k, k < 77 → q_A z 77 (z + k) := fun k hk => ⟨Nat.le_add_right z k, Nat.add_lt_add_left hk z⟩
  have hl := lv_entry [.ref (z + o), .int (q_I a0), .ref (z + 54)] (n := 6) (Nat.le_of_ble_eq_true rfl)
  refine W.eq (by rw [hargs, lg_entry_eq]) ?_
  generalize (lg_sl [.ref (z + o), .int (q_I a0), .ref (z + 54)] ++ List.replicate (6 - (lg_sl [.ref (z + o), .int (q_I a0), .ref (z + 54)]).length) Slot.unset).toArray = ls at hl ⊢
  have hl : lv_has ls 6 [(0, .ref (z + o)), (1, .int (q_I a0)), (2, .ref (z + 54))] := hl
  generalize hQ : MQ below _ args s 0 0 _ = Qf
  change W p l e ({ frames := 1, cells := 0, slots := 0, locals := 23 } : Room) s m args below meth c s.heap [] 0 0 Qf (F0 m 0 ls [])
  unfold f_Fl_layPricedArcs at h
  refine lv_bipush (v := q_I 29) hx hb dX2_layPricedArcs_0 (by decide) ?_
  refine lv_istore_n (lv' := [(3, .int (q_I 29)), (0, .ref (z + o)), (1, .int (q_I a0)), (2, .ref (z + 54))]) hx hb dX2_layPricedArcs_2 rfl hl (by decide) rfl ?_
  clear hl; intro ls hl
  refine lv_iconst (v := q_I 0) hx hb dX2_layPricedArcs_3 rfl ?_
  refine lv_istore (lv' := [(4, .int (q_I 0)), (3, .int (q_I 29)), (0, .ref (z + o)), (1, .int (q_I a0)), (2, .ref (z + 54))]) hx hb dX2_layPricedArcs_4 hl (by decide) rfl ?_
  clear hl; intro ls hl
  have L6 : ∀ (k67 : Int → q_M → Option q_M), (∀ (x4 : Int) (μ5 : q_M) (H : Heap) (locs : List Loc) (ls : Array Slot), q_R x4 → q_P D dA q_kdC q_rhoC 77 z sz μ5 H → va_S (q_A z 77) s.heap H locs → lv_has ls 6 [(0, .ref (z + o)), (1, .int (q_I a0)), (2, .ref (z + 54)), (3, .int (q_I x4))] → k67 x4 μ5 = some μo → W p l e ({ frames := 1, cells := 0, slots := 0, locals := 23 } : Room) s m args below meth c H locs 0 0 Qf (F0 m 67 ls [])) → ∀ (nf6 : Nat) (x1 : Int) (x2 : Int) (μ3 : q_M) (H : Heap) (locs : List Loc) (ls : Array Slot), q_R x1 → q_R x2 → q_P D dA q_kdC q_rhoC 77 z sz μ3 H → va_S (q_A z 77) s.heap H locs → lv_has ls 6 [(0, .ref (z + o)), (1, .int (q_I a0)), (2, .ref (z + 54)), (3, .int (q_I x1)), (4, .int (q_I x2))] → f_Fl_layPricedArcs_L6 N o a0 k67 nf6 x1 x2 μ3 = some μo → W p l e ({ frames := 1, cells := 0, slots := 0, locals := 23 } : Room) s m args below meth c H locs 0 0 Qf (F0 m 6 ls []) := by
    clear h hl hP hS
    intro k67 hk67 nf6
    induction nf6 with
    | zero =>
      intro x1 x2 μ3 H locs ls r1 r2 hP hS hl h
      rw [f_Fl_layPricedArcs_L6] at h
      cases h
    | succ nf6 ih6 =>
      intro x1 x2 μ3 H locs ls r1 r2 hP hS hl h
      rw [f_Fl_layPricedArcs_L6] at h
      refine lv_iload hx hb dX2_layPricedArcs_6 (lv_at hl 4 rfl) ?_
      refine lv_iload_n hx hb dX2_layPricedArcs_8 rfl (lv_at hl 1 rfl) ?_
      refine q_cge hx hb r2 ra0 (tgt := 67) dX2_layPricedArcs_9 (by decide) h ?_ ?_
      · clear h; intro g25 h
        exact hk67 x1 μ3 _ _ _ r1 hP hS (lv_sub hl [0, 1, 2, 3] rfl) h
      · clear h; intro g25 h
        refine lv_iconst (v := q_I 0) hx hb dX2_layPricedArcs_12 rfl ?_
        refine lv_istore (lv' := [(5, .int (q_I 0)), (0, .ref (z + o)), (1, .int (q_I a0)), (2, .ref (z + 54)), (3, .int (q_I x1)), (4, .int (q_I x2))]) hx hb dX2_layPricedArcs_13 hl (by decide) rfl ?_
        clear hl; intro ls hl
        have L15 : ∀ (k61 : Int → q_M → Option q_M), (∀ (x9 : Int) (μ10 : q_M) (H : Heap) (locs : List Loc) (ls : Array Slot), q_R x9 → q_P D dA q_kdC q_rhoC 77 z sz μ10 H → va_S (q_A z 77) s.heap H locs → lv_has ls 6 [(0, .ref (z + o)), (1, .int (q_I a0)), (2, .ref (z + 54)), (3, .int (q_I x9)), (4, .int (q_I x2))] → k61 x9 μ10 = some μo → W p l e ({ frames := 1, cells := 0, slots := 0, locals := 23 } : Room) s m args below meth c H locs 0 0 Qf (F0 m 61 ls [])) → ∀ (nf15 : Nat) (x6 : Int) (x7 : Int) (μ8 : q_M) (H : Heap) (locs : List Loc) (ls : Array Slot), q_R x6 → q_R x7 → q_P D dA q_kdC q_rhoC 77 z sz μ8 H → va_S (q_A z 77) s.heap H locs → lv_has ls 6 [(0, .ref (z + o)), (1, .int (q_I a0)), (2, .ref (z + 54)), (3, .int (q_I x6)), (4, .int (q_I x2)), (5, .int (q_I x7))] → f_Fl_layPricedArcs_L15 o a0 x2 k61 nf15 x6 x7 μ8 = some μo → W p l e ({ frames := 1, cells := 0, slots := 0, locals := 23 } : Room) s m args below meth c H locs 0 0 Qf (F0 m 15 ls []) := by
          clear h hl hP hS
          intro k61 hk61 nf15
          induction nf15 with
          | zero =>
            intro x6 x7 μ8 H locs ls r6 r7 hP hS hl h
            rw [f_Fl_layPricedArcs_L15] at h
            cases h
          | succ nf15 ih15 =>
            intro x6 x7 μ8 H locs ls r6 r7 hP hS hl h
            rw [f_Fl_layPricedArcs_L15] at h
            refine lv_iload hx hb dX2_layPricedArcs_15 (lv_at hl 5 rfl) ?_
            refine lv_iload_n hx hb dX2_layPricedArcs_17 rfl (lv_at hl 1 rfl) ?_
            refine q_cge hx hb r7 ra0 (tgt := 61) dX2_layPricedArcs_18 (by decide) h ?_ ?_
            · clear h; intro g23 h
              exact hk61 x6 μ8 _ _ _ r6 hP hS (lv_sub hl [0, 1, 2, 3, 4] rfl) h
            · clear h; intro g23 h
              refine lv_iload hx hb dX2_layPricedArcs_21 (lv_at hl 4 rfl) ?_
              refine lv_iload hx hb dX2_layPricedArcs_23 (lv_at hl 5 rfl) ?_
              refine q_jn_in h (fun J => ∀ (x11 : Int) (μ12 : q_M) (H : Heap) (locs : List Loc) (ls : Array Slot), q_R x11 → q_P D dA q_kdC q_rhoC 77 z sz μ12 H → va_S (q_A z 77) s.heap H locs → lv_has ls 6 [(0, .ref (z + o)), (1, .int (q_I a0)), (2, .ref (z + 54)), (3, .int (q_I x11)), (4, .int (q_I x2)), (5, .int (q_I x7))] → J x11 μ12 = some μo → W p l e ({ frames := 1, cells := 0, slots := 0, locals := 23 } : Room) s m args below meth c H locs 0 0 Qf (F0 m 55 ls [])) ?_ ?_
              · clear h hl hP hS; intro x11 μ12 H locs ls r11 hP hS hl h
                refine q_iinc (k := 5) (lv' := fun t => [(5, .int (q_I t)), (0, .ref (z + o)), (1, .int (q_I a0)), (2, .ref (z + 54)), (3, .int (q_I x11)), (4, .int (q_I x2))]) hx hb dX2_layPricedArcs_55 hl rfl (by decide) (fun _ => rfl) h ?_
                clear h hl; intro x13 ls r13 hl h
                refine lv_goto (tgt := 15) hx hb dX2_layPricedArcs_58 (by decide) ?_
                exact ih15 x11 x13 μ12 _ _ _ r11 r13 hP hS (lv_sub hl [1, 2, 3, 4, 5, 0] rfl) h
              · clear h; intro j55 hj55 h
                refine q_ceq hx hb r2 r7 (tgt := 55) dX2_layPricedArcs_25 (by decide) h ?_ ?_
                · clear h; intro g22 h
                  exact hj55 x6 μ8 _ _ _ r6 hP hS (lv_sub hl [0, 1, 2, 3, 4, 5] rfl) h
                · clear h; intro g22 h
                  refine lv_aload_n hx hb dX2_layPricedArcs_28 rfl (lv_at hl 0 rfl) ?_
                  refine lv_iload hx hb dX2_layPricedArcs_29 (lv_at hl 4 rfl) ?_
                  refine lv_iload hx hb dX2_layPricedArcs_31 (lv_at hl 5 rfl) ?_
                  obtain ⟨x15, hv14, h⟩ := q_b_some h
                  refine q_callS hx hb hml hts hown hK hP hS (As := [.int (q_I x2), .int (q_I x7)]) (rest := [.ref (z + o)]) (st1 := [.int (q_I x15), .ref (z + o)]) cs_RX2_34 (c_Fl_arc l D dA r2 r7 hv14) ⟨rfl, rfl, Nat.le_of_ble_eq_true rfl, Nat.le_of_ble_eq_true rfl⟩ ⟨Nat.le_refl _, Nat.le_refl _⟩ rfl hl.1 rfl (Nat.le_of_ble_eq_true rfl) rfl (fun _ g => g) dX2_layPricedArcs_33 ?_
                  clear hP hS hv14; intro H locs r15 hP hS _
                  refine lv_aload_n hx hb dX2_layPricedArcs_36 rfl (lv_at hl 2 rfl) ?_
                  refine q_getR hx hb hts hown hK hP fd_RX2_51 (Nat.le_of_ble_eq_true rfl) q_kdC_54 rfl q_rhC_54_0 dX2_layPricedArcs_37 ?_
                  refine lv_iload hx hb dX2_layPricedArcs_40 (lv_at hl 4 rfl) ?_
                  refine lv_iload hx hb dX2_layPricedArcs_42 (lv_at hl 5 rfl) ?_
                  obtain ⟨x17, hv16, h⟩ := q_b_some h
                  refine q_callN hx hb hml hts hown hK hP hS (As := [.int (q_I x2), .int (q_I x7)]) (rest := [.ref (z + 55), .int (q_I x15), .ref (z + o)]) (st1 := [.int (q_I x17), .ref (z + 55), .int (q_I x15), .ref (z + o)]) cn_RX2_56 (c_CR_channelOf l D dA r2 r7 hv16) ⟨rfl, rfl, Nat.le_of_ble_eq_true rfl, Nat.le_of_ble_eq_true rfl⟩ ⟨Nat.le_refl _, Nat.le_refl _⟩ rfl hl.1 rfl (Nat.le_of_ble_eq_true rfl) rfl (fun _ g => g) dX2_layPricedArcs_44 ?_
                  clear hP hS hv16; intro H locs r17 hP hS _
                  refine q_iald hx hb hK hP (Nat.le_of_ble_eq_true rfl) q_kdC_55 r17 dX2_layPricedArcs_47 h ?_
                  clear h; intro x18 r18 h
                  refine lv_iload_n hx hb dX2_layPricedArcs_48 rfl (lv_at hl 3 rfl) ?_
                  obtain ⟨μ20, hv19, h⟩ := q_b_some h
                  refine q_callV hx hb hml hts hown hK hP hS (As := [.int (q_I x15), .int (q_I x18), .int (q_I x6)]) (rest := []) (st1 := []) cv_RX2_59 (c_Fl_layPriced l D dA ho r15 r18 r6 hv19) (q_ltF0 ho) (q_kdF_0 ho) rfl ⟨rfl, rfl, Nat.le_of_ble_eq_true rfl, Nat.le_of_ble_eq_true rfl⟩ ⟨Nat.le_refl _, Nat.le_refl _⟩ rfl hl.1 rfl (Nat.le_of_ble_eq_true rfl) rfl (fun _ g => g) dX2_layPricedArcs_49 ?_
                  clear hP hS hv19; intro H locs _ hP hS _
                  refine q_iinc (k := 3) (lv' := fun t => [(3, .int (q_I t)), (0, .ref (z + o)), (1, .int (q_I a0)), (2, .ref (z + 54)), (4, .int (q_I x2)), (5, .int (q_I x7))]) hx hb dX2_layPricedArcs_52 hl rfl (by decide) (fun _ => rfl) h ?_
                  clear h hl; intro x21 ls r21 hl h
                  exact hj55 x21 μ20 _ _ _ r21 hP hS (lv_sub hl [1, 2, 3, 0, 4, 5] rfl) h
        refine L15 _ ?_  _ x1 0 μ3 _ _ _ r1 (q_r 0 rfl) hP hS (lv_sub hl [1, 2, 3, 4, 5, 0] rfl) h
        · clear h hl hP hS; intro x9 μ10 H locs ls r9 hP hS hl h
          refine q_iinc (k := 4) (lv' := fun t => [(4, .int (q_I t)), (0, .ref (z + o)), (1, .int (q_I a0)), (2, .ref (z + 54)), (3, .int (q_I x9))]) hx hb dX2_layPricedArcs_61 hl rfl (by decide) (fun _ => rfl) h ?_
          clear h hl; intro x24 ls r24 hl h
          refine lv_goto (tgt := 6) hx hb dX2_layPricedArcs_64 (by decide) ?_
          exact ih6 x9 x24 μ10 _ _ _ r9 r24 hP hS (lv_sub hl [1, 2, 3, 4, 0] rfl) h
  refine L6 _ ?_  _ 29 0 μ _ _ _ (q_r 29 rfl) (q_r 0 rfl) hP hS (lv_sub hl [2, 3, 4, 1, 0] rfl) h
  · clear h hl hP hS; intro x4 μ5 H locs ls r4 hP hS hl h
    refine lv_iconst (v := q_I 0) hx hb dX2_layPricedArcs_67 rfl ?_
    refine lv_istore (lv' := [(4, .int (q_I 0)), (0, .ref (z + o)), (1, .int (q_I a0)), (2, .ref (z + 54)), (3, .int (q_I x4))]) hx hb dX2_layPricedArcs_68 hl (by decide) rfl ?_
    clear hl; intro ls hl
    have L70 : ∀ (k100 : Int → q_M → Option q_M), (∀ (x29 : Int) (μ30 : q_M) (H : Heap) (locs : List Loc) (ls : Array Slot), q_R x29 → q_P D dA q_kdC q_rhoC 77 z sz μ30 H → va_S (q_A z 77) s.heap H locs → lv_has ls 6 [(0, .ref (z + o)), (1, .int (q_I a0)), (2, .ref (z + 54)), (3, .int (q_I x29))] → k100 x29 μ30 = some μo → W p l e ({ frames := 1, cells := 0, slots := 0, locals := 23 } : Room) s m args below meth c H locs 0 0 Qf (F0 m 100 ls [])) → ∀ (nf70 : Nat) (x26 : Int) (x27 : Int) (μ28 : q_M) (H : Heap) (locs : List Loc) (ls : Array Slot), q_R x26 → q_R x27 → q_P D dA q_kdC q_rhoC 77 z sz μ28 H → va_S (q_A z 77) s.heap H locs → lv_has ls 6 [(0, .ref (z + o)), (1, .int (q_I a0)), (2, .ref (z + 54)), (3, .int (q_I x26)), (4, .int (q_I x27))] → f_Fl_layPricedArcs_L70 o a0 k100 nf70 x26 x27 μ28 = some μo → W p l e ({ frames := 1, cells := 0, slots := 0, locals := 23 } : Room) s m args below meth c H locs 0 0 Qf (F0 m 70 ls []) := by
      clear h hl hP hS
      intro k100 hk100 nf70
      induction nf70 with
      | zero =>
        intro x26 x27 μ28 H locs ls r26 r27 hP hS hl h
        rw [f_Fl_layPricedArcs_L70] at h
        cases h
      | succ nf70 ih70 =>
        intro x26 x27 μ28 H locs ls r26 r27 hP hS hl h
        rw [f_Fl_layPricedArcs_L70] at h
        refine lv_iload hx hb dX2_layPricedArcs_70 (lv_at hl 4 rfl) ?_
        refine lv_iload_n hx hb dX2_layPricedArcs_72 rfl (lv_at hl 1 rfl) ?_
        refine q_cge hx hb r27 ra0 (tgt := 100) dX2_layPricedArcs_73 (by decide) h ?_ ?_
        · clear h; intro g38 h
          exact hk100 x26 μ28 _ _ _ r26 hP hS (lv_sub hl [0, 1, 2, 3] rfl) h
        · clear h; intro g38 h
          refine lv_aload_n hx hb dX2_layPricedArcs_76 rfl (lv_at hl 0 rfl) ?_
          refine lv_iconst (v := q_I 5) hx hb dX2_layPricedArcs_77 rfl ?_
          refine lv_iload hx hb dX2_layPricedArcs_78 (lv_at hl 4 rfl) ?_
          obtain ⟨x32, hv31, h⟩ := q_b_some h
          refine q_callS hx hb hml hts hown hK hP hS (As := [.int (q_I 5), .int (q_I x27)]) (rest := [.ref (z + o)]) (st1 := [.int (q_I x32), .ref (z + o)]) cs_RX2_34 (c_Fl_arc l D dA (q_r 5 rfl) r27 hv31) ⟨rfl, rfl, Nat.le_of_ble_eq_true rfl, Nat.le_of_ble_eq_true rfl⟩ ⟨Nat.le_refl _, Nat.le_refl _⟩ rfl hl.1 rfl (Nat.le_of_ble_eq_true rfl) rfl (fun _ g => g) dX2_layPricedArcs_80 ?_
          clear hP hS hv31; intro H locs r32 hP hS _
          refine lv_aload_n hx hb dX2_layPricedArcs_83 rfl (lv_at hl 2 rfl) ?_
          refine q_getI hx hb hts hown hK hP fd_RX2_63 (Nat.le_of_ble_eq_true rfl) q_kdC_54 rfl dX2_layPricedArcs_84 h ?_
          clear h; intro x33 r33 h
          refine lv_iload_n hx hb dX2_layPricedArcs_87 rfl (lv_at hl 3 rfl) ?_
          obtain ⟨μ35, hv34, h⟩ := q_b_some h
          refine q_callV hx hb hml hts hown hK hP hS (As := [.int (q_I x32), .int (q_I x33), .int (q_I x26)]) (rest := []) (st1 := []) cv_RX2_59 (c_Fl_layPriced l D dA ho r32 r33 r26 hv34) (q_ltF0 ho) (q_kdF_0 ho) rfl ⟨rfl, rfl, Nat.le_of_ble_eq_true rfl, Nat.le_of_ble_eq_true rfl⟩ ⟨Nat.le_refl _, Nat.le_refl _⟩ rfl hl.1 rfl (Nat.le_of_ble_eq_true rfl) rfl (fun _ g => g) dX2_layPricedArcs_88 ?_
          clear hP hS hv34; intro H locs _ hP hS _
          refine q_iinc (k := 3) (lv' := fun t => [(3, .int (q_I t)), (0, .ref (z + o)), (1, .int (q_I a0)), (2, .ref (z + 54)), (4, .int (q_I x27))]) hx hb dX2_layPricedArcs_91 hl rfl (by decide) (fun _ => rfl) h ?_
          clear h hl; intro x36 ls r36 hl h
          refine q_iinc (k := 4) (lv' := fun t => [(4, .int (q_I t)), (3, .int (q_I x36)), (0, .ref (z + o)), (1, .int (q_I a0)), (2, .ref (z + 54))]) hx hb dX2_layPricedArcs_94 hl rfl (by decide) (fun _ => rfl) h ?_
          clear h hl; intro x37 ls r37 hl h
          refine lv_goto (tgt := 70) hx hb dX2_layPricedArcs_97 (by decide) ?_
          exact ih70 x36 x37 μ35 _ _ _ r36 r37 hP hS (lv_sub hl [2, 3, 4, 1, 0] rfl) h
    refine L70 _ ?_  _ x4 0 μ5 _ _ _ r4 (q_r 0 rfl) hP hS (lv_sub hl [1, 2, 3, 4, 0] rfl) h
    · clear h hl hP hS; intro x29 μ30 H locs ls r29 hP hS hl h
      refine lv_iconst (v := q_I 0) hx hb dX2_layPricedArcs_100 rfl ?_
      refine lv_istore (lv' := [(4, .int (q_I 0)), (0, .ref (z + o)), (1, .int (q_I a0)), (2, .ref (z + 54)), (3, .int (q_I x29))]) hx hb dX2_layPricedArcs_101 hl (by decide) rfl ?_
      clear hl; intro ls hl
      have L103 : ∀ (k133 : q_M → Option q_M), (∀ (μ42 : q_M) (H : Heap) (locs : List Loc) (ls : Array Slot), q_P D dA q_kdC q_rhoC 77 z sz μ42 H → va_S (q_A z 77) s.heap H locs → lv_has ls 6 [] → k133 μ42 = some μo → W p l e ({ frames := 1, cells := 0, slots := 0, locals := 23 } : Room) s m args below meth c H locs 0 0 Qf (F0 m 133 ls [])) → ∀ (nf103 : Nat) (x39 : Int) (x40 : Int) (μ41 : q_M) (H : Heap) (locs : List Loc) (ls : Array Slot), q_R x39 → q_R x40 → q_P D dA q_kdC q_rhoC 77 z sz μ41 H → va_S (q_A z 77) s.heap H locs → lv_has ls 6 [(0, .ref (z + o)), (1, .int (q_I a0)), (2, .ref (z + 54)), (3, .int (q_I x39)), (4, .int (q_I x40))] → f_Fl_layPricedArcs_L103 o a0 k133 nf103 x39 x40 μ41 = some μo → W p l e ({ frames := 1, cells := 0, slots := 0, locals := 23 } : Room) s m args below meth c H locs 0 0 Qf (F0 m 103 ls []) := by
        clear h hl hP hS
        intro k133 hk133 nf103
        induction nf103 with
        | zero =>
          intro x39 x40 μ41 H locs ls r39 r40 hP hS hl h
          rw [f_Fl_layPricedArcs_L103] at h
          cases h
        | succ nf103 ih103 =>
          intro x39 x40 μ41 H locs ls r39 r40 hP hS hl h
          rw [f_Fl_layPricedArcs_L103] at h
          refine lv_iload hx hb dX2_layPricedArcs_103 (lv_at hl 4 rfl) ?_
          refine lv_iload_n hx hb dX2_layPricedArcs_105 rfl (lv_at hl 1 rfl) ?_
          refine q_cge hx hb r40 ra0 (tgt := 133) dX2_layPricedArcs_106 (by decide) h ?_ ?_
          · clear h; intro g50 h
            exact hk133 μ41 _ _ _ hP hS (lv_sub hl [] rfl) h
          · clear h; intro g50 h
            refine lv_aload_n hx hb dX2_layPricedArcs_109 rfl (lv_at hl 0 rfl) ?_
            refine lv_iload hx hb dX2_layPricedArcs_110 (lv_at hl 4 rfl) ?_
            refine lv_iconst (v := q_I 5) hx hb dX2_layPricedArcs_112 rfl ?_
            obtain ⟨x44, hv43, h⟩ := q_b_some h
            refine q_callS hx hb hml hts hown hK hP hS (As := [.int (q_I x40), .int (q_I 5)]) (rest := [.ref (z + o)]) (st1 := [.int (q_I x44), .ref (z + o)]) cs_RX2_34 (c_Fl_arc l D dA r40 (q_r 5 rfl) hv43) ⟨rfl, rfl, Nat.le_of_ble_eq_true rfl, Nat.le_of_ble_eq_true rfl⟩ ⟨Nat.le_refl _, Nat.le_refl _⟩ rfl hl.1 rfl (Nat.le_of_ble_eq_true rfl) rfl (fun _ g => g) dX2_layPricedArcs_113 ?_
            clear hP hS hv43; intro H locs r44 hP hS _
            refine lv_aload_n hx hb dX2_layPricedArcs_116 rfl (lv_at hl 2 rfl) ?_
            refine q_getI hx hb hts hown hK hP fd_RX2_67 (Nat.le_of_ble_eq_true rfl) q_kdC_54 rfl dX2_layPricedArcs_117 h ?_
            clear h; intro x45 r45 h
            refine lv_iload_n hx hb dX2_layPricedArcs_120 rfl (lv_at hl 3 rfl) ?_
            obtain ⟨μ47, hv46, h⟩ := q_b_some h
            refine q_callV hx hb hml hts hown hK hP hS (As := [.int (q_I x44), .int (q_I x45), .int (q_I x39)]) (rest := []) (st1 := []) cv_RX2_59 (c_Fl_layPriced l D dA ho r44 r45 r39 hv46) (q_ltF0 ho) (q_kdF_0 ho) rfl ⟨rfl, rfl, Nat.le_of_ble_eq_true rfl, Nat.le_of_ble_eq_true rfl⟩ ⟨Nat.le_refl _, Nat.le_refl _⟩ rfl hl.1 rfl (Nat.le_of_ble_eq_true rfl) rfl (fun _ g => g) dX2_layPricedArcs_121 ?_
            clear hP hS hv46; intro H locs _ hP hS _
            refine q_iinc (k := 3) (lv' := fun t => [(3, .int (q_I t)), (0, .ref (z + o)), (1, .int (q_I a0)), (2, .ref (z + 54)), (4, .int (q_I x40))]) hx hb dX2_layPricedArcs_124 hl rfl (by decide) (fun _ => rfl) h ?_
            clear h hl; intro x48 ls r48 hl h
            refine q_iinc (k := 4) (lv' := fun t => [(4, .int (q_I t)), (3, .int (q_I x48)), (0, .ref (z + o)), (1, .int (q_I a0)), (2, .ref (z + 54))]) hx hb dX2_layPricedArcs_127 hl rfl (by decide) (fun _ => rfl) h ?_
            clear h hl; intro x49 ls r49 hl h
            refine lv_goto (tgt := 103) hx hb dX2_layPricedArcs_130 (by decide) ?_
            exact ih103 x48 x49 μ47 _ _ _ r48 r49 hP hS (lv_sub hl [2, 3, 4, 1, 0] rfl) h
      refine L103 _ ?_  _ x29 0 μ30 _ _ _ r29 (q_r 0 rfl) hP hS (lv_sub hl [1, 2, 3, 4, 0] rfl) h
      · clear h hl hP hS; intro μ42 H locs ls  hP hS hl h
        rw [← hQ]
        exact q_retv hx hb hr hlocks hP hS h dX2_layPricedArcs_133
set_option maxHeartbeats 4000000 in
set_option maxRecDepth 100000 in
theorem c_Fl_layOut (l : Launch) (D : va_G) (dA : Nat → ClassId) {z sz : Nat} {N : Nat} {o : Nat} (ho : o = 61 ∨ o = 69) {a0 : Int} (ra0 : q_R a0) {μ : q_M} {μo : q_M} (h : f_Fl_layOut N o a0 μ = some μo) : Met l yX2_layOut (q_wc yX2_layOut cX2_layOut 4 none) ({ frames := 2, cells := 0, slots := 0, locals := 48 } : Room) (va_Pc [.ref (z + o), .int (q_I a0), .ref (z + 54)] (q_B (q_P D dA q_kdC q_rhoC 77 z sz μ) D dA)) (q_Q none True (q_P D dA q_kdC q_rhoC 77 z sz μo) (q_A z 77)) 0 0 (q_A z 77) := by
  refine Met.ofW (cc := cX2_layOut) (maxL := 4) (ret := none) (by decide) rfl ?_
  intro p e s m args below meth c s₁ B hml hv
  obtain ⟨hargs, hP, hK⟩ := hv
  have hx := B.exec
  have hb := B.bytes
  have hr := B.returns
  have hts : ∀ w ∈ q_W, w.before args s = true := fun w hw => atoms_spec (ws := q_wc yX2_layOut cX2_layOut 4 none) B.pre w (List.mem_cons_of_mem _ hw)
  have hown : s.vm.findClass RX2 = some m.cls := findClass_of_methodNamed B.named
  have hlocks := B.notSynchronized
  have hS : va_S (q_A z 77) s.heap s.heap [] := va_S.rf
  have hA : ∀ k, k < 77 → q_A z 77 (z + k) := fun k hk => ⟨Nat.le_add_right z k, Nat.add_lt_add_left hk z⟩
  have hl := lv_entry [.ref (z + o), .int (q_I a0), .ref (z + 54)] (n := 4) (Nat.le_of_ble_eq_true rfl)
  refine W.eq (by rw [hargs, lg_entry_eq]) ?_
  generalize (lg_sl [.ref (z + o), .int (q_I a0), .ref (z + 54)] ++ List.replicate (4 - (lg_sl [.ref (z + o), .int (q_I a0), .ref (z + 54)]).length) Slot.unset).toArray = ls at hl ⊢
  have hl : lv_has ls 4 [(0, .ref (z + o)), (1, .int (q_I a0)), (2, .ref (z + 54))] := hl
  generalize hQ : MQ below _ args s 0 0 _ = Qf
  change W p l e ({ frames := 2, cells := 0, slots := 0, locals := 48 } : Room) s m args below meth c s.heap [] 0 0 Qf (F0 m 0 ls [])
  unfold f_Fl_layOut at h
  refine lv_aload_n hx hb dX2_layOut_0 rfl (lv_at hl 0 rfl) ?_
  refine q_getR hx hb hts hown hK hP fd_RX2_11 (q_ltF0 ho) (q_kdF_0 ho) rfl (q_rhF_0_0 ho) dX2_layOut_1 ?_
  refine lv_iconst (v := q_I 0) hx hb dX2_layOut_4 rfl ?_
  refine q_callS hx hb hml hts hown hK hP hS (As := [.ref (z + (o + 1)), .int (q_I 0)]) (rest := []) (st1 := []) cs_RX2_38 (c_fillI l D dA (q_ltF ho rfl) (q_kdF_1 ho) (q_r 0 rfl) (Nat.le_of_ble_eq_true rfl) hA) ⟨rfl, rfl, Nat.le_of_ble_eq_true rfl, Nat.le_of_ble_eq_true rfl⟩ ⟨Nat.le_refl _, Nat.le_refl _⟩ rfl hl.1 rfl (Nat.le_of_ble_eq_true rfl) rfl (fun _ g => g) dX2_layOut_5 ?_
  clear hP hS; intro H locs _ hP hS _
  replace h := q_fi_in h; generalize q_fill μ (o + 1) 49 0 = μ1 at hP h
  refine lv_aload_n hx hb dX2_layOut_8 rfl (lv_at hl 0 rfl) ?_
  refine q_getR hx hb hts hown hK hP fd_RX2_15 (q_ltF0 ho) (q_kdF_0 ho) rfl (q_rhF_0_1 ho) dX2_layOut_9 ?_
  refine lv_iconst (v := q_I 0) hx hb dX2_layOut_12 rfl ?_
  refine q_callS hx hb hml hts hown hK hP hS (As := [.ref (z + (o + 2)), .int (q_I 0)]) (rest := []) (st1 := []) cs_RX2_38 (c_fillI l D dA (q_ltF ho rfl) (q_kdF_2 ho) (q_r 0 rfl) (Nat.le_of_ble_eq_true rfl) hA) ⟨rfl, rfl, Nat.le_of_ble_eq_true rfl, Nat.le_of_ble_eq_true rfl⟩ ⟨Nat.le_refl _, Nat.le_refl _⟩ rfl hl.1 rfl (Nat.le_of_ble_eq_true rfl) rfl (fun _ g => g) dX2_layOut_13 ?_
  clear hP hS; intro H locs _ hP hS _
  replace h := q_fi_in h; generalize q_fill μ1 (o + 2) 49 0 = μ2 at hP h
  refine lv_aload_n hx hb dX2_layOut_16 rfl (lv_at hl 0 rfl) ?_
  refine q_getR hx hb hts hown hK hP fd_RX2_18 (q_ltF0 ho) (q_kdF_0 ho) rfl (q_rhF_0_2 ho) dX2_layOut_17 ?_
  refine lv_iconst (v := q_I 0) hx hb dX2_layOut_20 rfl ?_
  refine q_callS hx hb hml hts hown hK hP hS (As := [.ref (z + (o + 3)), .int (q_I 0)]) (rest := []) (st1 := []) cs_RX2_38 (c_fillI l D dA (q_ltF ho rfl) (q_kdF_3 ho) (q_r 0 rfl) (Nat.le_of_ble_eq_true rfl) hA) ⟨rfl, rfl, Nat.le_of_ble_eq_true rfl, Nat.le_of_ble_eq_true rfl⟩ ⟨Nat.le_refl _, Nat.le_refl _⟩ rfl hl.1 rfl (Nat.le_of_ble_eq_true rfl) rfl (fun _ g => g) dX2_layOut_21 ?_
  clear hP hS; intro H locs _ hP hS _
  replace h := q_fi_in h; generalize q_fill μ2 (o + 3) 49 0 = μ3 at hP h
  refine lv_aload_n hx hb dX2_layOut_24 rfl (lv_at hl 0 rfl) ?_
  refine q_getR hx hb hts hown hK hP fd_RX2_21 (q_ltF0 ho) (q_kdF_0 ho) rfl (q_rhF_0_3 ho) dX2_layOut_25 ?_
  refine lv_lconst (v := q_J 0) hx hb dX2_layOut_28 (by decide) ?_
  refine q_callS hx hb hml hts hown hK hP hS (As := [.ref (z + (o + 4)), .long (q_J 0)]) (rest := []) (st1 := []) cs_RX2_44 (c_fillL l D dA (q_ltF ho rfl) (q_kdF_4 ho) (q_s 0 rfl) (Nat.le_of_ble_eq_true rfl) hA) ⟨rfl, rfl, Nat.le_of_ble_eq_true rfl, Nat.le_of_ble_eq_true rfl⟩ ⟨Nat.le_refl _, Nat.le_refl _⟩ rfl hl.1 rfl (Nat.le_of_ble_eq_true rfl) rfl (fun _ g => g) dX2_layOut_29 ?_
  clear hP hS; intro H locs _ hP hS _
  replace h := q_fi_in h; generalize q_fill μ3 (o + 4) 49 0 = μ4 at hP h
  refine lv_aload_n hx hb dX2_layOut_32 rfl (lv_at hl 0 rfl) ?_
  refine q_getR hx hb hts hown hK hP fd_RX2_25 (q_ltF0 ho) (q_kdF_0 ho) rfl (q_rhF_0_4 ho) dX2_layOut_33 ?_
  refine lv_iconst (v := q_I 0) hx hb dX2_layOut_36 rfl ?_
  refine q_callS hx hb hml hts hown hK hP hS (As := [.ref (z + (o + 5)), .int (q_I 0)]) (rest := []) (st1 := []) cs_RX2_38 (c_fillI l D dA (q_ltF ho rfl) (q_kdF_5 ho) (q_r 0 rfl) (Nat.le_of_ble_eq_true rfl) hA) ⟨rfl, rfl, Nat.le_of_ble_eq_true rfl, Nat.le_of_ble_eq_true rfl⟩ ⟨Nat.le_refl _, Nat.le_refl _⟩ rfl hl.1 rfl (Nat.le_of_ble_eq_true rfl) rfl (fun _ g => g) dX2_layOut_37 ?_
  clear hP hS; intro H locs _ hP hS _
  replace h := q_fi_in h; generalize q_fill μ4 (o + 5) 7 0 = μ5 at hP h
  refine lv_aload_n hx hb dX2_layOut_40 rfl (lv_at hl 0 rfl) ?_
  refine lv_iload_n hx hb dX2_layOut_41 rfl (lv_at hl 1 rfl) ?_
  refine lv_aload_n hx hb dX2_layOut_42 rfl (lv_at hl 2 rfl) ?_
  obtain ⟨μ7, hv6, h⟩ := q_b_some h
  refine q_callV hx hb hml hts hown hK hP hS (As := [.int (q_I a0), .ref (z + 54)]) (rest := []) (st1 := []) cv_RX2_47 (c_Fl_layPricedArcs l D dA ho ra0 hv6) (q_ltF0 ho) (q_kdF_0 ho) rfl ⟨rfl, rfl, Nat.le_of_ble_eq_true rfl, Nat.le_of_ble_eq_true rfl⟩ ⟨Nat.le_refl _, Nat.le_refl _⟩ rfl hl.1 rfl (Nat.le_of_ble_eq_true rfl) rfl (fun _ g => g) dX2_layOut_43 ?_
  clear hP hS hv6; intro H locs _ hP hS _
  refine lv_iconst (v := q_I 0) hx hb dX2_layOut_46 rfl ?_
  refine lv_istore_n (lv' := [(3, .int (q_I 0)), (0, .ref (z + o)), (1, .int (q_I a0)), (2, .ref (z + 54))]) hx hb dX2_layOut_47 rfl hl (by decide) rfl ?_
  clear hl; intro ls hl
  have L48 : ∀ (k73 : q_M → Option q_M), (∀ (μ10 : q_M) (H : Heap) (locs : List Loc) (ls : Array Slot), q_P D dA q_kdC q_rhoC 77 z sz μ10 H → va_S (q_A z 77) s.heap H locs → lv_has ls 4 [(0, .ref (z + o)), (1, .int (q_I a0))] → k73 μ10 = some μo → W p l e ({ frames := 2, cells := 0, slots := 0, locals := 48 } : Room) s m args below meth c H locs 0 0 Qf (F0 m 73 ls [])) → ∀ (nf48 : Nat) (x8 : Int) (μ9 : q_M) (H : Heap) (locs : List Loc) (ls : Array Slot), q_R x8 → q_P D dA q_kdC q_rhoC 77 z sz μ9 H → va_S (q_A z 77) s.heap H locs → lv_has ls 4 [(0, .ref (z + o)), (1, .int (q_I a0)), (3, .int (q_I x8))] → f_Fl_layOut_L48 o a0 k73 nf48 x8 μ9 = some μo → W p l e ({ frames := 2, cells := 0, slots := 0, locals := 48 } : Room) s m args below meth c H locs 0 0 Qf (F0 m 48 ls []) := by
    clear h hl hP hS
    intro k73 hk73 nf48
    induction nf48 with
    | zero =>
      intro x8 μ9 H locs ls r8 hP hS hl h
      rw [f_Fl_layOut_L48] at h
      cases h
    | succ nf48 ih48 =>
      intro x8 μ9 H locs ls r8 hP hS hl h
      rw [f_Fl_layOut_L48] at h
      refine lv_iload_n hx hb dX2_layOut_48 rfl (lv_at hl 2 rfl) ?_
      refine lv_iload_n hx hb dX2_layOut_49 rfl (lv_at hl 1 rfl) ?_
      refine q_cge hx hb r8 ra0 (tgt := 73) dX2_layOut_50 (by decide) h ?_ ?_
      · clear h; intro g15 h
        exact hk73 μ9 _ _ _ hP hS (lv_sub hl [0, 1] rfl) h
      · clear h; intro g15 h
        refine lv_aload_n hx hb dX2_layOut_53 rfl (lv_at hl 0 rfl) ?_
        refine q_getR hx hb hts hown hK hP fd_RX2_18 (q_ltF0 ho) (q_kdF_0 ho) rfl (q_rhF_0_2 ho) dX2_layOut_54 ?_
        refine lv_iload_n hx hb dX2_layOut_57 rfl (lv_at hl 2 rfl) ?_
        refine lv_bipush (v := q_I 6) hx hb dX2_layOut_58 (by decide) ?_
        obtain ⟨x12, hv11, h⟩ := q_b_some h
        refine q_callS hx hb hml hts hown hK hP hS (As := [.int (q_I x8), .int (q_I 6)]) (rest := [.ref (z + (o + 3))]) (st1 := [.int (q_I x12), .ref (z + (o + 3))]) cs_RX2_34 (c_Fl_arc l D dA r8 (q_r 6 rfl) hv11) ⟨rfl, rfl, Nat.le_of_ble_eq_true rfl, Nat.le_of_ble_eq_true rfl⟩ ⟨Nat.le_refl _, Nat.le_refl _⟩ rfl hl.1 rfl (Nat.le_of_ble_eq_true rfl) rfl (fun _ g => g) dX2_layOut_60 ?_
        clear hP hS hv11; intro H locs r12 hP hS _
        refine lv_sipush (v := q_I 1000) hx hb dX2_layOut_63 (by decide) ?_
        refine q_iast hx hb hK hP hS hA (q_ltF ho rfl) (q_kdF_3 ho) r12 (q_r 1000 rfl) dX2_layOut_66 h ?_
        clear h hP hS; intro μ13 H locs hP hS h
        refine q_iinc (k := 2) (lv' := fun t => [(3, .int (q_I t)), (0, .ref (z + o)), (1, .int (q_I a0))]) hx hb dX2_layOut_67 hl rfl (by decide) (fun _ => rfl) h ?_
        clear h hl; intro x14 ls r14 hl h
        refine lv_goto (tgt := 48) hx hb dX2_layOut_70 (by decide) ?_
        exact ih48 x14 μ13 _ _ _ r14 hP hS (lv_sub hl [1, 2, 0] rfl) h
  refine L48 _ ?_  _ 0 μ7 _ _ _ (q_r 0 rfl) hP hS (lv_sub hl [1, 2, 0] rfl) h
  · clear h hl hP hS; intro μ10 H locs ls  hP hS hl h
    refine lv_aload_n hx hb dX2_layOut_73 rfl (lv_at hl 0 rfl) ?_
    refine q_getR hx hb hts hown hK hP fd_RX2_18 (q_ltF0 ho) (q_kdF_0 ho) rfl (q_rhF_0_2 ho) dX2_layOut_74 ?_
    refine lv_bipush (v := q_I 6) hx hb dX2_layOut_77 (by decide) ?_
    refine lv_iconst (v := q_I 5) hx hb dX2_layOut_79 rfl ?_
    obtain ⟨x17, hv16, h⟩ := q_b_some h
    refine q_callS hx hb hml hts hown hK hP hS (As := [.int (q_I 6), .int (q_I 5)]) (rest := [.ref (z + (o + 3))]) (st1 := [.int (q_I x17), .ref (z + (o + 3))]) cs_RX2_34 (c_Fl_arc l D dA (q_r 6 rfl) (q_r 5 rfl) hv16) ⟨rfl, rfl, Nat.le_of_ble_eq_true rfl, Nat.le_of_ble_eq_true rfl⟩ ⟨Nat.le_refl _, Nat.le_refl _⟩ rfl hl.1 rfl (Nat.le_of_ble_eq_true rfl) rfl (fun _ g => g) dX2_layOut_80 ?_
    clear hP hS hv16; intro H locs r17 hP hS _
    refine lv_iload_n hx hb dX2_layOut_83 rfl (lv_at hl 1 rfl) ?_
    refine lv_sipush (v := q_I 1000) hx hb dX2_layOut_84 (by decide) ?_
    refine q_imul hx hb dX2_layOut_87 h ?_
    clear h; intro x18 r18 h
    refine q_iast hx hb hK hP hS hA (q_ltF ho rfl) (q_kdF_3 ho) r17 r18 dX2_layOut_88 h ?_
    clear h hP hS; intro μ19 H locs hP hS h
    rw [← hQ]
    exact q_retv hx hb hr hlocks hP hS h dX2_layOut_89
set_option maxHeartbeats 4000000 in
set_option maxRecDepth 100000 in
theorem c_Fl_narrow (l : Launch) (D : va_G) (dA : Nat → ClassId) {z sz : Nat} {o : Nat} (ho : o = 61 ∨ o = 69) {a0 : Int} (ra0 : q_R a0) {a1 : Int} (ra1 : q_R a1) {a2 : Int} (ra2 : q_R a2) {a3 : Int} (ra3 : q_R a3) {μ : q_M} {μo : q_M} (h : f_Fl_narrow o a0 a1 a2 a3 μ = some μo) : Met l yX2_narrow (q_wc yX2_narrow cX2_narrow 6 none) ({ frames := 1, cells := 0, slots := 0, locals := 21 } : Room) (va_Pc [.ref (z + o), .int (q_I a0), .int (q_I a1), .int (q_I a2), .int (q_I a3)] (q_B (q_P D dA q_kdC q_rhoC 77 z sz μ) D dA)) (q_Q none True (q_P D dA q_kdC q_rhoC 77 z sz μo) (q_A z 77)) 0 0 (q_A z 77) := by
  refine Met.ofW (cc := cX2_narrow) (maxL := 6) (ret := none) (by decide) rfl ?_
  intro p e s m args below meth c s₁ B hml hv
  obtain ⟨hargs, hP, hK⟩ := hv
  have hx := B.exec
  have hb := B.bytes
  have hr := B.returns
  have hts : ∀ w ∈ q_W, w.before args s = true := fun w hw => atoms_spec (ws := q_wc yX2_narrow cX2_narrow 6 none) B.pre w (List.mem_cons_of_mem _ hw)
  have hown : s.vm.findClass RX2 = some m.cls := findClass_of_methodNamed B.named
  have hlocks := B.notSynchronized
  have hS : va_S (q_A z 77) s.heap s.heap [] := va_S.rf
  have hA : ∀ k, k < 77 → q_A z 77 (z + k) := fun k hk => ⟨Nat.le_add_right z k, Nat.add_lt_add_left hk z⟩
  have hl := lv_entry [.ref (z + o), .int (q_I a0), .int (q_I a1), .int (q_I a2), .int (q_I a3)] (n := 6) (Nat.le_of_ble_eq_true rfl)
  refine W.eq (by rw [hargs, lg_entry_eq]) ?_
  generalize (lg_sl [.ref (z + o), .int (q_I a0), .int (q_I a1), .int (q_I a2), .int (q_I a3)] ++ List.replicate (6 - (lg_sl [.ref (z + o), .int (q_I a0), .int (q_I a1), .int (q_I a2), .int (q_I a3)]).length) Slot.unset).toArray = ls at hl ⊢
  have hl : lv_has ls 6 [(0, .ref (z + o)), (1, .int (q_I a0)), (2, .int (q_I a1)), (3, .int (q_I a2)), (4, .int (q_I a3))] := hl
  generalize hQ : MQ below _ args s 0 0 _ = Qf
  change W p l e ({ frames := 1, cells := 0, slots := 0, locals := 21 } : Room) s m args below meth c s.heap [] 0 0 Qf (F0 m 0 ls [])
  unfold f_Fl_narrow at h
  refine lv_iload_n hx hb dX2_narrow_0 rfl (lv_at hl 1 rfl) ?_
  refine lv_iload_n hx hb dX2_narrow_1 rfl (lv_at hl 2 rfl) ?_
  obtain ⟨x2, hv1, h⟩ := q_b_some h
  refine q_callS hx hb hml hts hown hK hP hS (As := [.int (q_I a0), .int (q_I a1)]) (rest := []) (st1 := [.int (q_I x2)]) cs_RX2_34 (c_Fl_arc l D dA ra0 ra1 hv1) ⟨rfl, rfl, Nat.le_of_ble_eq_true rfl, Nat.le_of_ble_eq_true rfl⟩ ⟨Nat.le_refl _, Nat.le_refl _⟩ rfl hl.1 rfl (Nat.le_of_ble_eq_true rfl) rfl (fun _ g => g) dX2_narrow_2 ?_
  clear hP hS hv1; intro H locs r2 hP hS _
  refine lv_istore (lv' := [(5, .int (q_I x2)), (0, .ref (z + o)), (1, .int (q_I a0)), (2, .int (q_I a1)), (3, .int (q_I a2)), (4, .int (q_I a3))]) hx hb dX2_narrow_5 hl (by decide) rfl ?_
  clear hl; intro ls hl
  refine lv_aload_n hx hb dX2_narrow_7 rfl (lv_at hl 1 rfl) ?_
  refine q_getR hx hb hts hown hK hP fd_RX2_15 (q_ltF0 ho) (q_kdF_0 ho) rfl (q_rhF_0_1 ho) dX2_narrow_8 ?_
  refine lv_iload hx hb dX2_narrow_11 (lv_at hl 0 rfl) ?_
  refine lv_aload_n hx hb dX2_narrow_13 rfl (lv_at hl 1 rfl) ?_
  refine q_getR hx hb hts hown hK hP fd_RX2_15 (q_ltF0 ho) (q_kdF_0 ho) rfl (q_rhF_0_1 ho) dX2_narrow_14 ?_
  refine lv_iload hx hb dX2_narrow_17 (lv_at hl 0 rfl) ?_
  refine q_iald hx hb hK hP (q_ltF ho rfl) (q_kdF_2 ho) r2 dX2_narrow_19 h ?_
  clear h; intro x3 r3 h
  refine lv_iload_n hx hb dX2_narrow_20 rfl (lv_at hl 4 rfl) ?_
  refine q_mmax hx hb hml hl.1 hts hown cm_RX2_71 ⟨Nat.le_refl _, Nat.le_refl _⟩ (Nat.le_of_ble_eq_true rfl) (Nat.le_of_ble_eq_true rfl) (Nat.le_of_ble_eq_true rfl) r3 ra2 dX2_narrow_21 h ?_
  clear h; intro x4 r4 h
  refine q_iast hx hb hK hP hS hA (q_ltF ho rfl) (q_kdF_2 ho) r2 r4 dX2_narrow_24 h ?_
  clear h hP hS; intro μ5 H locs hP hS h
  refine lv_aload_n hx hb dX2_narrow_25 rfl (lv_at hl 1 rfl) ?_
  refine q_getR hx hb hts hown hK hP fd_RX2_18 (q_ltF0 ho) (q_kdF_0 ho) rfl (q_rhF_0_2 ho) dX2_narrow_26 ?_
  refine lv_iload hx hb dX2_narrow_29 (lv_at hl 0 rfl) ?_
  refine lv_aload_n hx hb dX2_narrow_31 rfl (lv_at hl 1 rfl) ?_
  refine q_getR hx hb hts hown hK hP fd_RX2_18 (q_ltF0 ho) (q_kdF_0 ho) rfl (q_rhF_0_2 ho) dX2_narrow_32 ?_
  refine lv_iload hx hb dX2_narrow_35 (lv_at hl 0 rfl) ?_
  refine q_iald hx hb hK hP (q_ltF ho rfl) (q_kdF_3 ho) r2 dX2_narrow_37 h ?_
  clear h; intro x6 r6 h
  refine lv_iload hx hb dX2_narrow_38 (lv_at hl 5 rfl) ?_
  refine q_mmin hx hb hml hl.1 hts hown cm_RX2_76 ⟨Nat.le_refl _, Nat.le_refl _⟩ (Nat.le_of_ble_eq_true rfl) (Nat.le_of_ble_eq_true rfl) (Nat.le_of_ble_eq_true rfl) r6 ra3 dX2_narrow_40 h ?_
  clear h; intro x7 r7 h
  refine q_iast hx hb hK hP hS hA (q_ltF ho rfl) (q_kdF_3 ho) r2 r7 dX2_narrow_43 h ?_
  clear h hP hS; intro μ8 H locs hP hS h
  rw [← hQ]
  exact q_retv hx hb hr hlocks hP hS h dX2_narrow_44
set_option maxHeartbeats 4000000 in
set_option maxRecDepth 100000 in
theorem c_Re_obey (l : Launch) (D : va_G) (dA : Nat → ClassId) {z sz : Nat} {N : Nat} {a2 : Int} (ra2 : q_R a2) {μ : q_M} {xo : Int} {μo : q_M} (h : f_Re_obey N a2 μ = some (xo, μo)) : Met l yX4_obey (q_wc yX4_obey cX4_obey 7 (some .boolean)) ({ frames := 3, cells := 0, slots := 0, locals := 68 } : Room) (va_Pc [.ref (z + 59), .ref (z + 49), .ref (z + 56), .int (q_I a2)] (q_B (q_P D dA q_kdC q_rhoC 77 z sz μ) D dA)) (q_Q (some (.int (q_I xo))) (q_R xo) (q_P D dA q_kdC q_rhoC 77 z sz μo) (q_A z 77)) 0 0 (q_A z 77) := by
  refine Met.ofW (cc := cX4_obey) (maxL := 7) (ret := (some .boolean)) (by decide) rfl ?_
  intro p e s m args below meth c s₁ B hml hv
  obtain ⟨hargs, hP, hK⟩ := hv
  have hx := B.exec
  have hb := B.bytes
  have hr := B.returns
  have hts : ∀ w ∈ q_W, w.before args s = true := fun w hw => atoms_spec (ws := q_wc yX4_obey cX4_obey 7 (some .boolean)) B.pre w (List.mem_cons_of_mem _ hw)
  have hown : s.vm.findClass RX4 = some m.cls := findClass_of_methodNamed B.named
  have hlocks := B.notSynchronized
  have hS : va_S (q_A z 77) s.heap s.heap [] := va_S.rf
  have hA : ∀ k, k < 77 → q_A z 77 (z + k) := fun k hk => ⟨Nat.le_add_right z k, Nat.add_lt_add_left hk z⟩
  have hl := lv_entry [.ref (z + 59), .ref (z + 49), .ref (z + 56), .int (q_I a2)] (n := 7) (Nat.le_of_ble_eq_true rfl)
  refine W.eq (by rw [hargs, lg_entry_eq]) ?_
  generalize (lg_sl [.ref (z + 59), .ref (z + 49), .ref (z + 56), .int (q_I a2)] ++ List.replicate (7 - (lg_sl [.ref (z + 59), .ref (z + 49), .ref (z + 56), .int (q_I a2)]).length) Slot.unset).toArray = ls at hl ⊢
  have hl : lv_has ls 7 [(0, .ref (z + 59)), (1, .ref (z + 49)), (2, .ref (z + 56)), (3, .int (q_I a2))] := hl
  generalize hQ : MQ below _ args s 0 0 _ = Qf
  change W p l e ({ frames := 3, cells := 0, slots := 0, locals := 68 } : Room) s m args below meth c s.heap [] 0 0 Qf (F0 m 0 ls [])
  unfold f_Re_obey at h
  refine lv_iconst (v := q_I 0) hx hb dX4_obey_0 rfl ?_
  refine lv_istore (lv' := [(4, .int (q_I 0)), (0, .ref (z + 59)), (1, .ref (z + 49)), (2, .ref (z + 56)), (3, .int (q_I a2))]) hx hb dX4_obey_1 hl (by decide) rfl ?_
  clear hl; intro ls hl
  have L3 : ∀ (k52 : q_M → Option (Int × q_M)) (k133 : q_M → Option (Int × q_M)), (∀ (μ3 : q_M) (H : Heap) (locs : List Loc) (ls : Array Slot), q_P D dA q_kdC q_rhoC 77 z sz μ3 H → va_S (q_A z 77) s.heap H locs → lv_has ls 7 [] → k52 μ3 = some (xo, μo) → W p l e ({ frames := 3, cells := 0, slots := 0, locals := 68 } : Room) s m args below meth c H locs 0 0 Qf (F0 m 52 ls [])) → (∀ (μ4 : q_M) (H : Heap) (locs : List Loc) (ls : Array Slot), q_P D dA q_kdC q_rhoC 77 z sz μ4 H → va_S (q_A z 77) s.heap H locs → lv_has ls 7 [] → k133 μ4 = some (xo, μo) → W p l e ({ frames := 3, cells := 0, slots := 0, locals := 68 } : Room) s m args below meth c H locs 0 0 Qf (F0 m 133 ls [])) → ∀ (nf3 : Nat) (x1 : Int) (μ2 : q_M) (H : Heap) (locs : List Loc) (ls : Array Slot), q_R x1 → q_P D dA q_kdC q_rhoC 77 z sz μ2 H → va_S (q_A z 77) s.heap H locs → lv_has ls 7 [(0, .ref (z + 59)), (1, .ref (z + 49)), (2, .ref (z + 56)), (3, .int (q_I a2)), (4, .int (q_I x1))] → f_Re_obey_L3 N a2 k52 k133 nf3 x1 μ2 = some (xo, μo) → W p l e ({ frames := 3, cells := 0, slots := 0, locals := 68 } : Room) s m args below meth c H locs 0 0 Qf (F0 m 3 ls []) := by
    clear h hl hP hS
    intro k52 k133 hk52 hk133 nf3
    induction nf3 with
    | zero =>
      intro x1 μ2 H locs ls r1 hP hS hl h
      rw [f_Re_obey_L3] at h
      cases h
    | succ nf3 ih3 =>
      intro x1 μ2 H locs ls r1 hP hS hl h
      rw [f_Re_obey_L3] at h
      refine lv_iload hx hb dX4_obey_3 (lv_at hl 4 rfl) ?_
      refine lv_aload_n hx hb dX4_obey_5 rfl (lv_at hl 1 rfl) ?_
      refine q_getI hx hb hts hown hK hP fd_RX4_40 (Nat.le_of_ble_eq_true rfl) q_kdC_49 rfl dX4_obey_6 h ?_
      clear h; intro x5 r5 h
      refine q_cge hx hb r1 r5 (tgt := 133) dX4_obey_9 (by decide) h ?_ ?_
      · clear h; intro g33 h
        exact hk133 μ2 _ _ _ hP hS (lv_sub hl [] rfl) h
      · clear h; intro g33 h
        refine lv_aload_n hx hb dX4_obey_12 rfl (lv_at hl 1 rfl) ?_
        refine q_getR hx hb hts hown hK hP fd_RX4_45 (Nat.le_of_ble_eq_true rfl) q_kdC_49 rfl q_rhC_49_2 dX4_obey_13 ?_
        refine lv_iload hx hb dX4_obey_16 (lv_at hl 4 rfl) ?_
        refine q_iald hx hb hK hP (Nat.le_of_ble_eq_true rfl) q_kdC_51 r1 dX4_obey_18 h ?_
        clear h; intro x6 r6 h
        refine lv_iload_n hx hb dX4_obey_19 rfl (lv_at hl 3 rfl) ?_
        refine q_jn_in h (fun J => ∀ (μ7 : q_M) (H : Heap) (locs : List Loc) (ls : Array Slot), q_P D dA q_kdC q_rhoC 77 z sz μ7 H → va_S (q_A z 77) s.heap H locs → lv_has ls 7 [(0, .ref (z + 59)), (1, .ref (z + 49)), (2, .ref (z + 56)), (3, .int (q_I a2)), (4, .int (q_I x1))] → J μ7 = some (xo, μo) → W p l e ({ frames := 3, cells := 0, slots := 0, locals := 68 } : Room) s m args below meth c H locs 0 0 Qf (F0 m 127 ls [])) ?_ ?_
        · clear h hl hP hS; intro μ7 H locs ls  hP hS hl h
          refine q_iinc (k := 4) (lv' := fun t => [(4, .int (q_I t)), (0, .ref (z + 59)), (1, .ref (z + 49)), (2, .ref (z + 56)), (3, .int (q_I a2))]) hx hb dX4_obey_127 hl rfl (by decide) (fun _ => rfl) h ?_
          clear h hl; intro x8 ls r8 hl h
          refine lv_goto (tgt := 3) hx hb dX4_obey_130 (by decide) ?_
          exact ih3 x8 μ7 _ _ _ r8 hP hS (lv_sub hl [1, 2, 3, 4, 0] rfl) h
        · clear h; intro j127 hj127 h
          refine q_ceq hx hb r6 ra2 (tgt := 26) dX4_obey_20 (by decide) h ?_ ?_
          · clear h; intro g32 h
            refine lv_aload_n hx hb dX4_obey_26 rfl (lv_at hl 1 rfl) ?_
            refine q_getR hx hb hts hown hK hP fd_RX4_49 (Nat.le_of_ble_eq_true rfl) q_kdC_49 rfl q_rhC_49_1 dX4_obey_27 ?_
            refine lv_iload hx hb dX4_obey_30 (lv_at hl 4 rfl) ?_
            refine q_iald hx hb hK hP (Nat.le_of_ble_eq_true rfl) q_kdC_50 r1 dX4_obey_32 h ?_
            clear h; intro x9 r9 h
            refine lv_istore (lv' := [(5, .int (q_I x9)), (0, .ref (z + 59)), (1, .ref (z + 49)), (2, .ref (z + 56)), (3, .int (q_I a2)), (4, .int (q_I x1))]) hx hb dX4_obey_33 hl (by decide) rfl ?_
            clear hl; intro ls hl
            refine lv_iload hx hb dX4_obey_35 (lv_at hl 0 rfl) ?_
            refine lv_bipush (v := q_I 9) hx hb dX4_obey_37 (by decide) ?_
            refine q_cne hx hb r9 (q_r 9 rfl) (tgt := 54) dX4_obey_39 (by decide) h ?_ ?_
            · clear h; intro g31 h
              refine lv_aload_n hx hb dX4_obey_42 rfl (lv_at hl 2 rfl) ?_
              refine lv_iload hx hb dX4_obey_43 (lv_at hl 5 rfl) ?_
              refine lv_aload_n hx hb dX4_obey_45 rfl (lv_at hl 3 rfl) ?_
              obtain ⟨x29, hv28, h⟩ := q_b_some h
              refine q_callV hx hb hml hts hown hK hP hS (As := [.int (q_I x1), .ref (z + 56)]) (rest := []) (st1 := [.int (q_I x29)]) cv_RX4_52 (c_RB_isKept l D dA r1 hv28) (Nat.le_of_ble_eq_true rfl) q_kdC_49 rfl ⟨rfl, rfl, Nat.le_of_ble_eq_true rfl, Nat.le_of_ble_eq_true rfl⟩ ⟨Nat.le_refl _, Nat.le_refl _⟩ rfl hl.1 rfl (Nat.le_of_ble_eq_true rfl) rfl (fun _ g => g) dX4_obey_46 ?_
              clear hP hS hv28; intro H locs r29 hP hS _
              refine q_zne hx hb r29 (tgt := 127) dX4_obey_49 (by decide) h ?_ ?_
              · clear h; intro g30 h
                exact hk52 μ2 _ _ _ hP hS (lv_sub hl [] rfl) h
              · clear h; intro g30 h
                exact hj127 μ2 _ _ _ hP hS (lv_sub hl [1, 2, 3, 4, 5] rfl) h
            · clear h; intro g31 h
              refine lv_iload hx hb dX4_obey_54 (lv_at hl 0 rfl) ?_
              refine lv_bipush (v := q_I 8) hx hb dX4_obey_56 (by decide) ?_
              refine q_cne hx hb r9 (q_r 8 rfl) (tgt := 102) dX4_obey_58 (by decide) h ?_ ?_
              · clear h; intro g27 h
                refine lv_aload_n hx hb dX4_obey_61 rfl (lv_at hl 3 rfl) ?_
                refine q_getR hx hb hts hown hK hP fd_RX4_56 (Nat.le_of_ble_eq_true rfl) q_kdC_56 rfl q_rhC_56_2 dX4_obey_62 ?_
                refine lv_iload_n hx hb dX4_obey_65 rfl (lv_at hl 4 rfl) ?_
                refine q_iald hx hb hK hP (Nat.le_of_ble_eq_true rfl) q_kdC_58 ra2 dX4_obey_66 h ?_
                clear h; intro x17 r17 h
                refine lv_istore (lv' := [(6, .int (q_I x17)), (5, .int (q_I x9)), (0, .ref (z + 59)), (1, .ref (z + 49)), (2, .ref (z + 56)), (3, .int (q_I a2)), (4, .int (q_I x1))]) hx hb dX4_obey_67 hl (by decide) rfl ?_
                clear hl; intro ls hl
                refine lv_aload_n hx hb dX4_obey_69 rfl (lv_at hl 2 rfl) ?_
                refine q_getR hx hb hts hown hK hP fd_RX4_12 (Nat.le_of_ble_eq_true rfl) q_kdC_59 rfl q_rhC_59_0 dX4_obey_70 ?_
                refine lv_iload_n hx hb dX4_obey_73 rfl (lv_at hl 5 rfl) ?_
                refine q_aald hx hb hK hP (Nat.le_of_ble_eq_true rfl) q_kdC_60 ra2 q_rhC_60_0 q_rhC_60_1 dX4_obey_74 h ?_
                clear h; intro o18 ho18 h
                refine lv_bipush (v := q_I 6) hx hb dX4_obey_75 (by decide) ?_
                refine lv_iconst (v := q_I 5) hx hb dX4_obey_77 rfl ?_
                refine lv_aload_n hx hb dX4_obey_78 rfl (lv_at hl 3 rfl) ?_
                refine lv_iload hx hb dX4_obey_79 (lv_at hl 6 rfl) ?_
                obtain ⟨x20, hv19, h⟩ := q_b_some h
                refine q_callV hx hb hml hts hown hK hP hS (As := [.int (q_I x1)]) (rest := [.int (q_I 5), .int (q_I 6), .ref (z + o18)]) (st1 := [.int (q_I x20), .int (q_I 5), .int (q_I 6), .ref (z + o18)]) cv_RX4_59 (c_RB_lowest l D dA r1 hv19) (Nat.le_of_ble_eq_true rfl) q_kdC_49 rfl ⟨rfl, rfl, Nat.le_of_ble_eq_true rfl, Nat.le_of_ble_eq_true rfl⟩ ⟨Nat.le_refl _, Nat.le_refl _⟩ rfl hl.1 rfl (Nat.le_of_ble_eq_true rfl) rfl (fun _ g => g) dX4_obey_81 ?_
                clear hP hS hv19; intro H locs r20 hP hS _
                refine lv_iload hx hb dX4_obey_84 (lv_at hl 0 rfl) ?_
                refine q_isub hx hb dX4_obey_86 h ?_
                clear h; intro x21 r21 h
                refine lv_aload_n hx hb dX4_obey_87 rfl (lv_at hl 3 rfl) ?_
                refine lv_iload hx hb dX4_obey_88 (lv_at hl 6 rfl) ?_
                obtain ⟨x23, hv22, h⟩ := q_b_some h
                refine q_callV hx hb hml hts hown hK hP hS (As := [.int (q_I x1)]) (rest := [.int (q_I x21), .int (q_I 5), .int (q_I 6), .ref (z + o18)]) (st1 := [.int (q_I x23), .int (q_I x21), .int (q_I 5), .int (q_I 6), .ref (z + o18)]) cv_RX4_63 (c_RB_highest l D dA r1 hv22) (Nat.le_of_ble_eq_true rfl) q_kdC_49 rfl ⟨rfl, rfl, Nat.le_of_ble_eq_true rfl, Nat.le_of_ble_eq_true rfl⟩ ⟨Nat.le_refl _, Nat.le_refl _⟩ rfl hl.1 rfl (Nat.le_of_ble_eq_true rfl) rfl (fun _ g => g) dX4_obey_90 ?_
                clear hP hS hv22; intro H locs r23 hP hS _
                refine lv_iload hx hb dX4_obey_93 (lv_at hl 0 rfl) ?_
                refine q_isub hx hb dX4_obey_95 h ?_
                clear h; intro x24 r24 h
                obtain ⟨μ26, hv25, h⟩ := q_b_some h
                refine q_callV hx hb hml hts hown hK hP hS (As := [.int (q_I 6), .int (q_I 5), .int (q_I x21), .int (q_I x24)]) (rest := []) (st1 := []) cv_RX4_66 (c_Fl_narrow l D dA ho18 (q_r 6 rfl) (q_r 5 rfl) r21 r24 hv25) (q_ltF0 ho18) (q_kdF_0 ho18) rfl ⟨rfl, rfl, Nat.le_of_ble_eq_true rfl, Nat.le_of_ble_eq_true rfl⟩ ⟨Nat.le_refl _, Nat.le_refl _⟩ rfl hl.1 rfl (Nat.le_of_ble_eq_true rfl) rfl (fun _ g => g) dX4_obey_96 ?_
                clear hP hS hv25; intro H locs _ hP hS _
                refine lv_goto (tgt := 127) hx hb dX4_obey_99 (by decide) ?_
                exact hj127 μ26 _ _ _ hP hS (lv_sub hl [2, 3, 4, 5, 6] rfl) h
              · clear h; intro g27 h
                refine lv_aload_n hx hb dX4_obey_102 rfl (lv_at hl 1 rfl) ?_
                refine q_getR hx hb hts hown hK hP fd_RX4_12 (Nat.le_of_ble_eq_true rfl) q_kdC_59 rfl q_rhC_59_0 dX4_obey_103 ?_
                refine lv_iload_n hx hb dX4_obey_106 rfl (lv_at hl 4 rfl) ?_
                refine q_aald hx hb hK hP (Nat.le_of_ble_eq_true rfl) q_kdC_60 ra2 q_rhC_60_0 q_rhC_60_1 dX4_obey_107 h ?_
                clear h; intro o10 ho10 h
                refine lv_iload hx hb dX4_obey_108 (lv_at hl 0 rfl) ?_
                refine lv_bipush (v := q_I 6) hx hb dX4_obey_110 (by decide) ?_
                refine lv_aload_n hx hb dX4_obey_112 rfl (lv_at hl 2 rfl) ?_
                refine lv_iload hx hb dX4_obey_113 (lv_at hl 5 rfl) ?_
                obtain ⟨x12, hv11, h⟩ := q_b_some h
                refine q_callV hx hb hml hts hown hK hP hS (As := [.int (q_I x1)]) (rest := [.int (q_I 6), .int (q_I x9), .ref (z + o10)]) (st1 := [.int (q_I x12), .int (q_I 6), .int (q_I x9), .ref (z + o10)]) cv_RX4_59 (c_RB_lowest l D dA r1 hv11) (Nat.le_of_ble_eq_true rfl) q_kdC_49 rfl ⟨rfl, rfl, Nat.le_of_ble_eq_true rfl, Nat.le_of_ble_eq_true rfl⟩ ⟨Nat.le_refl _, Nat.le_refl _⟩ rfl hl.1 rfl (Nat.le_of_ble_eq_true rfl) rfl (fun _ g => g) dX4_obey_115 ?_
                clear hP hS hv11; intro H locs r12 hP hS _
                refine lv_aload_n hx hb dX4_obey_118 rfl (lv_at hl 2 rfl) ?_
                refine lv_iload hx hb dX4_obey_119 (lv_at hl 5 rfl) ?_
                obtain ⟨x14, hv13, h⟩ := q_b_some h
                refine q_callV hx hb hml hts hown hK hP hS (As := [.int (q_I x1)]) (rest := [.int (q_I x12), .int (q_I 6), .int (q_I x9), .ref (z + o10)]) (st1 := [.int (q_I x14), .int (q_I x12), .int (q_I 6), .int (q_I x9), .ref (z + o10)]) cv_RX4_63 (c_RB_highest l D dA r1 hv13) (Nat.le_of_ble_eq_true rfl) q_kdC_49 rfl ⟨rfl, rfl, Nat.le_of_ble_eq_true rfl, Nat.le_of_ble_eq_true rfl⟩ ⟨Nat.le_refl _, Nat.le_refl _⟩ rfl hl.1 rfl (Nat.le_of_ble_eq_true rfl) rfl (fun _ g => g) dX4_obey_121 ?_
                clear hP hS hv13; intro H locs r14 hP hS _
                obtain ⟨μ16, hv15, h⟩ := q_b_some h
                refine q_callV hx hb hml hts hown hK hP hS (As := [.int (q_I x9), .int (q_I 6), .int (q_I x12), .int (q_I x14)]) (rest := []) (st1 := []) cv_RX4_66 (c_Fl_narrow l D dA ho10 r9 (q_r 6 rfl) r12 r14 hv15) (q_ltF0 ho10) (q_kdF_0 ho10) rfl ⟨rfl, rfl, Nat.le_of_ble_eq_true rfl, Nat.le_of_ble_eq_true rfl⟩ ⟨Nat.le_refl _, Nat.le_refl _⟩ rfl hl.1 rfl (Nat.le_of_ble_eq_true rfl) rfl (fun _ g => g) dX4_obey_124 ?_
                clear hP hS hv15; intro H locs _ hP hS _
                exact hj127 μ16 _ _ _ hP hS (lv_sub hl [1, 2, 3, 4, 5] rfl) h
          · clear h; intro g32 h
            refine lv_goto (tgt := 127) hx hb dX4_obey_23 (by decide) ?_
            exact hj127 μ2 _ _ _ hP hS (lv_sub hl [0, 1, 2, 3, 4] rfl) h
  refine L3 _ _ ?_ ?_  _ 0 μ _ _ _ (q_r 0 rfl) hP hS (lv_sub hl [1, 2, 3, 4, 0] rfl) h
  · clear h hl hP hS; intro μ3 H locs ls  hP hS hl h
    refine lv_iconst (v := q_I 0) hx hb dX4_obey_52 rfl ?_
    rw [← hQ]
    exact q_retz2 hx hb hr hlocks hP hS (Or.inl rfl) h dX4_obey_53
  · clear h hl hP hS; intro μ4 H locs ls  hP hS hl h
    refine lv_iconst (v := q_I 1) hx hb dX4_obey_133 rfl ?_
    rw [← hQ]
    exact q_retz2 hx hb hr hlocks hP hS (Or.inr rfl) h dX4_obey_134
set_option maxHeartbeats 4000000 in
set_option maxRecDepth 100000 in
theorem c_Fl_canBalance (l : Launch) (D : va_G) (dA : Nat → ClassId) {z sz : Nat} {N : Nat} {o : Nat} (ho : o = 61 ∨ o = 69) {μ : q_M} {xo : Int} (h : f_Fl_canBalance N o μ = some xo) : Met l yX2_canBalance (q_wc yX2_canBalance cX2_canBalance 4 (some .boolean)) ({ frames := 1, cells := 0, slots := 0, locals := 21 } : Room) (va_Pc [.ref (z + o)] (q_B (q_P D dA q_kdC q_rhoC 77 z sz μ) D dA)) (q_Q (some (.int (q_I xo))) (q_R xo) (q_P D dA q_kdC q_rhoC 77 z sz μ) (q_A z 77)) 0 0 (q_A z 77) := by
  refine Met.ofW (cc := cX2_canBalance) (maxL := 4) (ret := (some .boolean)) (by decide) rfl ?_
  intro p e s m args below meth c s₁ B hml hv
  obtain ⟨hargs, hP, hK⟩ := hv
  have hx := B.exec
  have hb := B.bytes
  have hr := B.returns
  have hts : ∀ w ∈ q_W, w.before args s = true := fun w hw => atoms_spec (ws := q_wc yX2_canBalance cX2_canBalance 4 (some .boolean)) B.pre w (List.mem_cons_of_mem _ hw)
  have hown : s.vm.findClass RX2 = some m.cls := findClass_of_methodNamed B.named
  have hlocks := B.notSynchronized
  have hS : va_S (q_A z 77) s.heap s.heap [] := va_S.rf
  have hA : ∀ k, k < 77 → q_A z 77 (z + k) := fun k hk => ⟨Nat.le_add_right z k, Nat.add_lt_add_left hk z⟩
  have hl := lv_entry [.ref (z + o)] (n := 4) (Nat.le_of_ble_eq_true rfl)
  refine W.eq (by rw [hargs, lg_entry_eq]) ?_
  generalize (lg_sl [.ref (z + o)] ++ List.replicate (4 - (lg_sl [.ref (z + o)]).length) Slot.unset).toArray = ls at hl ⊢
  have hl : lv_has ls 4 [(0, .ref (z + o))] := hl
  generalize hQ : MQ below _ args s 0 0 _ = Qf
  change W p l e ({ frames := 1, cells := 0, slots := 0, locals := 21 } : Room) s m args below meth c s.heap [] 0 0 Qf (F0 m 0 ls [])
  unfold f_Fl_canBalance at h
  refine lv_iconst (v := q_I 0) hx hb dX2_canBalance_0 rfl ?_
  refine lv_istore_n (lv' := [(1, .int (q_I 0)), (0, .ref (z + o))]) hx hb dX2_canBalance_1 rfl hl (by decide) rfl ?_
  clear hl; intro ls hl
  refine lv_iconst (v := q_I 0) hx hb dX2_canBalance_2 rfl ?_
  refine lv_istore_n (lv' := [(2, .int (q_I 0)), (1, .int (q_I 0)), (0, .ref (z + o))]) hx hb dX2_canBalance_3 rfl hl (by decide) rfl ?_
  clear hl; intro ls hl
  refine lv_iconst (v := q_I 0) hx hb dX2_canBalance_4 rfl ?_
  refine lv_istore_n (lv' := [(3, .int (q_I 0)), (2, .int (q_I 0)), (1, .int (q_I 0)), (0, .ref (z + o))]) hx hb dX2_canBalance_5 rfl hl (by decide) rfl ?_
  clear hl; intro ls hl
  have L6 : ∀ (k36 : Option Int) (k72 : Int → Int → Option Int), (∀ (H : Heap) (locs : List Loc) (ls : Array Slot), q_P D dA q_kdC q_rhoC 77 z sz μ H → va_S (q_A z 77) s.heap H locs → lv_has ls 4 [] → k36 = some xo → W p l e ({ frames := 1, cells := 0, slots := 0, locals := 21 } : Room) s m args below meth c H locs 0 0 Qf (F0 m 36 ls [])) → (∀ (x4 : Int) (x5 : Int) (H : Heap) (locs : List Loc) (ls : Array Slot), q_R x4 → q_R x5 → q_P D dA q_kdC q_rhoC 77 z sz μ H → va_S (q_A z 77) s.heap H locs → lv_has ls 4 [(0, .ref (z + o)), (1, .int (q_I x4)), (2, .int (q_I x5))] → k72 x4 x5 = some xo → W p l e ({ frames := 1, cells := 0, slots := 0, locals := 21 } : Room) s m args below meth c H locs 0 0 Qf (F0 m 72 ls [])) → ∀ (nf6 : Nat) (x1 : Int) (x2 : Int) (x3 : Int) (H : Heap) (locs : List Loc) (ls : Array Slot), q_R x1 → q_R x2 → q_R x3 → q_P D dA q_kdC q_rhoC 77 z sz μ H → va_S (q_A z 77) s.heap H locs → lv_has ls 4 [(0, .ref (z + o)), (1, .int (q_I x1)), (2, .int (q_I x2)), (3, .int (q_I x3))] → f_Fl_canBalance_L6 o μ k36 k72 nf6 x1 x2 x3 = some xo → W p l e ({ frames := 1, cells := 0, slots := 0, locals := 21 } : Room) s m args below meth c H locs 0 0 Qf (F0 m 6 ls []) := by
    clear h hl hP hS
    intro k36 k72 hk36 hk72 nf6
    induction nf6 with
    | zero =>
      intro x1 x2 x3 H locs ls r1 r2 r3 hP hS hl h
      rw [f_Fl_canBalance_L6] at h
      cases h
    | succ nf6 ih6 =>
      intro x1 x2 x3 H locs ls r1 r2 r3 hP hS hl h
      rw [f_Fl_canBalance_L6] at h
      refine lv_iload_n hx hb dX2_canBalance_6 rfl (lv_at hl 3 rfl) ?_
      refine lv_iconst (v := q_I 5) hx hb dX2_canBalance_7 rfl ?_
      refine q_cge hx hb r3 (q_r 5 rfl) (tgt := 72) dX2_canBalance_8 (by decide) h ?_ ?_
      · clear h; intro g22 h
        exact hk72 x1 x2 _ _ _ r1 r2 hP hS (lv_sub hl [0, 1, 2] rfl) h
      · clear h; intro g22 h
        refine lv_aload_n hx hb dX2_canBalance_11 rfl (lv_at hl 0 rfl) ?_
        refine q_getR hx hb hts hown hK hP fd_RX2_15 (q_ltF0 ho) (q_kdF_0 ho) rfl (q_rhF_0_1 ho) dX2_canBalance_12 ?_
        refine lv_iload_n hx hb dX2_canBalance_15 rfl (lv_at hl 3 rfl) ?_
        refine lv_bipush (v := q_I 6) hx hb dX2_canBalance_16 (by decide) ?_
        obtain ⟨x7, hv6, h⟩ := q_b_some h
        refine q_callS hx hb hml hts hown hK hP hS (As := [.int (q_I x3), .int (q_I 6)]) (rest := [.ref (z + (o + 2))]) (st1 := [.int (q_I x7), .ref (z + (o + 2))]) cs_RX2_34 (c_Fl_arc l D dA r3 (q_r 6 rfl) hv6) ⟨rfl, rfl, Nat.le_of_ble_eq_true rfl, Nat.le_of_ble_eq_true rfl⟩ ⟨Nat.le_refl _, Nat.le_refl _⟩ rfl hl.1 rfl (Nat.le_of_ble_eq_true rfl) rfl (fun _ g => g) dX2_canBalance_18 ?_
        clear hP hS hv6; intro H locs r7 hP hS _
        refine q_iald hx hb hK hP (q_ltF ho rfl) (q_kdF_2 ho) r7 dX2_canBalance_21 h ?_
        clear h; intro x8 r8 h
        refine lv_aload_n hx hb dX2_canBalance_22 rfl (lv_at hl 0 rfl) ?_
        refine q_getR hx hb hts hown hK hP fd_RX2_18 (q_ltF0 ho) (q_kdF_0 ho) rfl (q_rhF_0_2 ho) dX2_canBalance_23 ?_
        refine lv_iload_n hx hb dX2_canBalance_26 rfl (lv_at hl 3 rfl) ?_
        refine lv_bipush (v := q_I 6) hx hb dX2_canBalance_27 (by decide) ?_
        obtain ⟨x10, hv9, h⟩ := q_b_some h
        refine q_callS hx hb hml hts hown hK hP hS (As := [.int (q_I x3), .int (q_I 6)]) (rest := [.ref (z + (o + 3)), .int (q_I x8)]) (st1 := [.int (q_I x10), .ref (z + (o + 3)), .int (q_I x8)]) cs_RX2_34 (c_Fl_arc l D dA r3 (q_r 6 rfl) hv9) ⟨rfl, rfl, Nat.le_of_ble_eq_true rfl, Nat.le_of_ble_eq_true rfl⟩ ⟨Nat.le_refl _, Nat.le_refl _⟩ rfl hl.1 rfl (Nat.le_of_ble_eq_true rfl) rfl (fun _ g => g) dX2_canBalance_29 ?_
        clear hP hS hv9; intro H locs r10 hP hS _
        refine q_iald hx hb hK hP (q_ltF ho rfl) (q_kdF_3 ho) r10 dX2_canBalance_32 h ?_
        clear h; intro x11 r11 h
        refine q_cle hx hb r8 r11 (tgt := 38) dX2_canBalance_33 (by decide) h ?_ ?_
        · clear h; intro g21 h
          refine lv_iload_n hx hb dX2_canBalance_38 rfl (lv_at hl 1 rfl) ?_
          refine lv_aload_n hx hb dX2_canBalance_39 rfl (lv_at hl 0 rfl) ?_
          refine q_getR hx hb hts hown hK hP fd_RX2_15 (q_ltF0 ho) (q_kdF_0 ho) rfl (q_rhF_0_1 ho) dX2_canBalance_40 ?_
          refine lv_iload_n hx hb dX2_canBalance_43 rfl (lv_at hl 3 rfl) ?_
          refine lv_bipush (v := q_I 6) hx hb dX2_canBalance_44 (by decide) ?_
          obtain ⟨x13, hv12, h⟩ := q_b_some h
          refine q_callS hx hb hml hts hown hK hP hS (As := [.int (q_I x3), .int (q_I 6)]) (rest := [.ref (z + (o + 2)), .int (q_I x1)]) (st1 := [.int (q_I x13), .ref (z + (o + 2)), .int (q_I x1)]) cs_RX2_34 (c_Fl_arc l D dA r3 (q_r 6 rfl) hv12) ⟨rfl, rfl, Nat.le_of_ble_eq_true rfl, Nat.le_of_ble_eq_true rfl⟩ ⟨Nat.le_refl _, Nat.le_refl _⟩ rfl hl.1 rfl (Nat.le_of_ble_eq_true rfl) rfl (fun _ g => g) dX2_canBalance_46 ?_
          clear hP hS hv12; intro H locs r13 hP hS _
          refine q_iald hx hb hK hP (q_ltF ho rfl) (q_kdF_2 ho) r13 dX2_canBalance_49 h ?_
          clear h; intro x14 r14 h
          refine q_iadd hx hb dX2_canBalance_50 h ?_
          clear h; intro x15 r15 h
          refine lv_istore_n (lv' := [(1, .int (q_I x15)), (0, .ref (z + o)), (2, .int (q_I x2)), (3, .int (q_I x3))]) hx hb dX2_canBalance_51 rfl hl (by decide) rfl ?_
          clear hl; intro ls hl
          refine lv_iload_n hx hb dX2_canBalance_52 rfl (lv_at hl 2 rfl) ?_
          refine lv_aload_n hx hb dX2_canBalance_53 rfl (lv_at hl 1 rfl) ?_
          refine q_getR hx hb hts hown hK hP fd_RX2_18 (q_ltF0 ho) (q_kdF_0 ho) rfl (q_rhF_0_2 ho) dX2_canBalance_54 ?_
          refine lv_iload_n hx hb dX2_canBalance_57 rfl (lv_at hl 3 rfl) ?_
          refine lv_bipush (v := q_I 6) hx hb dX2_canBalance_58 (by decide) ?_
          obtain ⟨x17, hv16, h⟩ := q_b_some h
          refine q_callS hx hb hml hts hown hK hP hS (As := [.int (q_I x3), .int (q_I 6)]) (rest := [.ref (z + (o + 3)), .int (q_I x2)]) (st1 := [.int (q_I x17), .ref (z + (o + 3)), .int (q_I x2)]) cs_RX2_34 (c_Fl_arc l D dA r3 (q_r 6 rfl) hv16) ⟨rfl, rfl, Nat.le_of_ble_eq_true rfl, Nat.le_of_ble_eq_true rfl⟩ ⟨Nat.le_refl _, Nat.le_refl _⟩ rfl hl.1 rfl (Nat.le_of_ble_eq_true rfl) rfl (fun _ g => g) dX2_canBalance_60 ?_
          clear hP hS hv16; intro H locs r17 hP hS _
          refine q_iald hx hb hK hP (q_ltF ho rfl) (q_kdF_3 ho) r17 dX2_canBalance_63 h ?_
          clear h; intro x18 r18 h
          refine q_iadd hx hb dX2_canBalance_64 h ?_
          clear h; intro x19 r19 h
          refine lv_istore_n (lv' := [(2, .int (q_I x19)), (1, .int (q_I x15)), (0, .ref (z + o)), (3, .int (q_I x3))]) hx hb dX2_canBalance_65 rfl hl (by decide) rfl ?_
          clear hl; intro ls hl
          refine q_iinc (k := 3) (lv' := fun t => [(3, .int (q_I t)), (2, .int (q_I x19)), (1, .int (q_I x15)), (0, .ref (z + o))]) hx hb dX2_canBalance_66 hl rfl (by decide) (fun _ => rfl) h ?_
          clear h hl; intro x20 ls r20 hl h
          refine lv_goto (tgt := 6) hx hb dX2_canBalance_69 (by decide) ?_
          exact ih6 x15 x19 x20 _ _ _ r15 r19 r20 hP hS (lv_sub hl [3, 2, 1, 0] rfl) h
        · clear h; intro g21 h
          exact hk36  _ _ _ hP hS (lv_sub hl [] rfl) h
  refine L6 _ _ ?_ ?_  _ 0 0 0 _ _ _ (q_r 0 rfl) (q_r 0 rfl) (q_r 0 rfl) hP hS (lv_sub hl [3, 2, 1, 0] rfl) h
  · clear h hl hP hS; intro  H locs ls  hP hS hl h
    refine lv_iconst (v := q_I 0) hx hb dX2_canBalance_36 rfl ?_
    rw [← hQ]
    exact q_retz1 hx hb hr hlocks hP hS (Or.inl rfl) h dX2_canBalance_37
  · clear h hl hP hS; intro x4 x5 H locs ls r4 r5 hP hS hl h
    refine lv_bipush (v := q_I 6) hx hb dX2_canBalance_72 (by decide) ?_
    refine lv_iconst (v := q_I 5) hx hb dX2_canBalance_74 rfl ?_
    obtain ⟨x24, hv23, h⟩ := q_b_some h
    refine q_callS hx hb hml hts hown hK hP hS (As := [.int (q_I 6), .int (q_I 5)]) (rest := []) (st1 := [.int (q_I x24)]) cs_RX2_34 (c_Fl_arc l D dA (q_r 6 rfl) (q_r 5 rfl) hv23) ⟨rfl, rfl, Nat.le_of_ble_eq_true rfl, Nat.le_of_ble_eq_true rfl⟩ ⟨Nat.le_refl _, Nat.le_refl _⟩ rfl hl.1 rfl (Nat.le_of_ble_eq_true rfl) rfl (fun _ g => g) dX2_canBalance_75 ?_
    clear hP hS hv23; intro H locs r24 hP hS _
    refine lv_istore_n (lv' := [(3, .int (q_I x24)), (0, .ref (z + o)), (1, .int (q_I x4)), (2, .int (q_I x5))]) hx hb dX2_canBalance_78 rfl hl (by decide) rfl ?_
    clear hl; intro ls hl
    refine lv_aload_n hx hb dX2_canBalance_79 rfl (lv_at hl 1 rfl) ?_
    refine q_getR hx hb hts hown hK hP fd_RX2_15 (q_ltF0 ho) (q_kdF_0 ho) rfl (q_rhF_0_1 ho) dX2_canBalance_80 ?_
    refine lv_iload_n hx hb dX2_canBalance_83 rfl (lv_at hl 0 rfl) ?_
    refine q_iald hx hb hK hP (q_ltF ho rfl) (q_kdF_2 ho) r24 dX2_canBalance_84 h ?_
    clear h; intro x25 r25 h
    refine lv_aload_n hx hb dX2_canBalance_85 rfl (lv_at hl 1 rfl) ?_
    refine q_getR hx hb hts hown hK hP fd_RX2_18 (q_ltF0 ho) (q_kdF_0 ho) rfl (q_rhF_0_2 ho) dX2_canBalance_86 ?_
    refine lv_iload_n hx hb dX2_canBalance_89 rfl (lv_at hl 0 rfl) ?_
    refine q_iald hx hb hK hP (q_ltF ho rfl) (q_kdF_3 ho) r24 dX2_canBalance_90 h ?_
    clear h; intro x26 r26 h
    refine q_jn_in h (fun J => ∀ (x27 : Int) (H : Heap) (locs : List Loc) (ls : Array Slot), q_R x27 → q_P D dA q_kdC q_rhoC 77 z sz μ H → va_S (q_A z 77) s.heap H locs → lv_has ls 4 [] → J x27 = some xo → W p l e ({ frames := 1, cells := 0, slots := 0, locals := 21 } : Room) s m args below meth c H locs 0 0 Qf (F0 m 119 ls [.int (q_I x27)])) ?_ ?_
    · clear h hl hP hS; intro x27 H locs ls r27 hP hS hl h
      rw [← hQ]
      obtain ⟨hz, h⟩ := q_rz_some h
      exact q_retz1 hx hb hr hlocks hP hS hz h dX2_canBalance_119
    · clear h; intro j119 hj119 h
      refine q_jn_in h (fun J => ∀ (H : Heap) (locs : List Loc) (ls : Array Slot), q_P D dA q_kdC q_rhoC 77 z sz μ H → va_S (q_A z 77) s.heap H locs → lv_has ls 4 [] → J = some xo → W p l e ({ frames := 1, cells := 0, slots := 0, locals := 21 } : Room) s m args below meth c H locs 0 0 Qf (F0 m 118 ls [])) ?_ ?_
      · clear h hl hP hS; intro  H locs ls  hP hS hl h
        refine lv_iconst (v := q_I 0) hx hb dX2_canBalance_118 rfl ?_
        exact hj119 0 _ _ _ (q_r 0 rfl) hP hS (lv_sub hl [] rfl) h
      · clear h; intro j118 hj118 h
        refine q_cgt hx hb r25 r26 (tgt := 118) dX2_canBalance_91 (by decide) h ?_ ?_
        · clear h; intro g32 h
          exact hj118  _ _ _ hP hS (lv_sub hl [] rfl) h
        · clear h; intro g32 h
          refine lv_iload_n hx hb dX2_canBalance_94 rfl (lv_at hl 2 rfl) ?_
          refine lv_aload_n hx hb dX2_canBalance_95 rfl (lv_at hl 1 rfl) ?_
          refine q_getR hx hb hts hown hK hP fd_RX2_18 (q_ltF0 ho) (q_kdF_0 ho) rfl (q_rhF_0_2 ho) dX2_canBalance_96 ?_
          refine lv_iload_n hx hb dX2_canBalance_99 rfl (lv_at hl 0 rfl) ?_
          refine q_iald hx hb hK hP (q_ltF ho rfl) (q_kdF_3 ho) r24 dX2_canBalance_100 h ?_
          clear h; intro x28 r28 h
          refine q_cgt hx hb r4 r28 (tgt := 118) dX2_canBalance_101 (by decide) h ?_ ?_
          · clear h; intro g31 h
            exact hj118  _ _ _ hP hS (lv_sub hl [] rfl) h
          · clear h; intro g31 h
            refine lv_iload_n hx hb dX2_canBalance_104 rfl (lv_at hl 3 rfl) ?_
            refine lv_aload_n hx hb dX2_canBalance_105 rfl (lv_at hl 1 rfl) ?_
            refine q_getR hx hb hts hown hK hP fd_RX2_15 (q_ltF0 ho) (q_kdF_0 ho) rfl (q_rhF_0_1 ho) dX2_canBalance_106 ?_
            refine lv_iload_n hx hb dX2_canBalance_109 rfl (lv_at hl 0 rfl) ?_
            refine q_iald hx hb hK hP (q_ltF ho rfl) (q_kdF_2 ho) r24 dX2_canBalance_110 h ?_
            clear h; intro x29 r29 h
            refine q_clt hx hb r5 r29 (tgt := 118) dX2_canBalance_111 (by decide) h ?_ ?_
            · clear h; intro g30 h
              exact hj118  _ _ _ hP hS (lv_sub hl [] rfl) h
            · clear h; intro g30 h
              refine lv_iconst (v := q_I 1) hx hb dX2_canBalance_114 rfl ?_
              refine lv_goto (tgt := 119) hx hb dX2_canBalance_115 (by decide) ?_
              exact hj119 1 _ _ _ (q_r 1 rfl) hP hS (lv_sub hl [] rfl) h
set_option maxHeartbeats 4000000 in
set_option maxRecDepth 100000 in
theorem c_Fl_fit (l : Launch) (D : va_G) (dA : Nat → ClassId) {z sz : Nat} {o : Nat} (ho : o = 61 ∨ o = 69) {a0 : Int} (ra0 : q_R a0) {a1 : Int} (ra1 : q_R a1) {μ : q_M} {xo : Int} {μo : q_M} (h : f_Fl_fit o a0 a1 μ = some (xo, μo)) : Met l yX2_fit (q_wc yX2_fit cX2_fit 3 (some .int)) ({ frames := 1, cells := 0, slots := 0, locals := 21 } : Room) (va_Pc [.ref (z + o), .int (q_I a0), .int (q_I a1)] (q_B (q_P D dA q_kdC q_rhoC 77 z sz μ) D dA)) (q_Q (some (.int (q_I xo))) (q_R xo) (q_P D dA q_kdC q_rhoC 77 z sz μo) (q_A z 77)) 0 0 (q_A z 77) := by
  refine Met.ofW (cc := cX2_fit) (maxL := 3) (ret := (some .int)) (by decide) rfl ?_
  intro p e s m args below meth c s₁ B hml hv
  obtain ⟨hargs, hP, hK⟩ := hv
  have hx := B.exec
  have hb := B.bytes
  have hr := B.returns
  have hts : ∀ w ∈ q_W, w.before args s = true := fun w hw => atoms_spec (ws := q_wc yX2_fit cX2_fit 3 (some .int)) B.pre w (List.mem_cons_of_mem _ hw)
  have hown : s.vm.findClass RX2 = some m.cls := findClass_of_methodNamed B.named
  have hlocks := B.notSynchronized
  have hS : va_S (q_A z 77) s.heap s.heap [] := va_S.rf
  have hA : ∀ k, k < 77 → q_A z 77 (z + k) := fun k hk => ⟨Nat.le_add_right z k, Nat.add_lt_add_left hk z⟩
  have hl := lv_entry [.ref (z + o), .int (q_I a0), .int (q_I a1)] (n := 3) (Nat.le_of_ble_eq_true rfl)
  refine W.eq (by rw [hargs, lg_entry_eq]) ?_
  generalize (lg_sl [.ref (z + o), .int (q_I a0), .int (q_I a1)] ++ List.replicate (3 - (lg_sl [.ref (z + o), .int (q_I a0), .int (q_I a1)]).length) Slot.unset).toArray = ls at hl ⊢
  have hl : lv_has ls 3 [(0, .ref (z + o)), (1, .int (q_I a0)), (2, .int (q_I a1))] := hl
  generalize hQ : MQ below _ args s 0 0 _ = Qf
  change W p l e ({ frames := 1, cells := 0, slots := 0, locals := 21 } : Room) s m args below meth c s.heap [] 0 0 Qf (F0 m 0 ls [])
  unfold f_Fl_fit at h
  refine lv_aload_n hx hb dX2_fit_0 rfl (lv_at hl 0 rfl) ?_
  refine q_getR hx hb hts hown hK hP fd_RX2_11 (q_ltF0 ho) (q_kdF_0 ho) rfl (q_rhF_0_0 ho) dX2_fit_1 ?_
  refine lv_iload_n hx hb dX2_fit_4 rfl (lv_at hl 1 rfl) ?_
  refine lv_aload_n hx hb dX2_fit_5 rfl (lv_at hl 0 rfl) ?_
  refine q_getR hx hb hts hown hK hP fd_RX2_15 (q_ltF0 ho) (q_kdF_0 ho) rfl (q_rhF_0_1 ho) dX2_fit_6 ?_
  refine lv_iload_n hx hb dX2_fit_9 rfl (lv_at hl 1 rfl) ?_
  refine q_iald hx hb hK hP (q_ltF ho rfl) (q_kdF_2 ho) ra0 dX2_fit_10 h ?_
  clear h; intro x1 r1 h
  refine lv_aload_n hx hb dX2_fit_11 rfl (lv_at hl 0 rfl) ?_
  refine q_getR hx hb hts hown hK hP fd_RX2_18 (q_ltF0 ho) (q_kdF_0 ho) rfl (q_rhF_0_2 ho) dX2_fit_12 ?_
  refine lv_iload_n hx hb dX2_fit_15 rfl (lv_at hl 1 rfl) ?_
  refine q_iald hx hb hK hP (q_ltF ho rfl) (q_kdF_3 ho) ra0 dX2_fit_16 h ?_
  clear h; intro x2 r2 h
  refine lv_iload_n hx hb dX2_fit_17 rfl (lv_at hl 2 rfl) ?_
  refine q_mmin hx hb hml hl.1 hts hown cm_RX2_76 ⟨Nat.le_refl _, Nat.le_refl _⟩ (Nat.le_of_ble_eq_true rfl) (Nat.le_of_ble_eq_true rfl) (Nat.le_of_ble_eq_true rfl) r2 ra1 dX2_fit_18 h ?_
  clear h; intro x3 r3 h
  refine q_mmax hx hb hml hl.1 hts hown cm_RX2_71 ⟨Nat.le_refl _, Nat.le_refl _⟩ (Nat.le_of_ble_eq_true rfl) (Nat.le_of_ble_eq_true rfl) (Nat.le_of_ble_eq_true rfl) r1 r3 dX2_fit_21 h ?_
  clear h; intro x4 r4 h
  refine q_iast hx hb hK hP hS hA (q_ltF ho rfl) (q_kdF_1 ho) ra0 r4 dX2_fit_24 h ?_
  clear h hP hS; intro μ5 H locs hP hS h
  refine lv_aload_n hx hb dX2_fit_25 rfl (lv_at hl 0 rfl) ?_
  refine q_getR hx hb hts hown hK hP fd_RX2_11 (q_ltF0 ho) (q_kdF_0 ho) rfl (q_rhF_0_0 ho) dX2_fit_26 ?_
  refine lv_iload_n hx hb dX2_fit_29 rfl (lv_at hl 1 rfl) ?_
  refine q_iald hx hb hK hP (q_ltF ho rfl) (q_kdF_1 ho) ra0 dX2_fit_30 h ?_
  clear h; intro x6 r6 h
  rw [← hQ]
  exact q_ret2 hx hb hr hlocks hP hS r6 h dX2_fit_31
set_option maxHeartbeats 4000000 in
set_option maxRecDepth 100000 in
theorem c_Fl_load (l : Launch) (D : va_G) (dA : Nat → ClassId) {z sz : Nat} {N : Nat} {o : Nat} (ho : o = 61 ∨ o = 69) {a1 : Int} (ra1 : q_R a1) {μ : q_M} {μo : q_M} (h : f_Fl_load N o a1 μ = some μo) : Met l yX2_load (q_wc yX2_load cX2_load 8 none) ({ frames := 2, cells := 0, slots := 0, locals := 43 } : Room) (va_Pc [.ref (z + o), .ref (z + 56), .int (q_I a1)] (q_B (q_P D dA q_kdC q_rhoC 77 z sz μ) D dA)) (q_Q none True (q_P D dA q_kdC q_rhoC 77 z sz μo) (q_A z 77)) 0 0 (q_A z 77) := by
  refine Met.ofW (cc := cX2_load) (maxL := 8) (ret := none) (by decide) rfl ?_
  intro p e s m args below meth c s₁ B hml hv
  obtain ⟨hargs, hP, hK⟩ := hv
  have hx := B.exec
  have hb := B.bytes
  have hr := B.returns
  have hts : ∀ w ∈ q_W, w.before args s = true := fun w hw => atoms_spec (ws := q_wc yX2_load cX2_load 8 none) B.pre w (List.mem_cons_of_mem _ hw)
  have hown : s.vm.findClass RX2 = some m.cls := findClass_of_methodNamed B.named
  have hlocks := B.notSynchronized
  have hS : va_S (q_A z 77) s.heap s.heap [] := va_S.rf
  have hA : ∀ k, k < 77 → q_A z 77 (z + k) := fun k hk => ⟨Nat.le_add_right z k, Nat.add_lt_add_left hk z⟩
  have hl := lv_entry [.ref (z + o), .ref (z + 56), .int (q_I a1)] (n := 8) (Nat.le_of_ble_eq_true rfl)
  refine W.eq (by rw [hargs, lg_entry_eq]) ?_
  generalize (lg_sl [.ref (z + o), .ref (z + 56), .int (q_I a1)] ++ List.replicate (8 - (lg_sl [.ref (z + o), .ref (z + 56), .int (q_I a1)]).length) Slot.unset).toArray = ls at hl ⊢
  have hl : lv_has ls 8 [(0, .ref (z + o)), (1, .ref (z + 56)), (2, .int (q_I a1))] := hl
  generalize hQ : MQ below _ args s 0 0 _ = Qf
  change W p l e ({ frames := 2, cells := 0, slots := 0, locals := 43 } : Room) s m args below meth c s.heap [] 0 0 Qf (F0 m 0 ls [])
  unfold f_Fl_load at h
  refine lv_iconst (v := q_I 0) hx hb dX2_load_0 rfl ?_
  refine lv_istore_n (lv' := [(3, .int (q_I 0)), (0, .ref (z + o)), (1, .ref (z + 56)), (2, .int (q_I a1))]) hx hb dX2_load_1 rfl hl (by decide) rfl ?_
  clear hl; intro ls hl
  refine lv_iconst (v := q_I 0) hx hb dX2_load_2 rfl ?_
  refine lv_istore (lv' := [(4, .int (q_I 0)), (3, .int (q_I 0)), (0, .ref (z + o)), (1, .ref (z + 56)), (2, .int (q_I a1))]) hx hb dX2_load_3 hl (by decide) rfl ?_
  clear hl; intro ls hl
  refine lv_iconst (v := q_I 0) hx hb dX2_load_5 rfl ?_
  refine lv_istore (lv' := [(5, .int (q_I 0)), (4, .int (q_I 0)), (3, .int (q_I 0)), (0, .ref (z + o)), (1, .ref (z + 56)), (2, .int (q_I a1))]) hx hb dX2_load_6 hl (by decide) rfl ?_
  clear hl; intro ls hl
  have L8 : ∀ (k75 : Int → Int → q_M → Option q_M), (∀ (x5 : Int) (x6 : Int) (μ7 : q_M) (H : Heap) (locs : List Loc) (ls : Array Slot), q_R x5 → q_R x6 → q_P D dA q_kdC q_rhoC 77 z sz μ7 H → va_S (q_A z 77) s.heap H locs → lv_has ls 8 [(0, .ref (z + o)), (3, .int (q_I x5)), (4, .int (q_I x6))] → k75 x5 x6 μ7 = some μo → W p l e ({ frames := 2, cells := 0, slots := 0, locals := 43 } : Room) s m args below meth c H locs 0 0 Qf (F0 m 75 ls [])) → ∀ (nf8 : Nat) (x1 : Int) (x2 : Int) (x3 : Int) (μ4 : q_M) (H : Heap) (locs : List Loc) (ls : Array Slot), q_R x1 → q_R x2 → q_R x3 → q_P D dA q_kdC q_rhoC 77 z sz μ4 H → va_S (q_A z 77) s.heap H locs → lv_has ls 8 [(0, .ref (z + o)), (1, .ref (z + 56)), (2, .int (q_I a1)), (3, .int (q_I x1)), (4, .int (q_I x2)), (5, .int (q_I x3))] → f_Fl_load_L8 o a1 k75 nf8 x1 x2 x3 μ4 = some μo → W p l e ({ frames := 2, cells := 0, slots := 0, locals := 43 } : Room) s m args below meth c H locs 0 0 Qf (F0 m 8 ls []) := by
    clear h hl hP hS
    intro k75 hk75 nf8
    induction nf8 with
    | zero =>
      intro x1 x2 x3 μ4 H locs ls r1 r2 r3 hP hS hl h
      rw [f_Fl_load_L8] at h
      cases h
    | succ nf8 ih8 =>
      intro x1 x2 x3 μ4 H locs ls r1 r2 r3 hP hS hl h
      rw [f_Fl_load_L8] at h
      refine lv_iload hx hb dX2_load_8 (lv_at hl 5 rfl) ?_
      refine lv_aload_n hx hb dX2_load_10 rfl (lv_at hl 1 rfl) ?_
      refine q_getI hx hb hts hown hK hP fd_RX2_79 (Nat.le_of_ble_eq_true rfl) q_kdC_56 rfl dX2_load_11 h ?_
      clear h; intro x8 r8 h
      refine q_cge hx hb r3 r8 (tgt := 75) dX2_load_14 (by decide) h ?_ ?_
      · clear h; intro g22 h
        exact hk75 x1 x2 μ4 _ _ _ r1 r2 hP hS (lv_sub hl [0, 3, 4] rfl) h
      · clear h; intro g22 h
        refine lv_aload_n hx hb dX2_load_17 rfl (lv_at hl 1 rfl) ?_
        refine q_getR hx hb hts hown hK hP fd_RX2_84 (Nat.le_of_ble_eq_true rfl) q_kdC_56 rfl q_rhC_56_1 dX2_load_18 ?_
        refine lv_iload hx hb dX2_load_21 (lv_at hl 5 rfl) ?_
        refine lv_iload_n hx hb dX2_load_23 rfl (lv_at hl 2 rfl) ?_
        obtain ⟨x10, hv9, h⟩ := q_b_some h
        refine q_callN hx hb hml hts hown hK hP hS (As := [.int (q_I x3), .int (q_I a1)]) (rest := [.ref (z + 57)]) (st1 := [.int (q_I x10), .ref (z + 57)]) cn_RX2_87 (c_CR_slot l D dA r3 ra1 hv9) ⟨rfl, rfl, Nat.le_of_ble_eq_true rfl, Nat.le_of_ble_eq_true rfl⟩ ⟨Nat.le_refl _, Nat.le_refl _⟩ rfl hl.1 rfl (Nat.le_of_ble_eq_true rfl) rfl (fun _ g => g) dX2_load_24 ?_
        clear hP hS hv9; intro H locs r10 hP hS _
        refine q_iald hx hb hK hP (Nat.le_of_ble_eq_true rfl) q_kdC_57 r10 dX2_load_27 h ?_
        clear h; intro x11 r11 h
        refine lv_istore (lv' := [(6, .int (q_I x11)), (0, .ref (z + o)), (1, .ref (z + 56)), (2, .int (q_I a1)), (3, .int (q_I x1)), (4, .int (q_I x2)), (5, .int (q_I x3))]) hx hb dX2_load_28 hl (by decide) rfl ?_
        clear hl; intro ls hl
        refine lv_aload_n hx hb dX2_load_30 rfl (lv_at hl 1 rfl) ?_
        refine lv_iload hx hb dX2_load_31 (lv_at hl 6 rfl) ?_
        refine lv_bipush (v := q_I 6) hx hb dX2_load_33 (by decide) ?_
        obtain ⟨x13, hv12, h⟩ := q_b_some h
        refine q_callS hx hb hml hts hown hK hP hS (As := [.int (q_I x3), .int (q_I 6)]) (rest := [.ref (z + o)]) (st1 := [.int (q_I x13), .ref (z + o)]) cs_RX2_34 (c_Fl_arc l D dA r3 (q_r 6 rfl) hv12) ⟨rfl, rfl, Nat.le_of_ble_eq_true rfl, Nat.le_of_ble_eq_true rfl⟩ ⟨Nat.le_refl _, Nat.le_refl _⟩ rfl hl.1 rfl (Nat.le_of_ble_eq_true rfl) rfl (fun _ g => g) dX2_load_35 ?_
        clear hP hS hv12; intro H locs r13 hP hS _
        refine lv_iload hx hb dX2_load_38 (lv_at hl 0 rfl) ?_
        obtain ⟨x15, μ16, hv14, h⟩ := q_b2_some h
        refine q_callV hx hb hml hts hown hK hP hS (As := [.int (q_I x13), .int (q_I x11)]) (rest := []) (st1 := [.int (q_I x15)]) cv_RX2_90 (c_Fl_fit l D dA ho r13 r11 hv14) (q_ltF0 ho) (q_kdF_0 ho) rfl ⟨rfl, rfl, Nat.le_of_ble_eq_true rfl, Nat.le_of_ble_eq_true rfl⟩ ⟨Nat.le_refl _, Nat.le_refl _⟩ rfl hl.1 rfl (Nat.le_of_ble_eq_true rfl) rfl (fun _ g => g) dX2_load_40 ?_
        clear hP hS hv14; intro H locs r15 hP hS _
        refine lv_istore (lv' := [(7, .int (q_I x15)), (6, .int (q_I x11)), (0, .ref (z + o)), (1, .ref (z + 56)), (2, .int (q_I a1)), (3, .int (q_I x1)), (4, .int (q_I x2)), (5, .int (q_I x3))]) hx hb dX2_load_43 hl (by decide) rfl ?_
        clear hl; intro ls hl
        refine lv_aload_n hx hb dX2_load_45 rfl (lv_at hl 2 rfl) ?_
        refine q_getR hx hb hts hown hK hP fd_RX2_25 (q_ltF0 ho) (q_kdF_0 ho) rfl (q_rhF_0_4 ho) dX2_load_46 ?_
        refine lv_iload hx hb dX2_load_49 (lv_at hl 7 rfl) ?_
        refine lv_iload hx hb dX2_load_51 (lv_at hl 1 rfl) ?_
        refine lv_iload hx hb dX2_load_53 (lv_at hl 0 rfl) ?_
        refine q_isub hx hb dX2_load_55 h ?_
        clear h; intro x17 r17 h
        refine q_iast hx hb hK hP hS hA (q_ltF ho rfl) (q_kdF_5 ho) r3 r17 dX2_load_56 h ?_
        clear h hP hS; intro μ18 H locs hP hS h
        refine lv_iload_n hx hb dX2_load_57 rfl (lv_at hl 5 rfl) ?_
        refine lv_iload hx hb dX2_load_58 (lv_at hl 0 rfl) ?_
        refine q_iadd hx hb dX2_load_60 h ?_
        clear h; intro x19 r19 h
        refine lv_istore_n (lv' := [(3, .int (q_I x19)), (7, .int (q_I x15)), (6, .int (q_I x11)), (0, .ref (z + o)), (1, .ref (z + 56)), (2, .int (q_I a1)), (4, .int (q_I x2)), (5, .int (q_I x3))]) hx hb dX2_load_61 rfl hl (by decide) rfl ?_
        clear hl; intro ls hl
        refine lv_iload hx hb dX2_load_62 (lv_at hl 6 rfl) ?_
        refine lv_iload hx hb dX2_load_64 (lv_at hl 2 rfl) ?_
        refine q_iadd hx hb dX2_load_66 h ?_
        clear h; intro x20 r20 h
        refine lv_istore (lv' := [(4, .int (q_I x20)), (3, .int (q_I x19)), (7, .int (q_I x15)), (6, .int (q_I x11)), (0, .ref (z + o)), (1, .ref (z + 56)), (2, .int (q_I a1)), (5, .int (q_I x3))]) hx hb dX2_load_67 hl (by decide) rfl ?_
        clear hl; intro ls hl
        refine q_iinc (k := 7) (lv' := fun t => [(5, .int (q_I t)), (4, .int (q_I x20)), (3, .int (q_I x19)), (7, .int (q_I x15)), (6, .int (q_I x11)), (0, .ref (z + o)), (1, .ref (z + 56)), (2, .int (q_I a1))]) hx hb dX2_load_69 hl rfl (by decide) (fun _ => rfl) h ?_
        clear h hl; intro x21 ls r21 hl h
        refine lv_goto (tgt := 8) hx hb dX2_load_72 (by decide) ?_
        exact ih8 x19 x20 x21 μ18 _ _ _ r19 r20 r21 hP hS (lv_sub hl [5, 6, 7, 2, 1, 0] rfl) h
  refine L8 _ ?_  _ 0 0 0 μ _ _ _ (q_r 0 rfl) (q_r 0 rfl) (q_r 0 rfl) hP hS (lv_sub hl [3, 4, 5, 2, 1, 0] rfl) h
  · clear h hl hP hS; intro x5 x6 μ7 H locs ls r5 r6 hP hS hl h
    refine lv_aload_n hx hb dX2_load_75 rfl (lv_at hl 0 rfl) ?_
    refine lv_bipush (v := q_I 6) hx hb dX2_load_76 (by decide) ?_
    refine lv_iconst (v := q_I 5) hx hb dX2_load_78 rfl ?_
    obtain ⟨x24, hv23, h⟩ := q_b_some h
    refine q_callS hx hb hml hts hown hK hP hS (As := [.int (q_I 6), .int (q_I 5)]) (rest := [.ref (z + o)]) (st1 := [.int (q_I x24), .ref (z + o)]) cs_RX2_34 (c_Fl_arc l D dA (q_r 6 rfl) (q_r 5 rfl) hv23) ⟨rfl, rfl, Nat.le_of_ble_eq_true rfl, Nat.le_of_ble_eq_true rfl⟩ ⟨Nat.le_refl _, Nat.le_refl _⟩ rfl hl.1 rfl (Nat.le_of_ble_eq_true rfl) rfl (fun _ g => g) dX2_load_79 ?_
    clear hP hS hv23; intro H locs r24 hP hS _
    refine lv_iload_n hx hb dX2_load_82 rfl (lv_at hl 1 rfl) ?_
    obtain ⟨x26, μ27, hv25, h⟩ := q_b2_some h
    refine q_callV hx hb hml hts hown hK hP hS (As := [.int (q_I x24), .int (q_I x5)]) (rest := []) (st1 := [.int (q_I x26)]) cv_RX2_90 (c_Fl_fit l D dA ho r24 r5 hv25) (q_ltF0 ho) (q_kdF_0 ho) rfl ⟨rfl, rfl, Nat.le_of_ble_eq_true rfl, Nat.le_of_ble_eq_true rfl⟩ ⟨Nat.le_refl _, Nat.le_refl _⟩ rfl hl.1 rfl (Nat.le_of_ble_eq_true rfl) rfl (fun _ g => g) dX2_load_83 ?_
    clear hP hS hv25; intro H locs r26 hP hS _
    refine lv_istore (lv' := [(5, .int (q_I x26)), (0, .ref (z + o)), (3, .int (q_I x5)), (4, .int (q_I x6))]) hx hb dX2_load_86 hl (by decide) rfl ?_
    clear hl; intro ls hl
    refine lv_aload_n hx hb dX2_load_88 rfl (lv_at hl 1 rfl) ?_
    refine q_getR hx hb hts hown hK hP fd_RX2_25 (q_ltF0 ho) (q_kdF_0 ho) rfl (q_rhF_0_4 ho) dX2_load_89 ?_
    refine lv_bipush (v := q_I 6) hx hb dX2_load_92 (by decide) ?_
    refine lv_iload_n hx hb dX2_load_94 rfl (lv_at hl 2 rfl) ?_
    refine lv_iload hx hb dX2_load_95 (lv_at hl 0 rfl) ?_
    refine q_isub hx hb dX2_load_97 h ?_
    clear h; intro x28 r28 h
    refine q_iast hx hb hK hP hS hA (q_ltF ho rfl) (q_kdF_5 ho) (q_r 6 rfl) r28 dX2_load_98 h ?_
    clear h hP hS; intro μ29 H locs hP hS h
    refine lv_aload_n hx hb dX2_load_99 rfl (lv_at hl 1 rfl) ?_
    refine q_getR hx hb hts hown hK hP fd_RX2_25 (q_ltF0 ho) (q_kdF_0 ho) rfl (q_rhF_0_4 ho) dX2_load_100 ?_
    refine lv_iconst (v := q_I 5) hx hb dX2_load_103 rfl ?_
    refine lv_iload hx hb dX2_load_104 (lv_at hl 0 rfl) ?_
    refine lv_iload hx hb dX2_load_106 (lv_at hl 3 rfl) ?_
    refine q_isub hx hb dX2_load_108 h ?_
    clear h; intro x30 r30 h
    refine q_iast hx hb hK hP hS hA (q_ltF ho rfl) (q_kdF_5 ho) (q_r 5 rfl) r30 dX2_load_109 h ?_
    clear h hP hS; intro μ31 H locs hP hS h
    rw [← hQ]
    exact q_retv hx hb hr hlocks hP hS h dX2_load_110
set_option maxHeartbeats 4000000 in
set_option maxRecDepth 100000 in
theorem c_Re_layOut (l : Launch) (D : va_G) (dA : Nat → ClassId) {z sz : Nat} {N : Nat} {μ : q_M} {xo : Int} {μo : q_M} (h : f_Re_layOut N μ = some (xo, μo)) : Met l yX4_layOut (q_wc yX4_layOut cX4_layOut 5 (some .boolean)) ({ frames := 4, cells := 0, slots := 0, locals := 94 } : Room) (va_Pc [.ref (z + 59), .ref (z + 56), .ref (z + 49), .ref (z + 54)] (q_B (q_P D dA q_kdC q_rhoC 77 z sz μ) D dA)) (q_Q (some (.int (q_I xo))) (q_R xo) (q_P D dA q_kdC q_rhoC 77 z sz μo) (q_A z 77)) 0 0 (q_A z 77) := by
  refine Met.ofW (cc := cX4_layOut) (maxL := 5) (ret := (some .boolean)) (by decide) rfl ?_
  intro p e s m args below meth c s₁ B hml hv
  obtain ⟨hargs, hP, hK⟩ := hv
  have hx := B.exec
  have hb := B.bytes
  have hr := B.returns
  have hts : ∀ w ∈ q_W, w.before args s = true := fun w hw => atoms_spec (ws := q_wc yX4_layOut cX4_layOut 5 (some .boolean)) B.pre w (List.mem_cons_of_mem _ hw)
  have hown : s.vm.findClass RX4 = some m.cls := findClass_of_methodNamed B.named
  have hlocks := B.notSynchronized
  have hS : va_S (q_A z 77) s.heap s.heap [] := va_S.rf
  have hA : ∀ k, k < 77 → q_A z 77 (z + k) := fun k hk => ⟨Nat.le_add_right z k, Nat.add_lt_add_left hk z⟩
  have hl := lv_entry [.ref (z + 59), .ref (z + 56), .ref (z + 49), .ref (z + 54)] (n := 5) (Nat.le_of_ble_eq_true rfl)
  refine W.eq (by rw [hargs, lg_entry_eq]) ?_
  generalize (lg_sl [.ref (z + 59), .ref (z + 56), .ref (z + 49), .ref (z + 54)] ++ List.replicate (5 - (lg_sl [.ref (z + 59), .ref (z + 56), .ref (z + 49), .ref (z + 54)]).length) Slot.unset).toArray = ls at hl ⊢
  have hl : lv_has ls 5 [(0, .ref (z + 59)), (1, .ref (z + 56)), (2, .ref (z + 49)), (3, .ref (z + 54))] := hl
  generalize hQ : MQ below _ args s 0 0 _ = Qf
  change W p l e ({ frames := 4, cells := 0, slots := 0, locals := 94 } : Room) s m args below meth c s.heap [] 0 0 Qf (F0 m 0 ls [])
  unfold f_Re_layOut at h
  refine lv_iconst (v := q_I 0) hx hb dX4_layOut_0 rfl ?_
  refine lv_istore (lv' := [(4, .int (q_I 0)), (0, .ref (z + 59)), (1, .ref (z + 56)), (2, .ref (z + 49)), (3, .ref (z + 54))]) hx hb dX4_layOut_1 hl (by decide) rfl ?_
  clear hl; intro ls hl
  have L3 : ∀ (k48 : q_M → Option (Int × q_M)) (k69 : q_M → Option (Int × q_M)), (∀ (μ3 : q_M) (H : Heap) (locs : List Loc) (ls : Array Slot), q_P D dA q_kdC q_rhoC 77 z sz μ3 H → va_S (q_A z 77) s.heap H locs → lv_has ls 5 [] → k48 μ3 = some (xo, μo) → W p l e ({ frames := 4, cells := 0, slots := 0, locals := 94 } : Room) s m args below meth c H locs 0 0 Qf (F0 m 48 ls [])) → (∀ (μ4 : q_M) (H : Heap) (locs : List Loc) (ls : Array Slot), q_P D dA q_kdC q_rhoC 77 z sz μ4 H → va_S (q_A z 77) s.heap H locs → lv_has ls 5 [] → k69 μ4 = some (xo, μo) → W p l e ({ frames := 4, cells := 0, slots := 0, locals := 94 } : Room) s m args below meth c H locs 0 0 Qf (F0 m 69 ls [])) → ∀ (nf3 : Nat) (x1 : Int) (μ2 : q_M) (H : Heap) (locs : List Loc) (ls : Array Slot), q_R x1 → q_P D dA q_kdC q_rhoC 77 z sz μ2 H → va_S (q_A z 77) s.heap H locs → lv_has ls 5 [(0, .ref (z + 59)), (1, .ref (z + 56)), (2, .ref (z + 49)), (3, .ref (z + 54)), (4, .int (q_I x1))] → f_Re_layOut_L3 N k48 k69 nf3 x1 μ2 = some (xo, μo) → W p l e ({ frames := 4, cells := 0, slots := 0, locals := 94 } : Room) s m args below meth c H locs 0 0 Qf (F0 m 3 ls []) := by
    clear h hl hP hS
    intro k48 k69 hk48 hk69 nf3
    induction nf3 with
    | zero =>
      intro x1 μ2 H locs ls r1 hP hS hl h
      rw [f_Re_layOut_L3] at h
      cases h
    | succ nf3 ih3 =>
      intro x1 μ2 H locs ls r1 hP hS hl h
      rw [f_Re_layOut_L3] at h
      refine lv_iload hx hb dX4_layOut_3 (lv_at hl 4 rfl) ?_
      refine lv_iconst (v := q_I 2) hx hb dX4_layOut_5 rfl ?_
      refine q_cge hx hb r1 (q_r 2 rfl) (tgt := 69) dX4_layOut_6 (by decide) h ?_ ?_
      · clear h; intro g21 h
        exact hk69 μ2 _ _ _ hP hS (lv_sub hl [] rfl) h
      · clear h; intro g21 h
        refine lv_aload_n hx hb dX4_layOut_9 rfl (lv_at hl 0 rfl) ?_
        refine q_getR hx hb hts hown hK hP fd_RX4_12 (Nat.le_of_ble_eq_true rfl) q_kdC_59 rfl q_rhC_59_0 dX4_layOut_10 ?_
        refine lv_iload hx hb dX4_layOut_13 (lv_at hl 4 rfl) ?_
        refine q_aald hx hb hK hP (Nat.le_of_ble_eq_true rfl) q_kdC_60 r1 q_rhC_60_0 q_rhC_60_1 dX4_layOut_15 h ?_
        clear h; intro o5 ho5 h
        refine lv_aload_n hx hb dX4_layOut_16 rfl (lv_at hl 1 rfl) ?_
        refine q_getI hx hb hts hown hK hP fd_RX4_18 (Nat.le_of_ble_eq_true rfl) q_kdC_56 rfl dX4_layOut_17 h ?_
        clear h; intro x6 r6 h
        refine lv_aload_n hx hb dX4_layOut_20 rfl (lv_at hl 3 rfl) ?_
        obtain ⟨μ8, hv7, h⟩ := q_b_some h
        refine q_callV hx hb hml hts hown hK hP hS (As := [.int (q_I x6), .ref (z + 54)]) (rest := []) (st1 := []) cv_RX4_24 (c_Fl_layOut l D dA ho5 r6 hv7) (q_ltF0 ho5) (q_kdF_0 ho5) rfl ⟨rfl, rfl, Nat.le_of_ble_eq_true rfl, Nat.le_of_ble_eq_true rfl⟩ ⟨Nat.le_refl _, Nat.le_refl _⟩ rfl hl.1 rfl (Nat.le_of_ble_eq_true rfl) rfl (fun _ g => g) dX4_layOut_21 ?_
        clear hP hS hv7; intro H locs _ hP hS _
        refine lv_aload_n hx hb dX4_layOut_24 rfl (lv_at hl 0 rfl) ?_
        refine lv_aload_n hx hb dX4_layOut_25 rfl (lv_at hl 2 rfl) ?_
        refine lv_aload_n hx hb dX4_layOut_26 rfl (lv_at hl 1 rfl) ?_
        refine lv_iload hx hb dX4_layOut_27 (lv_at hl 4 rfl) ?_
        obtain ⟨x10, μ11, hv9, h⟩ := q_b2_some h
        refine q_callV hx hb hml hts hown hK hP hS (As := [.ref (z + 49), .ref (z + 56), .int (q_I x1)]) (rest := []) (st1 := [.int (q_I x10)]) cv_RX4_28 (c_Re_obey l D dA r1 hv9) (Nat.le_of_ble_eq_true rfl) q_kdC_59 rfl ⟨rfl, rfl, Nat.le_of_ble_eq_true rfl, Nat.le_of_ble_eq_true rfl⟩ ⟨Nat.le_refl _, Nat.le_refl _⟩ rfl hl.1 rfl (Nat.le_of_ble_eq_true rfl) rfl (fun _ g => g) dX4_layOut_29 ?_
        clear hP hS hv9; intro H locs r10 hP hS _
        refine q_zeq hx hb r10 (tgt := 48) dX4_layOut_32 (by decide) h ?_ ?_
        · clear h; intro g20 h
          exact hk48 μ11 _ _ _ hP hS (lv_sub hl [] rfl) h
        · clear h; intro g20 h
          refine lv_aload_n hx hb dX4_layOut_35 rfl (lv_at hl 0 rfl) ?_
          refine q_getR hx hb hts hown hK hP fd_RX4_12 (Nat.le_of_ble_eq_true rfl) q_kdC_59 rfl q_rhC_59_0 dX4_layOut_36 ?_
          refine lv_iload hx hb dX4_layOut_39 (lv_at hl 4 rfl) ?_
          refine q_aald hx hb hK hP (Nat.le_of_ble_eq_true rfl) q_kdC_60 r1 q_rhC_60_0 q_rhC_60_1 dX4_layOut_41 h ?_
          clear h; intro o12 ho12 h
          obtain ⟨x14, hv13, h⟩ := q_b_some h
          refine q_callV hx hb hml hts hown hK hP hS (As := []) (rest := []) (st1 := [.int (q_I x14)]) cv_RX4_32 (c_Fl_canBalance l D dA ho12 hv13) (q_ltF0 ho12) (q_kdF_0 ho12) rfl ⟨rfl, rfl, Nat.le_of_ble_eq_true rfl, Nat.le_of_ble_eq_true rfl⟩ ⟨Nat.le_refl _, Nat.le_refl _⟩ rfl hl.1 rfl (Nat.le_of_ble_eq_true rfl) rfl (fun _ g => g) dX4_layOut_42 ?_
          clear hP hS hv13; intro H locs r14 hP hS _
          refine q_zne hx hb r14 (tgt := 50) dX4_layOut_45 (by decide) h ?_ ?_
          · clear h; intro g19 h
            exact hk48 μ11 _ _ _ hP hS (lv_sub hl [] rfl) h
          · clear h; intro g19 h
            refine lv_aload_n hx hb dX4_layOut_50 rfl (lv_at hl 0 rfl) ?_
            refine q_getR hx hb hts hown hK hP fd_RX4_12 (Nat.le_of_ble_eq_true rfl) q_kdC_59 rfl q_rhC_59_0 dX4_layOut_51 ?_
            refine lv_iload hx hb dX4_layOut_54 (lv_at hl 4 rfl) ?_
            refine q_aald hx hb hK hP (Nat.le_of_ble_eq_true rfl) q_kdC_60 r1 q_rhC_60_0 q_rhC_60_1 dX4_layOut_56 h ?_
            clear h; intro o15 ho15 h
            refine lv_aload_n hx hb dX4_layOut_57 rfl (lv_at hl 1 rfl) ?_
            refine lv_iload hx hb dX4_layOut_58 (lv_at hl 4 rfl) ?_
            obtain ⟨μ17, hv16, h⟩ := q_b_some h
            refine q_callV hx hb hml hts hown hK hP hS (As := [.ref (z + 56), .int (q_I x1)]) (rest := []) (st1 := []) cv_RX4_36 (c_Fl_load l D dA ho15 r1 hv16) (q_ltF0 ho15) (q_kdF_0 ho15) rfl ⟨rfl, rfl, Nat.le_of_ble_eq_true rfl, Nat.le_of_ble_eq_true rfl⟩ ⟨Nat.le_refl _, Nat.le_refl _⟩ rfl hl.1 rfl (Nat.le_of_ble_eq_true rfl) rfl (fun _ g => g) dX4_layOut_60 ?_
            clear hP hS hv16; intro H locs _ hP hS _
            refine q_iinc (k := 4) (lv' := fun t => [(4, .int (q_I t)), (0, .ref (z + 59)), (1, .ref (z + 56)), (2, .ref (z + 49)), (3, .ref (z + 54))]) hx hb dX4_layOut_63 hl rfl (by decide) (fun _ => rfl) h ?_
            clear h hl; intro x18 ls r18 hl h
            refine lv_goto (tgt := 3) hx hb dX4_layOut_66 (by decide) ?_
            exact ih3 x18 μ17 _ _ _ r18 hP hS (lv_sub hl [1, 2, 3, 4, 0] rfl) h
  refine L3 _ _ ?_ ?_  _ 0 μ _ _ _ (q_r 0 rfl) hP hS (lv_sub hl [1, 2, 3, 4, 0] rfl) h
  · clear h hl hP hS; intro μ3 H locs ls  hP hS hl h
    refine lv_iconst (v := q_I 0) hx hb dX4_layOut_48 rfl ?_
    rw [← hQ]
    exact q_retz2 hx hb hr hlocks hP hS (Or.inl rfl) h dX4_layOut_49
  · clear h hl hP hS; intro μ4 H locs ls  hP hS hl h
    refine lv_iconst (v := q_I 1) hx hb dX4_layOut_69 rfl ?_
    rw [← hQ]
    exact q_retz2 hx hb hr hlocks hP hS (Or.inr rfl) h dX4_layOut_70
set_option maxHeartbeats 4000000 in
set_option maxRecDepth 100000 in
theorem c_Fl_canTakeBack (l : Launch) (D : va_G) (dA : Nat → ClassId) {z sz : Nat} {o : Nat} (ho : o = 61 ∨ o = 69) {a0 : Int} (ra0 : q_R a0) {μ : q_M} {xo : Int} (h : f_Fl_canTakeBack o a0 μ = some xo) : Met l yX2_canTakeBack (q_wc yX2_canTakeBack cX2_canTakeBack 2 (some .boolean)) ({ frames := 0, cells := 0, slots := 0, locals := 0 } : Room) (va_Pc [.ref (z + o), .int (q_I a0)] (q_B (q_P D dA q_kdC q_rhoC 77 z sz μ) D dA)) (q_Q (some (.int (q_I xo))) (q_R xo) (q_P D dA q_kdC q_rhoC 77 z sz μ) (q_A z 77)) 0 0 (q_A z 77) := by
  refine Met.ofW (cc := cX2_canTakeBack) (maxL := 2) (ret := (some .boolean)) (by decide) rfl ?_
  intro p e s m args below meth c s₁ B hml hv
  obtain ⟨hargs, hP, hK⟩ := hv
  have hx := B.exec
  have hb := B.bytes
  have hr := B.returns
  have hts : ∀ w ∈ q_W, w.before args s = true := fun w hw => atoms_spec (ws := q_wc yX2_canTakeBack cX2_canTakeBack 2 (some .boolean)) B.pre w (List.mem_cons_of_mem _ hw)
  have hown : s.vm.findClass RX2 = some m.cls := findClass_of_methodNamed B.named
  have hlocks := B.notSynchronized
  have hS : va_S (q_A z 77) s.heap s.heap [] := va_S.rf
  have hA : ∀ k, k < 77 → q_A z 77 (z + k) := fun k hk => ⟨Nat.le_add_right z k, Nat.add_lt_add_left hk z⟩
  have hl := lv_entry [.ref (z + o), .int (q_I a0)] (n := 2) (Nat.le_of_ble_eq_true rfl)
  refine W.eq (by rw [hargs, lg_entry_eq]) ?_
  generalize (lg_sl [.ref (z + o), .int (q_I a0)] ++ List.replicate (2 - (lg_sl [.ref (z + o), .int (q_I a0)]).length) Slot.unset).toArray = ls at hl ⊢
  have hl : lv_has ls 2 [(0, .ref (z + o)), (1, .int (q_I a0))] := hl
  generalize hQ : MQ below _ args s 0 0 _ = Qf
  change W p l e ({ frames := 0, cells := 0, slots := 0, locals := 0 } : Room) s m args below meth c s.heap [] 0 0 Qf (F0 m 0 ls [])
  unfold f_Fl_canTakeBack at h
  refine lv_aload_n hx hb dX2_canTakeBack_0 rfl (lv_at hl 0 rfl) ?_
  refine q_getR hx hb hts hown hK hP fd_RX2_11 (q_ltF0 ho) (q_kdF_0 ho) rfl (q_rhF_0_0 ho) dX2_canTakeBack_1 ?_
  refine lv_iload_n hx hb dX2_canTakeBack_4 rfl (lv_at hl 1 rfl) ?_
  refine q_iald hx hb hK hP (q_ltF ho rfl) (q_kdF_1 ho) ra0 dX2_canTakeBack_5 h ?_
  clear h; intro x1 r1 h
  refine lv_aload_n hx hb dX2_canTakeBack_6 rfl (lv_at hl 0 rfl) ?_
  refine q_getR hx hb hts hown hK hP fd_RX2_15 (q_ltF0 ho) (q_kdF_0 ho) rfl (q_rhF_0_1 ho) dX2_canTakeBack_7 ?_
  refine lv_iload_n hx hb dX2_canTakeBack_10 rfl (lv_at hl 1 rfl) ?_
  refine q_iald hx hb hK hP (q_ltF ho rfl) (q_kdF_2 ho) ra0 dX2_canTakeBack_11 h ?_
  clear h; intro x2 r2 h
  refine q_jn_in h (fun J => ∀ (x3 : Int) (H : Heap) (locs : List Loc) (ls : Array Slot), q_R x3 → q_P D dA q_kdC q_rhoC 77 z sz μ H → va_S (q_A z 77) s.heap H locs → lv_has ls 2 [] → J x3 = some xo → W p l e ({ frames := 0, cells := 0, slots := 0, locals := 0 } : Room) s m args below meth c H locs 0 0 Qf (F0 m 20 ls [.int (q_I x3)])) ?_ ?_
  · clear h hl hP hS; intro x3 H locs ls r3 hP hS hl h
    rw [← hQ]
    obtain ⟨hz, h⟩ := q_rz_some h
    exact q_retz1 hx hb hr hlocks hP hS hz h dX2_canTakeBack_20
  · clear h; intro j20 hj20 h
    refine q_cle hx hb r1 r2 (tgt := 19) dX2_canTakeBack_12 (by decide) h ?_ ?_
    · clear h; intro g4 h
      refine lv_iconst (v := q_I 0) hx hb dX2_canTakeBack_19 rfl ?_
      exact hj20 0 _ _ _ (q_r 0 rfl) hP hS (lv_sub hl [] rfl) h
    · clear h; intro g4 h
      refine lv_iconst (v := q_I 1) hx hb dX2_canTakeBack_15 rfl ?_
      refine lv_goto (tgt := 20) hx hb dX2_canTakeBack_16 (by decide) ?_
      exact hj20 1 _ _ _ (q_r 1 rfl) hP hS (lv_sub hl [] rfl) h
set_option maxHeartbeats 4000000 in
set_option maxRecDepth 100000 in
theorem c_Fl_room (l : Launch) (D : va_G) (dA : Nat → ClassId) {z sz : Nat} {o : Nat} (ho : o = 61 ∨ o = 69) {a0 : Int} (ra0 : q_R a0) {a1 : Int} (ra1 : q_R a1) {μ : q_M} {xo : Int} (h : f_Fl_room o a0 a1 μ = some xo) : Met l yX2_room (q_wc yX2_room cX2_room 5 (some .int)) ({ frames := 1, cells := 0, slots := 0, locals := 21 } : Room) (va_Pc [.ref (z + o), .int (q_I a0), .int (q_I a1)] (q_B (q_P D dA q_kdC q_rhoC 77 z sz μ) D dA)) (q_Q (some (.int (q_I xo))) (q_R xo) (q_P D dA q_kdC q_rhoC 77 z sz μ) (q_A z 77)) 0 0 (q_A z 77) := by
  refine Met.ofW (cc := cX2_room) (maxL := 5) (ret := (some .int)) (by decide) rfl ?_
  intro p e s m args below meth c s₁ B hml hv
  obtain ⟨hargs, hP, hK⟩ := hv
  have hx := B.exec
  have hb := B.bytes
  have hr := B.returns
  have hts : ∀ w ∈ q_W, w.before args s = true := fun w hw => atoms_spec (ws := q_wc yX2_room cX2_room 5 (some .int)) B.pre w (List.mem_cons_of_mem _ hw)
  have hown : s.vm.findClass RX2 = some m.cls := findClass_of_methodNamed B.named
  have hlocks := B.notSynchronized
  have hS : va_S (q_A z 77) s.heap s.heap [] := va_S.rf
  have hA : ∀ k, k < 77 → q_A z 77 (z + k) := fun k hk => ⟨Nat.le_add_right z k, Nat.add_lt_add_left hk z⟩
  have hl := lv_entry [.ref (z + o), .int (q_I a0), .int (q_I a1)] (n := 5) (Nat.le_of_ble_eq_true rfl)
  refine W.eq (by rw [hargs, lg_entry_eq]) ?_
  generalize (lg_sl [.ref (z + o), .int (q_I a0), .int (q_I a1)] ++ List.replicate (5 - (lg_sl [.ref (z + o), .int (q_I a0), .int (q_I a1)]).length) Slot.unset).toArray = ls at hl ⊢
  have hl : lv_has ls 5 [(0, .ref (z + o)), (1, .int (q_I a0)), (2, .int (q_I a1))] := hl
  generalize hQ : MQ below _ args s 0 0 _ = Qf
  change W p l e ({ frames := 1, cells := 0, slots := 0, locals := 21 } : Room) s m args below meth c s.heap [] 0 0 Qf (F0 m 0 ls [])
  unfold f_Fl_room at h
  refine lv_iload_n hx hb dX2_room_0 rfl (lv_at hl 2 rfl) ?_
  refine lv_iload_n hx hb dX2_room_1 rfl (lv_at hl 1 rfl) ?_
  obtain ⟨x2, hv1, h⟩ := q_b_some h
  refine q_callS hx hb hml hts hown hK hP hS (As := [.int (q_I a1), .int (q_I a0)]) (rest := []) (st1 := [.int (q_I x2)]) cs_RX2_34 (c_Fl_arc l D dA ra1 ra0 hv1) ⟨rfl, rfl, Nat.le_of_ble_eq_true rfl, Nat.le_of_ble_eq_true rfl⟩ ⟨Nat.le_refl _, Nat.le_refl _⟩ rfl hl.1 rfl (Nat.le_of_ble_eq_true rfl) rfl (fun _ g => g) dX2_room_2 ?_
  clear hP hS hv1; intro H locs r2 hP hS _
  refine lv_istore_n (lv' := [(3, .int (q_I x2)), (0, .ref (z + o)), (1, .int (q_I a0)), (2, .int (q_I a1))]) hx hb dX2_room_5 rfl hl (by decide) rfl ?_
  clear hl; intro ls hl
  refine lv_iload_n hx hb dX2_room_6 rfl (lv_at hl 2 rfl) ?_
  refine lv_iload_n hx hb dX2_room_7 rfl (lv_at hl 3 rfl) ?_
  obtain ⟨x4, hv3, h⟩ := q_b_some h
  refine q_callS hx hb hml hts hown hK hP hS (As := [.int (q_I a0), .int (q_I a1)]) (rest := []) (st1 := [.int (q_I x4)]) cs_RX2_34 (c_Fl_arc l D dA ra0 ra1 hv3) ⟨rfl, rfl, Nat.le_of_ble_eq_true rfl, Nat.le_of_ble_eq_true rfl⟩ ⟨Nat.le_refl _, Nat.le_refl _⟩ rfl hl.1 rfl (Nat.le_of_ble_eq_true rfl) rfl (fun _ g => g) dX2_room_8 ?_
  clear hP hS hv3; intro H locs r4 hP hS _
  refine lv_istore (lv' := [(4, .int (q_I x4)), (3, .int (q_I x2)), (0, .ref (z + o)), (1, .int (q_I a0)), (2, .int (q_I a1))]) hx hb dX2_room_11 hl (by decide) rfl ?_
  clear hl; intro ls hl
  refine lv_aload_n hx hb dX2_room_13 rfl (lv_at hl 2 rfl) ?_
  refine lv_iload_n hx hb dX2_room_14 rfl (lv_at hl 1 rfl) ?_
  obtain ⟨x6, hv5, h⟩ := q_b_some h
  refine q_callV hx hb hml hts hown hK hP hS (As := [.int (q_I x2)]) (rest := []) (st1 := [.int (q_I x6)]) cv_RX2_119 (c_Fl_canTakeBack l D dA ho r2 hv5) (q_ltF0 ho) (q_kdF_0 ho) rfl ⟨rfl, rfl, Nat.le_of_ble_eq_true rfl, Nat.le_of_ble_eq_true rfl⟩ ⟨Nat.le_refl _, Nat.le_refl _⟩ rfl hl.1 rfl (Nat.le_of_ble_eq_true rfl) rfl (fun _ g => g) dX2_room_15 ?_
  clear hP hS hv5; intro H locs r6 hP hS _
  refine q_jn_in h (fun J => ∀ (x7 : Int) (H : Heap) (locs : List Loc) (ls : Array Slot), q_R x7 → q_P D dA q_kdC q_rhoC 77 z sz μ H → va_S (q_A z 77) s.heap H locs → lv_has ls 5 [] → J x7 = some xo → W p l e ({ frames := 1, cells := 0, slots := 0, locals := 21 } : Room) s m args below meth c H locs 0 0 Qf (F0 m 52 ls [.int (q_I x7)])) ?_ ?_
  · clear h hl hP hS; intro x7 H locs ls r7 hP hS hl h
    rw [← hQ]
    exact q_ret1 hx hb hr hlocks hP hS r7 h dX2_room_52
  · clear h; intro j52 hj52 h
    refine q_zeq hx hb r6 (tgt := 37) dX2_room_18 (by decide) h ?_ ?_
    · clear h; intro g14 h
      refine lv_aload_n hx hb dX2_room_37 rfl (lv_at hl 2 rfl) ?_
      refine q_getR hx hb hts hown hK hP fd_RX2_18 (q_ltF0 ho) (q_kdF_0 ho) rfl (q_rhF_0_2 ho) dX2_room_38 ?_
      refine lv_iload hx hb dX2_room_41 (lv_at hl 0 rfl) ?_
      refine q_iald hx hb hK hP (q_ltF ho rfl) (q_kdF_3 ho) r4 dX2_room_43 h ?_
      clear h; intro x8 r8 h
      refine lv_aload_n hx hb dX2_room_44 rfl (lv_at hl 2 rfl) ?_
      refine q_getR hx hb hts hown hK hP fd_RX2_11 (q_ltF0 ho) (q_kdF_0 ho) rfl (q_rhF_0_0 ho) dX2_room_45 ?_
      refine lv_iload hx hb dX2_room_48 (lv_at hl 0 rfl) ?_
      refine q_iald hx hb hK hP (q_ltF ho rfl) (q_kdF_1 ho) r4 dX2_room_50 h ?_
      clear h; intro x9 r9 h
      refine q_isub hx hb dX2_room_51 h ?_
      clear h; intro x10 r10 h
      exact hj52 x10 _ _ _ r10 hP hS (lv_sub hl [] rfl) h
    · clear h; intro g14 h
      refine lv_aload_n hx hb dX2_room_21 rfl (lv_at hl 2 rfl) ?_
      refine q_getR hx hb hts hown hK hP fd_RX2_11 (q_ltF0 ho) (q_kdF_0 ho) rfl (q_rhF_0_0 ho) dX2_room_22 ?_
      refine lv_iload_n hx hb dX2_room_25 rfl (lv_at hl 1 rfl) ?_
      refine q_iald hx hb hK hP (q_ltF ho rfl) (q_kdF_1 ho) r2 dX2_room_26 h ?_
      clear h; intro x11 r11 h
      refine lv_aload_n hx hb dX2_room_27 rfl (lv_at hl 2 rfl) ?_
      refine q_getR hx hb hts hown hK hP fd_RX2_15 (q_ltF0 ho) (q_kdF_0 ho) rfl (q_rhF_0_1 ho) dX2_room_28 ?_
      refine lv_iload_n hx hb dX2_room_31 rfl (lv_at hl 1 rfl) ?_
      refine q_iald hx hb hK hP (q_ltF ho rfl) (q_kdF_2 ho) r2 dX2_room_32 h ?_
      clear h; intro x12 r12 h
      refine q_isub hx hb dX2_room_33 h ?_
      clear h; intro x13 r13 h
      refine lv_goto (tgt := 52) hx hb dX2_room_34 (by decide) ?_
      exact hj52 x13 _ _ _ r13 hP hS (lv_sub hl [] rfl) h
set_option maxHeartbeats 4000000 in
set_option maxRecDepth 100000 in
theorem c_Fl_price (l : Launch) (D : va_G) (dA : Nat → ClassId) {z sz : Nat} {o : Nat} (ho : o = 61 ∨ o = 69) {a0 : Int} (ra0 : q_R a0) {a1 : Int} (ra1 : q_R a1) {μ : q_M} {xo : Int} (h : f_Fl_price o a0 a1 μ = some xo) : Met l yX2_price (q_wc yX2_price cX2_price 4 (some .long)) ({ frames := 1, cells := 0, slots := 0, locals := 21 } : Room) (va_Pc [.ref (z + o), .int (q_I a0), .int (q_I a1)] (q_B (q_P D dA q_kdC q_rhoC 77 z sz μ) D dA)) (q_Q (some (.long (q_J xo))) (q_S xo) (q_P D dA q_kdC q_rhoC 77 z sz μ) (q_A z 77)) 0 0 (q_A z 77) := by
  refine Met.ofW (cc := cX2_price) (maxL := 4) (ret := (some .long)) (by decide) rfl ?_
  intro p e s m args below meth c s₁ B hml hv
  obtain ⟨hargs, hP, hK⟩ := hv
  have hx := B.exec
  have hb := B.bytes
  have hr := B.returns
  have hts : ∀ w ∈ q_W, w.before args s = true := fun w hw => atoms_spec (ws := q_wc yX2_price cX2_price 4 (some .long)) B.pre w (List.mem_cons_of_mem _ hw)
  have hown : s.vm.findClass RX2 = some m.cls := findClass_of_methodNamed B.named
  have hlocks := B.notSynchronized
  have hS : va_S (q_A z 77) s.heap s.heap [] := va_S.rf
  have hA : ∀ k, k < 77 → q_A z 77 (z + k) := fun k hk => ⟨Nat.le_add_right z k, Nat.add_lt_add_left hk z⟩
  have hl := lv_entry [.ref (z + o), .int (q_I a0), .int (q_I a1)] (n := 4) (Nat.le_of_ble_eq_true rfl)
  refine W.eq (by rw [hargs, lg_entry_eq]) ?_
  generalize (lg_sl [.ref (z + o), .int (q_I a0), .int (q_I a1)] ++ List.replicate (4 - (lg_sl [.ref (z + o), .int (q_I a0), .int (q_I a1)]).length) Slot.unset).toArray = ls at hl ⊢
  have hl : lv_has ls 4 [(0, .ref (z + o)), (1, .int (q_I a0)), (2, .int (q_I a1))] := hl
  generalize hQ : MQ below _ args s 0 0 _ = Qf
  change W p l e ({ frames := 1, cells := 0, slots := 0, locals := 21 } : Room) s m args below meth c s.heap [] 0 0 Qf (F0 m 0 ls [])
  unfold f_Fl_price at h
  refine lv_iload_n hx hb dX2_price_0 rfl (lv_at hl 2 rfl) ?_
  refine lv_iload_n hx hb dX2_price_1 rfl (lv_at hl 1 rfl) ?_
  obtain ⟨x2, hv1, h⟩ := q_b_some h
  refine q_callS hx hb hml hts hown hK hP hS (As := [.int (q_I a1), .int (q_I a0)]) (rest := []) (st1 := [.int (q_I x2)]) cs_RX2_34 (c_Fl_arc l D dA ra1 ra0 hv1) ⟨rfl, rfl, Nat.le_of_ble_eq_true rfl, Nat.le_of_ble_eq_true rfl⟩ ⟨Nat.le_refl _, Nat.le_refl _⟩ rfl hl.1 rfl (Nat.le_of_ble_eq_true rfl) rfl (fun _ g => g) dX2_price_2 ?_
  clear hP hS hv1; intro H locs r2 hP hS _
  refine lv_istore_n (lv' := [(3, .int (q_I x2)), (0, .ref (z + o)), (1, .int (q_I a0)), (2, .int (q_I a1))]) hx hb dX2_price_5 rfl hl (by decide) rfl ?_
  clear hl; intro ls hl
  refine lv_aload_n hx hb dX2_price_6 rfl (lv_at hl 1 rfl) ?_
  refine lv_iload_n hx hb dX2_price_7 rfl (lv_at hl 0 rfl) ?_
  obtain ⟨x4, hv3, h⟩ := q_b_some h
  refine q_callV hx hb hml hts hown hK hP hS (As := [.int (q_I x2)]) (rest := []) (st1 := [.int (q_I x4)]) cv_RX2_119 (c_Fl_canTakeBack l D dA ho r2 hv3) (q_ltF0 ho) (q_kdF_0 ho) rfl ⟨rfl, rfl, Nat.le_of_ble_eq_true rfl, Nat.le_of_ble_eq_true rfl⟩ ⟨Nat.le_refl _, Nat.le_refl _⟩ rfl hl.1 rfl (Nat.le_of_ble_eq_true rfl) rfl (fun _ g => g) dX2_price_8 ?_
  clear hP hS hv3; intro H locs r4 hP hS _
  refine q_jn_in h (fun J => ∀ (x5 : Int) (H : Heap) (locs : List Loc) (ls : Array Slot), q_S x5 → q_P D dA q_kdC q_rhoC 77 z sz μ H → va_S (q_A z 77) s.heap H locs → lv_has ls 4 [] → J x5 = some xo → W p l e ({ frames := 1, cells := 0, slots := 0, locals := 21 } : Room) s m args below meth c H locs 0 0 Qf (F0 m 34 ls [.long (q_J x5)])) ?_ ?_
  · clear h hl hP hS; intro x5 H locs ls r5 hP hS hl h
    rw [← hQ]
    exact q_retl hx hb hr hlocks hP hS r5 h dX2_price_34
  · clear h; intro j34 hj34 h
    refine q_zeq hx hb r4 (tgt := 24) dX2_price_11 (by decide) h ?_ ?_
    · clear h; intro g11 h
      refine lv_aload_n hx hb dX2_price_24 rfl (lv_at hl 1 rfl) ?_
      refine q_getR hx hb hts hown hK hP fd_RX2_21 (q_ltF0 ho) (q_kdF_0 ho) rfl (q_rhF_0_3 ho) dX2_price_25 ?_
      refine lv_iload_n hx hb dX2_price_28 rfl (lv_at hl 2 rfl) ?_
      refine lv_iload_n hx hb dX2_price_29 rfl (lv_at hl 3 rfl) ?_
      obtain ⟨x7, hv6, h⟩ := q_b_some h
      refine q_callS hx hb hml hts hown hK hP hS (As := [.int (q_I a0), .int (q_I a1)]) (rest := [.ref (z + (o + 4))]) (st1 := [.int (q_I x7), .ref (z + (o + 4))]) cs_RX2_34 (c_Fl_arc l D dA ra0 ra1 hv6) ⟨rfl, rfl, Nat.le_of_ble_eq_true rfl, Nat.le_of_ble_eq_true rfl⟩ ⟨Nat.le_refl _, Nat.le_refl _⟩ rfl hl.1 rfl (Nat.le_of_ble_eq_true rfl) rfl (fun _ g => g) dX2_price_30 ?_
      clear hP hS hv6; intro H locs r7 hP hS _
      refine q_lald hx hb hK hP (q_ltF ho rfl) (q_kdF_4 ho) r7 dX2_price_33 h ?_
      clear h; intro x8 r8 h
      exact hj34 x8 _ _ _ r8 hP hS (lv_sub hl [] rfl) h
    · clear h; intro g11 h
      refine lv_aload_n hx hb dX2_price_14 rfl (lv_at hl 1 rfl) ?_
      refine q_getR hx hb hts hown hK hP fd_RX2_21 (q_ltF0 ho) (q_kdF_0 ho) rfl (q_rhF_0_3 ho) dX2_price_15 ?_
      refine lv_iload_n hx hb dX2_price_18 rfl (lv_at hl 0 rfl) ?_
      refine q_lald hx hb hK hP (q_ltF ho rfl) (q_kdF_4 ho) r2 dX2_price_19 h ?_
      clear h; intro x9 r9 h
      refine q_lneg hx hb dX2_price_20 h ?_
      clear h; intro x10 r10 h
      refine lv_goto (tgt := 34) hx hb dX2_price_21 (by decide) ?_
      exact hj34 x10 _ _ _ r10 hP hS (lv_sub hl [] rfl) h
set_option maxHeartbeats 4000000 in
set_option maxRecDepth 100000 in
theorem c_Fl_shortenFrom (l : Launch) (D : va_G) (dA : Nat → ClassId) {z sz : Nat} {N : Nat} {o : Nat} (ho : o = 61 ∨ o = 69) {a0 : Int} (ra0 : q_R a0) {μ : q_M} {xo : Int} {μo : q_M} (h : f_Fl_shortenFrom N o a0 μ = some (xo, μo)) : Met l yX2_shortenFrom (q_wc yX2_shortenFrom cX2_shortenFrom 4 (some .boolean)) ({ frames := 2, cells := 0, slots := 0, locals := 45 } : Room) (va_Pc [.ref (z + o), .int (q_I a0)] (q_B (q_P D dA q_kdC q_rhoC 77 z sz μ) D dA)) (q_Q (some (.int (q_I xo))) (q_R xo) (q_P D dA q_kdC q_rhoC 77 z sz μo) (q_A z 77)) 0 0 (q_A z 77) := by
  refine Met.ofW (cc := cX2_shortenFrom) (maxL := 4) (ret := (some .boolean)) (by decide) rfl ?_
  intro p e s m args below meth c s₁ B hml hv
  obtain ⟨hargs, hP, hK⟩ := hv
  have hx := B.exec
  have hb := B.bytes
  have hr := B.returns
  have hts : ∀ w ∈ q_W, w.before args s = true := fun w hw => atoms_spec (ws := q_wc yX2_shortenFrom cX2_shortenFrom 4 (some .boolean)) B.pre w (List.mem_cons_of_mem _ hw)
  have hown : s.vm.findClass RX2 = some m.cls := findClass_of_methodNamed B.named
  have hlocks := B.notSynchronized
  have hS : va_S (q_A z 77) s.heap s.heap [] := va_S.rf
  have hA : ∀ k, k < 77 → q_A z 77 (z + k) := fun k hk => ⟨Nat.le_add_right z k, Nat.add_lt_add_left hk z⟩
  have hl := lv_entry [.ref (z + o), .int (q_I a0)] (n := 4) (Nat.le_of_ble_eq_true rfl)
  refine W.eq (by rw [hargs, lg_entry_eq]) ?_
  generalize (lg_sl [.ref (z + o), .int (q_I a0)] ++ List.replicate (4 - (lg_sl [.ref (z + o), .int (q_I a0)]).length) Slot.unset).toArray = ls at hl ⊢
  have hl : lv_has ls 4 [(0, .ref (z + o)), (1, .int (q_I a0))] := hl
  generalize hQ : MQ below _ args s 0 0 _ = Qf
  change W p l e ({ frames := 2, cells := 0, slots := 0, locals := 45 } : Room) s m args below meth c s.heap [] 0 0 Qf (F0 m 0 ls [])
  unfold f_Fl_shortenFrom at h
  refine lv_iconst (v := q_I 0) hx hb dX2_shortenFrom_0 rfl ?_
  refine lv_istore_n (lv' := [(2, .int (q_I 0)), (0, .ref (z + o)), (1, .int (q_I a0))]) hx hb dX2_shortenFrom_1 rfl hl (by decide) rfl ?_
  clear hl; intro ls hl
  refine lv_iconst (v := q_I 0) hx hb dX2_shortenFrom_2 rfl ?_
  refine lv_istore_n (lv' := [(3, .int (q_I 0)), (2, .int (q_I 0)), (0, .ref (z + o)), (1, .int (q_I a0))]) hx hb dX2_shortenFrom_3 rfl hl (by decide) rfl ?_
  clear hl; intro ls hl
  have L4 : ∀ (k81 : Int → q_M → Option (Int × q_M)), (∀ (x4 : Int) (μ5 : q_M) (H : Heap) (locs : List Loc) (ls : Array Slot), q_R x4 → q_P D dA q_kdC q_rhoC 77 z sz μ5 H → va_S (q_A z 77) s.heap H locs → lv_has ls 4 [(2, .int (q_I x4))] → k81 x4 μ5 = some (xo, μo) → W p l e ({ frames := 2, cells := 0, slots := 0, locals := 45 } : Room) s m args below meth c H locs 0 0 Qf (F0 m 81 ls [])) → ∀ (nf4 : Nat) (x1 : Int) (x2 : Int) (μ3 : q_M) (H : Heap) (locs : List Loc) (ls : Array Slot), q_R x1 → q_R x2 → q_P D dA q_kdC q_rhoC 77 z sz μ3 H → va_S (q_A z 77) s.heap H locs → lv_has ls 4 [(0, .ref (z + o)), (1, .int (q_I a0)), (2, .int (q_I x1)), (3, .int (q_I x2))] → f_Fl_shortenFrom_L4 o a0 k81 nf4 x1 x2 μ3 = some (xo, μo) → W p l e ({ frames := 2, cells := 0, slots := 0, locals := 45 } : Room) s m args below meth c H locs 0 0 Qf (F0 m 4 ls []) := by
    clear h hl hP hS
    intro k81 hk81 nf4
    induction nf4 with
    | zero =>
      intro x1 x2 μ3 H locs ls r1 r2 hP hS hl h
      rw [f_Fl_shortenFrom_L4] at h
      cases h
    | succ nf4 ih4 =>
      intro x1 x2 μ3 H locs ls r1 r2 hP hS hl h
      rw [f_Fl_shortenFrom_L4] at h
      refine lv_iload_n hx hb dX2_shortenFrom_4 rfl (lv_at hl 3 rfl) ?_
      refine lv_bipush (v := q_I 7) hx hb dX2_shortenFrom_5 (by decide) ?_
      refine q_cge hx hb r2 (q_r 7 rfl) (tgt := 81) dX2_shortenFrom_7 (by decide) h ?_ ?_
      · clear h; intro g26 h
        exact hk81 x1 μ3 _ _ _ r1 hP hS (lv_sub hl [2] rfl) h
      · clear h; intro g26 h
        refine lv_iload_n hx hb dX2_shortenFrom_10 rfl (lv_at hl 3 rfl) ?_
        refine lv_iload_n hx hb dX2_shortenFrom_11 rfl (lv_at hl 1 rfl) ?_
        refine q_jn_in h (fun J => ∀ (x6 : Int) (μ7 : q_M) (H : Heap) (locs : List Loc) (ls : Array Slot), q_R x6 → q_P D dA q_kdC q_rhoC 77 z sz μ7 H → va_S (q_A z 77) s.heap H locs → lv_has ls 4 [(0, .ref (z + o)), (1, .int (q_I a0)), (2, .int (q_I x6)), (3, .int (q_I x2))] → J x6 μ7 = some (xo, μo) → W p l e ({ frames := 2, cells := 0, slots := 0, locals := 45 } : Room) s m args below meth c H locs 0 0 Qf (F0 m 75 ls [])) ?_ ?_
        · clear h hl hP hS; intro x6 μ7 H locs ls r6 hP hS hl h
          refine q_iinc (k := 3) (lv' := fun t => [(3, .int (q_I t)), (0, .ref (z + o)), (1, .int (q_I a0)), (2, .int (q_I x6))]) hx hb dX2_shortenFrom_75 hl rfl (by decide) (fun _ => rfl) h ?_
          clear h hl; intro x8 ls r8 hl h
          refine lv_goto (tgt := 4) hx hb dX2_shortenFrom_78 (by decide) ?_
          exact ih4 x6 x8 μ7 _ _ _ r6 r8 hP hS (lv_sub hl [1, 2, 3, 0] rfl) h
        · clear h; intro j75 hj75 h
          refine q_ceq hx hb r2 ra0 (tgt := 75) dX2_shortenFrom_12 (by decide) h ?_ ?_
          · clear h; intro g25 h
            exact hj75 x1 μ3 _ _ _ r1 hP hS (lv_sub hl [0, 1, 2, 3] rfl) h
          · clear h; intro g25 h
            refine lv_aload_n hx hb dX2_shortenFrom_15 rfl (lv_at hl 0 rfl) ?_
            refine lv_iload_n hx hb dX2_shortenFrom_16 rfl (lv_at hl 1 rfl) ?_
            refine lv_iload_n hx hb dX2_shortenFrom_17 rfl (lv_at hl 3 rfl) ?_
            obtain ⟨x10, hv9, h⟩ := q_b_some h
            refine q_callV hx hb hml hts hown hK hP hS (As := [.int (q_I a0), .int (q_I x2)]) (rest := []) (st1 := [.int (q_I x10)]) cv_RX2_109 (c_Fl_room l D dA ho ra0 r2 hv9) (q_ltF0 ho) (q_kdF_0 ho) rfl ⟨rfl, rfl, Nat.le_of_ble_eq_true rfl, Nat.le_of_ble_eq_true rfl⟩ ⟨Nat.le_refl _, Nat.le_refl _⟩ rfl hl.1 rfl (Nat.le_of_ble_eq_true rfl) rfl (fun _ g => g) dX2_shortenFrom_18 ?_
            clear hP hS hv9; intro H locs r10 hP hS _
            refine q_zle hx hb r10 (tgt := 75) dX2_shortenFrom_21 (by decide) h ?_ ?_
            · clear h; intro g24 h
              exact hj75 x1 μ3 _ _ _ r1 hP hS (lv_sub hl [0, 1, 2, 3] rfl) h
            · clear h; intro g24 h
              refine lv_aload_n hx hb dX2_shortenFrom_24 rfl (lv_at hl 0 rfl) ?_
              refine q_getR hx hb hts hown hK hP fd_RX2_28 (q_ltF0 ho) (q_kdF_0 ho) rfl (q_rhF_0_5 ho) dX2_shortenFrom_25 ?_
              refine lv_iload_n hx hb dX2_shortenFrom_28 rfl (lv_at hl 1 rfl) ?_
              refine q_lald hx hb hK hP (q_ltF ho rfl) (q_kdF_6 ho) ra0 dX2_shortenFrom_29 h ?_
              clear h; intro x11 r11 h
              refine lv_aload_n hx hb dX2_shortenFrom_30 rfl (lv_at hl 0 rfl) ?_
              refine lv_iload_n hx hb dX2_shortenFrom_31 rfl (lv_at hl 1 rfl) ?_
              refine lv_iload_n hx hb dX2_shortenFrom_32 rfl (lv_at hl 3 rfl) ?_
              obtain ⟨x13, hv12, h⟩ := q_b_some h
              refine q_callV hx hb hml hts hown hK hP hS (As := [.int (q_I a0), .int (q_I x2)]) (rest := [.long (q_J x11)]) (st1 := [.long (q_J x13), .long (q_J x11)]) cv_RX2_112 (c_Fl_price l D dA ho ra0 r2 hv12) (q_ltF0 ho) (q_kdF_0 ho) rfl ⟨rfl, rfl, Nat.le_of_ble_eq_true rfl, Nat.le_of_ble_eq_true rfl⟩ ⟨Nat.le_refl _, Nat.le_refl _⟩ rfl hl.1 rfl (Nat.le_of_ble_eq_true rfl) rfl (fun _ g => g) dX2_shortenFrom_33 ?_
              clear hP hS hv12; intro H locs r13 hP hS _
              refine q_ladd hx hb dX2_shortenFrom_36 h ?_
              clear h; intro x14 r14 h
              refine lv_aload_n hx hb dX2_shortenFrom_37 rfl (lv_at hl 0 rfl) ?_
              refine q_getR hx hb hts hown hK hP fd_RX2_28 (q_ltF0 ho) (q_kdF_0 ho) rfl (q_rhF_0_5 ho) dX2_shortenFrom_38 ?_
              refine lv_iload_n hx hb dX2_shortenFrom_41 rfl (lv_at hl 3 rfl) ?_
              refine q_lald hx hb hK hP (q_ltF ho rfl) (q_kdF_6 ho) r2 dX2_shortenFrom_42 h ?_
              clear h; intro x15 r15 h
              refine q_lcmp hx hb r14 r15 dX2_shortenFrom_43 h ?_
              clear h; intro x16 r16 h
              refine q_zge hx hb r16 (tgt := 75) dX2_shortenFrom_44 (by decide) h ?_ ?_
              · clear h; intro g23 h
                exact hj75 x1 μ3 _ _ _ r1 hP hS (lv_sub hl [0, 1, 2, 3] rfl) h
              · clear h; intro g23 h
                refine lv_aload_n hx hb dX2_shortenFrom_47 rfl (lv_at hl 0 rfl) ?_
                refine q_getR hx hb hts hown hK hP fd_RX2_28 (q_ltF0 ho) (q_kdF_0 ho) rfl (q_rhF_0_5 ho) dX2_shortenFrom_48 ?_
                refine lv_iload_n hx hb dX2_shortenFrom_51 rfl (lv_at hl 3 rfl) ?_
                refine lv_aload_n hx hb dX2_shortenFrom_52 rfl (lv_at hl 0 rfl) ?_
                refine q_getR hx hb hts hown hK hP fd_RX2_28 (q_ltF0 ho) (q_kdF_0 ho) rfl (q_rhF_0_5 ho) dX2_shortenFrom_53 ?_
                refine lv_iload_n hx hb dX2_shortenFrom_56 rfl (lv_at hl 1 rfl) ?_
                refine q_lald hx hb hK hP (q_ltF ho rfl) (q_kdF_6 ho) ra0 dX2_shortenFrom_57 h ?_
                clear h; intro x17 r17 h
                refine lv_aload_n hx hb dX2_shortenFrom_58 rfl (lv_at hl 0 rfl) ?_
                refine lv_iload_n hx hb dX2_shortenFrom_59 rfl (lv_at hl 1 rfl) ?_
                refine lv_iload_n hx hb dX2_shortenFrom_60 rfl (lv_at hl 3 rfl) ?_
                obtain ⟨x19, hv18, h⟩ := q_b_some h
                refine q_callV hx hb hml hts hown hK hP hS (As := [.int (q_I a0), .int (q_I x2)]) (rest := [.long (q_J x17), .int (q_I x2), .ref (z + (o + 6))]) (st1 := [.long (q_J x19), .long (q_J x17), .int (q_I x2), .ref (z + (o + 6))]) cv_RX2_112 (c_Fl_price l D dA ho ra0 r2 hv18) (q_ltF0 ho) (q_kdF_0 ho) rfl ⟨rfl, rfl, Nat.le_of_ble_eq_true rfl, Nat.le_of_ble_eq_true rfl⟩ ⟨Nat.le_refl _, Nat.le_refl _⟩ rfl hl.1 rfl (Nat.le_of_ble_eq_true rfl) rfl (fun _ g => g) dX2_shortenFrom_61 ?_
                clear hP hS hv18; intro H locs r19 hP hS _
                refine q_ladd hx hb dX2_shortenFrom_64 h ?_
                clear h; intro x20 r20 h
                refine q_last hx hb hK hP hS hA (q_ltF ho rfl) (q_kdF_6 ho) r2 r20 dX2_shortenFrom_65 h ?_
                clear h hP hS; intro μ21 H locs hP hS h
                refine lv_aload_n hx hb dX2_shortenFrom_66 rfl (lv_at hl 0 rfl) ?_
                refine q_getR hx hb hts hown hK hP fd_RX2_31 (q_ltF0 ho) (q_kdF_0 ho) rfl (q_rhF_0_6 ho) dX2_shortenFrom_67 ?_
                refine lv_iload_n hx hb dX2_shortenFrom_70 rfl (lv_at hl 3 rfl) ?_
                refine lv_iload_n hx hb dX2_shortenFrom_71 rfl (lv_at hl 1 rfl) ?_
                refine q_iast hx hb hK hP hS hA (q_ltF ho rfl) (q_kdF_7 ho) r2 ra0 dX2_shortenFrom_72 h ?_
                clear h hP hS; intro μ22 H locs hP hS h
                refine lv_iconst (v := q_I 1) hx hb dX2_shortenFrom_73 rfl ?_
                refine lv_istore_n (lv' := [(2, .int (q_I 1)), (0, .ref (z + o)), (1, .int (q_I a0)), (3, .int (q_I x2))]) hx hb dX2_shortenFrom_74 rfl hl (by decide) rfl ?_
                clear hl; intro ls hl
                exact hj75 1 μ22 _ _ _ (q_r 1 rfl) hP hS (lv_sub hl [1, 2, 0, 3] rfl) h
  refine L4 _ ?_  _ 0 0 μ _ _ _ (q_r 0 rfl) (q_r 0 rfl) hP hS (lv_sub hl [2, 3, 1, 0] rfl) h
  · clear h hl hP hS; intro x4 μ5 H locs ls r4 hP hS hl h
    refine lv_iload_n hx hb dX2_shortenFrom_81 rfl (lv_at hl 0 rfl) ?_
    rw [← hQ]
    obtain ⟨hz, h⟩ := q_rz_some h
    exact q_retz2 hx hb hr hlocks hP hS hz h dX2_shortenFrom_82
set_option maxHeartbeats 4000000 in
set_option maxRecDepth 100000 in
theorem c_Fl_findWays (l : Launch) (D : va_G) (dA : Nat → ClassId) {z sz : Nat} {N : Nat} {o : Nat} (ho : o = 61 ∨ o = 69) {μ : q_M} {μo : q_M} (h : f_Fl_findWays N o μ = some μo) : Met l yX2_findWays (q_wc yX2_findWays cX2_findWays 4 none) ({ frames := 3, cells := 0, slots := 0, locals := 68 } : Room) (va_Pc [.ref (z + o)] (q_B (q_P D dA q_kdC q_rhoC 77 z sz μ) D dA)) (q_Q none True (q_P D dA q_kdC q_rhoC 77 z sz μo) (q_A z 77)) 0 0 (q_A z 77) := by
  refine Met.ofW (cc := cX2_findWays) (maxL := 4) (ret := none) (by decide) rfl ?_
  intro p e s m args below meth c s₁ B hml hv
  obtain ⟨hargs, hP, hK⟩ := hv
  have hx := B.exec
  have hb := B.bytes
  have hr := B.returns
  have hts : ∀ w ∈ q_W, w.before args s = true := fun w hw => atoms_spec (ws := q_wc yX2_findWays cX2_findWays 4 none) B.pre w (List.mem_cons_of_mem _ hw)
  have hown : s.vm.findClass RX2 = some m.cls := findClass_of_methodNamed B.named
  have hlocks := B.notSynchronized
  have hS : va_S (q_A z 77) s.heap s.heap [] := va_S.rf
  have hA : ∀ k, k < 77 → q_A z 77 (z + k) := fun k hk => ⟨Nat.le_add_right z k, Nat.add_lt_add_left hk z⟩
  have hl := lv_entry [.ref (z + o)] (n := 4) (Nat.le_of_ble_eq_true rfl)
  refine W.eq (by rw [hargs, lg_entry_eq]) ?_
  generalize (lg_sl [.ref (z + o)] ++ List.replicate (4 - (lg_sl [.ref (z + o)]).length) Slot.unset).toArray = ls at hl ⊢
  have hl : lv_has ls 4 [(0, .ref (z + o))] := hl
  generalize hQ : MQ below _ args s 0 0 _ = Qf
  change W p l e ({ frames := 3, cells := 0, slots := 0, locals := 68 } : Room) s m args below meth c s.heap [] 0 0 Qf (F0 m 0 ls [])
  unfold f_Fl_findWays at h
  refine lv_iconst (v := q_I 0) hx hb dX2_findWays_0 rfl ?_
  refine lv_istore_n (lv' := [(1, .int (q_I 0)), (0, .ref (z + o))]) hx hb dX2_findWays_1 rfl hl (by decide) rfl ?_
  clear hl; intro ls hl
  have L2 : ∀ (k43 : q_M → Option q_M), (∀ (μ3 : q_M) (H : Heap) (locs : List Loc) (ls : Array Slot), q_P D dA q_kdC q_rhoC 77 z sz μ3 H → va_S (q_A z 77) s.heap H locs → lv_has ls 4 [(0, .ref (z + o))] → k43 μ3 = some μo → W p l e ({ frames := 3, cells := 0, slots := 0, locals := 68 } : Room) s m args below meth c H locs 0 0 Qf (F0 m 43 ls [])) → ∀ (nf2 : Nat) (x1 : Int) (μ2 : q_M) (H : Heap) (locs : List Loc) (ls : Array Slot), q_R x1 → q_P D dA q_kdC q_rhoC 77 z sz μ2 H → va_S (q_A z 77) s.heap H locs → lv_has ls 4 [(0, .ref (z + o)), (1, .int (q_I x1))] → f_Fl_findWays_L2 o k43 nf2 x1 μ2 = some μo → W p l e ({ frames := 3, cells := 0, slots := 0, locals := 68 } : Room) s m args below meth c H locs 0 0 Qf (F0 m 2 ls []) := by
    clear h hl hP hS
    intro k43 hk43 nf2
    induction nf2 with
    | zero =>
      intro x1 μ2 H locs ls r1 hP hS hl h
      rw [f_Fl_findWays_L2] at h
      cases h
    | succ nf2 ih2 =>
      intro x1 μ2 H locs ls r1 hP hS hl h
      rw [f_Fl_findWays_L2] at h
      refine lv_iload_n hx hb dX2_findWays_2 rfl (lv_at hl 1 rfl) ?_
      refine lv_bipush (v := q_I 7) hx hb dX2_findWays_3 (by decide) ?_
      refine q_cge hx hb r1 (q_r 7 rfl) (tgt := 43) dX2_findWays_5 (by decide) h ?_ ?_
      · clear h; intro g10 h
        exact hk43 μ2 _ _ _ hP hS (lv_sub hl [0] rfl) h
      · clear h; intro g10 h
        refine lv_aload_n hx hb dX2_findWays_8 rfl (lv_at hl 0 rfl) ?_
        refine q_getR hx hb hts hown hK hP fd_RX2_28 (q_ltF0 ho) (q_kdF_0 ho) rfl (q_rhF_0_5 ho) dX2_findWays_9 ?_
        refine lv_iload_n hx hb dX2_findWays_12 rfl (lv_at hl 1 rfl) ?_
        refine lv_aload_n hx hb dX2_findWays_13 rfl (lv_at hl 0 rfl) ?_
        refine q_getR hx hb hts hown hK hP fd_RX2_25 (q_ltF0 ho) (q_kdF_0 ho) rfl (q_rhF_0_4 ho) dX2_findWays_14 ?_
        refine lv_iload_n hx hb dX2_findWays_17 rfl (lv_at hl 1 rfl) ?_
        refine q_iald hx hb hK hP (q_ltF ho rfl) (q_kdF_5 ho) r1 dX2_findWays_18 h ?_
        clear h; intro x4 r4 h
        refine q_jn_in h (fun J => ∀ (x5 : Int) (H : Heap) (locs : List Loc) (ls : Array Slot), q_S x5 → q_P D dA q_kdC q_rhoC 77 z sz μ2 H → va_S (q_A z 77) s.heap H locs → lv_has ls 4 [(0, .ref (z + o)), (1, .int (q_I x1))] → J x5 = some μo → W p l e ({ frames := 3, cells := 0, slots := 0, locals := 68 } : Room) s m args below meth c H locs 0 0 Qf (F0 m 29 ls [.long (q_J x5), .int (q_I x1), .ref (z + (o + 6))])) ?_ ?_
        · clear h hl hP hS; intro x5 H locs ls r5 hP hS hl h
          refine q_last hx hb hK hP hS hA (q_ltF ho rfl) (q_kdF_6 ho) r1 r5 dX2_findWays_29 h ?_
          clear h hP hS; intro μ6 H locs hP hS h
          refine lv_aload_n hx hb dX2_findWays_30 rfl (lv_at hl 0 rfl) ?_
          refine q_getR hx hb hts hown hK hP fd_RX2_31 (q_ltF0 ho) (q_kdF_0 ho) rfl (q_rhF_0_6 ho) dX2_findWays_31 ?_
          refine lv_iload_n hx hb dX2_findWays_34 rfl (lv_at hl 1 rfl) ?_
          refine lv_iconst (v := q_I (-1)) hx hb dX2_findWays_35 rfl ?_
          refine q_iast hx hb hK hP hS hA (q_ltF ho rfl) (q_kdF_7 ho) r1 (q_r (-1) rfl) dX2_findWays_36 h ?_
          clear h hP hS; intro μ7 H locs hP hS h
          refine q_iinc (k := 1) (lv' := fun t => [(1, .int (q_I t)), (0, .ref (z + o))]) hx hb dX2_findWays_37 hl rfl (by decide) (fun _ => rfl) h ?_
          clear h hl; intro x8 ls r8 hl h
          refine lv_goto (tgt := 2) hx hb dX2_findWays_40 (by decide) ?_
          exact ih2 x8 μ7 _ _ _ r8 hP hS (lv_sub hl [1, 0] rfl) h
        · clear h; intro j29 hj29 h
          refine q_zle hx hb r4 (tgt := 26) dX2_findWays_19 (by decide) h ?_ ?_
          · clear h; intro g9 h
            refine lv_ldc2 hx hb hown (hts _ ck_RX2_104) dX2_findWays_26 ?_
            exact hj29 1152921504606846976 _ _ _ (q_s 1152921504606846976 rfl) hP hS (lv_sub hl [0, 1] rfl) h
          · clear h; intro g9 h
            refine lv_lconst (v := q_J 0) hx hb dX2_findWays_22 (by decide) ?_
            refine lv_goto (tgt := 29) hx hb dX2_findWays_23 (by decide) ?_
            exact hj29 0 _ _ _ (q_s 0 rfl) hP hS (lv_sub hl [0, 1] rfl) h
  refine L2 _ ?_  _ 0 μ _ _ _ (q_r 0 rfl) hP hS (lv_sub hl [1, 0] rfl) h
  · clear h hl hP hS; intro μ3 H locs ls  hP hS hl h
    refine lv_iconst (v := q_I 1) hx hb dX2_findWays_43 rfl ?_
    refine lv_istore_n (lv' := [(1, .int (q_I 1)), (0, .ref (z + o))]) hx hb dX2_findWays_44 rfl hl (by decide) rfl ?_
    clear hl; intro ls hl
    refine lv_iconst (v := q_I 0) hx hb dX2_findWays_45 rfl ?_
    refine lv_istore_n (lv' := [(2, .int (q_I 0)), (1, .int (q_I 1)), (0, .ref (z + o))]) hx hb dX2_findWays_46 rfl hl (by decide) rfl ?_
    clear hl; intro ls hl
    have L47 : ∀ (k102 : q_M → Option q_M), (∀ (μ14 : q_M) (H : Heap) (locs : List Loc) (ls : Array Slot), q_P D dA q_kdC q_rhoC 77 z sz μ14 H → va_S (q_A z 77) s.heap H locs → lv_has ls 4 [] → k102 μ14 = some μo → W p l e ({ frames := 3, cells := 0, slots := 0, locals := 68 } : Room) s m args below meth c H locs 0 0 Qf (F0 m 102 ls [])) → ∀ (nf47 : Nat) (x11 : Int) (x12 : Int) (μ13 : q_M) (H : Heap) (locs : List Loc) (ls : Array Slot), q_R x11 → q_R x12 → q_P D dA q_kdC q_rhoC 77 z sz μ13 H → va_S (q_A z 77) s.heap H locs → lv_has ls 4 [(0, .ref (z + o)), (1, .int (q_I x11)), (2, .int (q_I x12))] → f_Fl_findWays_L47 N o k102 nf47 x11 x12 μ13 = some μo → W p l e ({ frames := 3, cells := 0, slots := 0, locals := 68 } : Room) s m args below meth c H locs 0 0 Qf (F0 m 47 ls []) := by
      clear h hl hP hS
      intro k102 hk102 nf47
      induction nf47 with
      | zero =>
        intro x11 x12 μ13 H locs ls r11 r12 hP hS hl h
        rw [f_Fl_findWays_L47] at h
        cases h
      | succ nf47 ih47 =>
        intro x11 x12 μ13 H locs ls r11 r12 hP hS hl h
        rw [f_Fl_findWays_L47] at h
        refine lv_iload_n hx hb dX2_findWays_47 rfl (lv_at hl 2 rfl) ?_
        refine lv_bipush (v := q_I 7) hx hb dX2_findWays_48 (by decide) ?_
        refine q_cge hx hb r12 (q_r 7 rfl) (tgt := 102) dX2_findWays_50 (by decide) h ?_ ?_
        · clear h; intro g33 h
          exact hk102 μ13 _ _ _ hP hS (lv_sub hl [] rfl) h
        · clear h; intro g33 h
          refine lv_iload_n hx hb dX2_findWays_53 rfl (lv_at hl 1 rfl) ?_
          refine q_zeq hx hb r11 (tgt := 102) dX2_findWays_54 (by decide) h ?_ ?_
          · clear h; intro g32 h
            exact hk102 μ13 _ _ _ hP hS (lv_sub hl [] rfl) h
          · clear h; intro g32 h
            refine lv_iconst (v := q_I 0) hx hb dX2_findWays_57 rfl ?_
            refine lv_istore_n (lv' := [(1, .int (q_I 0)), (0, .ref (z + o)), (2, .int (q_I x12))]) hx hb dX2_findWays_58 rfl hl (by decide) rfl ?_
            clear hl; intro ls hl
            refine lv_iconst (v := q_I 0) hx hb dX2_findWays_59 rfl ?_
            refine lv_istore_n (lv' := [(3, .int (q_I 0)), (1, .int (q_I 0)), (0, .ref (z + o)), (2, .int (q_I x12))]) hx hb dX2_findWays_60 rfl hl (by decide) rfl ?_
            clear hl; intro ls hl
            have L61 : ∀ (k96 : Int → q_M → Option q_M), (∀ (x18 : Int) (μ19 : q_M) (H : Heap) (locs : List Loc) (ls : Array Slot), q_R x18 → q_P D dA q_kdC q_rhoC 77 z sz μ19 H → va_S (q_A z 77) s.heap H locs → lv_has ls 4 [(0, .ref (z + o)), (1, .int (q_I x18)), (2, .int (q_I x12))] → k96 x18 μ19 = some μo → W p l e ({ frames := 3, cells := 0, slots := 0, locals := 68 } : Room) s m args below meth c H locs 0 0 Qf (F0 m 96 ls [])) → ∀ (nf61 : Nat) (x15 : Int) (x16 : Int) (μ17 : q_M) (H : Heap) (locs : List Loc) (ls : Array Slot), q_R x15 → q_R x16 → q_P D dA q_kdC q_rhoC 77 z sz μ17 H → va_S (q_A z 77) s.heap H locs → lv_has ls 4 [(0, .ref (z + o)), (1, .int (q_I x15)), (2, .int (q_I x12)), (3, .int (q_I x16))] → f_Fl_findWays_L61 N o k96 nf61 x15 x16 μ17 = some μo → W p l e ({ frames := 3, cells := 0, slots := 0, locals := 68 } : Room) s m args below meth c H locs 0 0 Qf (F0 m 61 ls []) := by
              clear h hl hP hS
              intro k96 hk96 nf61
              induction nf61 with
              | zero =>
                intro x15 x16 μ17 H locs ls r15 r16 hP hS hl h
                rw [f_Fl_findWays_L61] at h
                cases h
              | succ nf61 ih61 =>
                intro x15 x16 μ17 H locs ls r15 r16 hP hS hl h
                rw [f_Fl_findWays_L61] at h
                refine lv_iload_n hx hb dX2_findWays_61 rfl (lv_at hl 3 rfl) ?_
                refine lv_bipush (v := q_I 7) hx hb dX2_findWays_62 (by decide) ?_
                refine q_cge hx hb r16 (q_r 7 rfl) (tgt := 96) dX2_findWays_64 (by decide) h ?_ ?_
                · clear h; intro g30 h
                  exact hk96 x15 μ17 _ _ _ r15 hP hS (lv_sub hl [0, 1, 2] rfl) h
                · clear h; intro g30 h
                  refine lv_aload_n hx hb dX2_findWays_67 rfl (lv_at hl 0 rfl) ?_
                  refine q_getR hx hb hts hown hK hP fd_RX2_28 (q_ltF0 ho) (q_kdF_0 ho) rfl (q_rhF_0_5 ho) dX2_findWays_68 ?_
                  refine lv_iload_n hx hb dX2_findWays_71 rfl (lv_at hl 3 rfl) ?_
                  refine q_lald hx hb hK hP (q_ltF ho rfl) (q_kdF_6 ho) r16 dX2_findWays_72 h ?_
                  clear h; intro x20 r20 h
                  refine lv_ldc2 hx hb hown (hts _ ck_RX2_104) dX2_findWays_73 ?_
                  refine q_lcmp hx hb r20 (q_s 1152921504606846976 rfl) dX2_findWays_76 h ?_
                  clear h; intro x21 r21 h
                  refine q_jn_in h (fun J => ∀ (x22 : Int) (μ23 : q_M) (H : Heap) (locs : List Loc) (ls : Array Slot), q_R x22 → q_P D dA q_kdC q_rhoC 77 z sz μ23 H → va_S (q_A z 77) s.heap H locs → lv_has ls 4 [(0, .ref (z + o)), (1, .int (q_I x22)), (2, .int (q_I x12)), (3, .int (q_I x16))] → J x22 μ23 = some μo → W p l e ({ frames := 3, cells := 0, slots := 0, locals := 68 } : Room) s m args below meth c H locs 0 0 Qf (F0 m 90 ls [])) ?_ ?_
                  · clear h hl hP hS; intro x22 μ23 H locs ls r22 hP hS hl h
                    refine q_iinc (k := 3) (lv' := fun t => [(3, .int (q_I t)), (0, .ref (z + o)), (1, .int (q_I x22)), (2, .int (q_I x12))]) hx hb dX2_findWays_90 hl rfl (by decide) (fun _ => rfl) h ?_
                    clear h hl; intro x24 ls r24 hl h
                    refine lv_goto (tgt := 61) hx hb dX2_findWays_93 (by decide) ?_
                    exact ih61 x22 x24 μ23 _ _ _ r22 r24 hP hS (lv_sub hl [1, 2, 3, 0] rfl) h
                  · clear h; intro j90 hj90 h
                    refine q_zge hx hb r21 (tgt := 90) dX2_findWays_77 (by decide) h ?_ ?_
                    · clear h; intro g29 h
                      exact hj90 x15 μ17 _ _ _ r15 hP hS (lv_sub hl [0, 1, 2, 3] rfl) h
                    · clear h; intro g29 h
                      refine lv_aload_n hx hb dX2_findWays_80 rfl (lv_at hl 0 rfl) ?_
                      refine lv_iload_n hx hb dX2_findWays_81 rfl (lv_at hl 3 rfl) ?_
                      obtain ⟨x26, μ27, hv25, h⟩ := q_b2_some h
                      refine q_callV hx hb hml hts hown hK hP hS (As := [.int (q_I x16)]) (rest := []) (st1 := [.int (q_I x26)]) cv_RX2_106 (c_Fl_shortenFrom l D dA ho r16 hv25) (q_ltF0 ho) (q_kdF_0 ho) rfl ⟨rfl, rfl, Nat.le_of_ble_eq_true rfl, Nat.le_of_ble_eq_true rfl⟩ ⟨Nat.le_refl _, Nat.le_refl _⟩ rfl hl.1 rfl (Nat.le_of_ble_eq_true rfl) rfl (fun _ g => g) dX2_findWays_82 ?_
                      clear hP hS hv25; intro H locs r26 hP hS _
                      refine q_zeq hx hb r26 (tgt := 90) dX2_findWays_85 (by decide) h ?_ ?_
                      · clear h; intro g28 h
                        exact hj90 x15 μ27 _ _ _ r15 hP hS (lv_sub hl [0, 1, 2, 3] rfl) h
                      · clear h; intro g28 h
                        refine lv_iconst (v := q_I 1) hx hb dX2_findWays_88 rfl ?_
                        refine lv_istore_n (lv' := [(1, .int (q_I 1)), (0, .ref (z + o)), (2, .int (q_I x12)), (3, .int (q_I x16))]) hx hb dX2_findWays_89 rfl hl (by decide) rfl ?_
                        clear hl; intro ls hl
                        exact hj90 1 μ27 _ _ _ (q_r 1 rfl) hP hS (lv_sub hl [1, 0, 2, 3] rfl) h
            refine L61 _ ?_  _ 0 0 μ13 _ _ _ (q_r 0 rfl) (q_r 0 rfl) hP hS (lv_sub hl [2, 1, 3, 0] rfl) h
            · clear h hl hP hS; intro x18 μ19 H locs ls r18 hP hS hl h
              refine q_iinc (k := 2) (lv' := fun t => [(2, .int (q_I t)), (0, .ref (z + o)), (1, .int (q_I x18))]) hx hb dX2_findWays_96 hl rfl (by decide) (fun _ => rfl) h ?_
              clear h hl; intro x31 ls r31 hl h
              refine lv_goto (tgt := 47) hx hb dX2_findWays_99 (by decide) ?_
              exact ih47 x18 x31 μ19 _ _ _ r18 r31 hP hS (lv_sub hl [1, 2, 0] rfl) h
    refine L47 _ ?_  _ 1 0 μ3 _ _ _ (q_r 1 rfl) (q_r 0 rfl) hP hS (lv_sub hl [2, 1, 0] rfl) h
    · clear h hl hP hS; intro μ14 H locs ls  hP hS hl h
      rw [← hQ]
      exact q_retv hx hb hr hlocks hP hS h dX2_findWays_102
set_option maxHeartbeats 4000000 in
set_option maxRecDepth 100000 in
theorem c_Fl_nearestLack (l : Launch) (D : va_G) (dA : Nat → ClassId) {z sz : Nat} {N : Nat} {o : Nat} (ho : o = 61 ∨ o = 69) {μ : q_M} {xo : Int} (h : f_Fl_nearestLack N o μ = some xo) : Met l yX2_nearestLack (q_wc yX2_nearestLack cX2_nearestLack 3 (some .int)) ({ frames := 0, cells := 0, slots := 0, locals := 0 } : Room) (va_Pc [.ref (z + o)] (q_B (q_P D dA q_kdC q_rhoC 77 z sz μ) D dA)) (q_Q (some (.int (q_I xo))) (q_R xo) (q_P D dA q_kdC q_rhoC 77 z sz μ) (q_A z 77)) 0 0 (q_A z 77) := by
  refine Met.ofW (cc := cX2_nearestLack) (maxL := 3) (ret := (some .int)) (by decide) rfl ?_
  intro p e s m args below meth c s₁ B hml hv
  obtain ⟨hargs, hP, hK⟩ := hv
  have hx := B.exec
  have hb := B.bytes
  have hr := B.returns
  have hts : ∀ w ∈ q_W, w.before args s = true := fun w hw => atoms_spec (ws := q_wc yX2_nearestLack cX2_nearestLack 3 (some .int)) B.pre w (List.mem_cons_of_mem _ hw)
  have hown : s.vm.findClass RX2 = some m.cls := findClass_of_methodNamed B.named
  have hlocks := B.notSynchronized
  have hS : va_S (q_A z 77) s.heap s.heap [] := va_S.rf
  have hA : ∀ k, k < 77 → q_A z 77 (z + k) := fun k hk => ⟨Nat.le_add_right z k, Nat.add_lt_add_left hk z⟩
  have hl := lv_entry [.ref (z + o)] (n := 3) (Nat.le_of_ble_eq_true rfl)
  refine W.eq (by rw [hargs, lg_entry_eq]) ?_
  generalize (lg_sl [.ref (z + o)] ++ List.replicate (3 - (lg_sl [.ref (z + o)]).length) Slot.unset).toArray = ls at hl ⊢
  have hl : lv_has ls 3 [(0, .ref (z + o))] := hl
  generalize hQ : MQ below _ args s 0 0 _ = Qf
  change W p l e ({ frames := 0, cells := 0, slots := 0, locals := 0 } : Room) s m args below meth c s.heap [] 0 0 Qf (F0 m 0 ls [])
  unfold f_Fl_nearestLack at h
  refine lv_iconst (v := q_I (-1)) hx hb dX2_nearestLack_0 rfl ?_
  refine lv_istore_n (lv' := [(1, .int (q_I ((-1)))), (0, .ref (z + o))]) hx hb dX2_nearestLack_1 rfl hl (by decide) rfl ?_
  clear hl; intro ls hl
  refine lv_iconst (v := q_I 0) hx hb dX2_nearestLack_2 rfl ?_
  refine lv_istore_n (lv' := [(2, .int (q_I 0)), (1, .int (q_I ((-1)))), (0, .ref (z + o))]) hx hb dX2_nearestLack_3 rfl hl (by decide) rfl ?_
  clear hl; intro ls hl
  have L4 : ∀ (k61 : Int → Option Int), (∀ (x3 : Int) (H : Heap) (locs : List Loc) (ls : Array Slot), q_R x3 → q_P D dA q_kdC q_rhoC 77 z sz μ H → va_S (q_A z 77) s.heap H locs → lv_has ls 3 [(1, .int (q_I x3))] → k61 x3 = some xo → W p l e ({ frames := 0, cells := 0, slots := 0, locals := 0 } : Room) s m args below meth c H locs 0 0 Qf (F0 m 61 ls [])) → ∀ (nf4 : Nat) (x1 : Int) (x2 : Int) (H : Heap) (locs : List Loc) (ls : Array Slot), q_R x1 → q_R x2 → q_P D dA q_kdC q_rhoC 77 z sz μ H → va_S (q_A z 77) s.heap H locs → lv_has ls 3 [(0, .ref (z + o)), (1, .int (q_I x1)), (2, .int (q_I x2))] → f_Fl_nearestLack_L4 o μ k61 nf4 x1 x2 = some xo → W p l e ({ frames := 0, cells := 0, slots := 0, locals := 0 } : Room) s m args below meth c H locs 0 0 Qf (F0 m 4 ls []) := by
    clear h hl hP hS
    intro k61 hk61 nf4
    induction nf4 with
    | zero =>
      intro x1 x2 H locs ls r1 r2 hP hS hl h
      rw [f_Fl_nearestLack_L4] at h
      cases h
    | succ nf4 ih4 =>
      intro x1 x2 H locs ls r1 r2 hP hS hl h
      rw [f_Fl_nearestLack_L4] at h
      refine lv_iload_n hx hb dX2_nearestLack_4 rfl (lv_at hl 2 rfl) ?_
      refine lv_bipush (v := q_I 7) hx hb dX2_nearestLack_5 (by decide) ?_
      refine q_cge hx hb r2 (q_r 7 rfl) (tgt := 61) dX2_nearestLack_7 (by decide) h ?_ ?_
      · clear h; intro g16 h
        exact hk61 x1 _ _ _ r1 hP hS (lv_sub hl [1] rfl) h
      · clear h; intro g16 h
        refine lv_aload_n hx hb dX2_nearestLack_10 rfl (lv_at hl 0 rfl) ?_
        refine q_getR hx hb hts hown hK hP fd_RX2_25 (q_ltF0 ho) (q_kdF_0 ho) rfl (q_rhF_0_4 ho) dX2_nearestLack_11 ?_
        refine lv_iload_n hx hb dX2_nearestLack_14 rfl (lv_at hl 2 rfl) ?_
        refine q_iald hx hb hK hP (q_ltF ho rfl) (q_kdF_5 ho) r2 dX2_nearestLack_15 h ?_
        clear h; intro x4 r4 h
        refine q_jn_in h (fun J => ∀ (x5 : Int) (H : Heap) (locs : List Loc) (ls : Array Slot), q_R x5 → q_P D dA q_kdC q_rhoC 77 z sz μ H → va_S (q_A z 77) s.heap H locs → lv_has ls 3 [(0, .ref (z + o)), (1, .int (q_I x5)), (2, .int (q_I x2))] → J x5 = some xo → W p l e ({ frames := 0, cells := 0, slots := 0, locals := 0 } : Room) s m args below meth c H locs 0 0 Qf (F0 m 55 ls [])) ?_ ?_
        · clear h hl hP hS; intro x5 H locs ls r5 hP hS hl h
          refine q_iinc (k := 2) (lv' := fun t => [(2, .int (q_I t)), (0, .ref (z + o)), (1, .int (q_I x5))]) hx hb dX2_nearestLack_55 hl rfl (by decide) (fun _ => rfl) h ?_
          clear h hl; intro x6 ls r6 hl h
          refine lv_goto (tgt := 4) hx hb dX2_nearestLack_58 (by decide) ?_
          exact ih4 x5 x6 _ _ _ r5 r6 hP hS (lv_sub hl [1, 2, 0] rfl) h
        · clear h; intro j55 hj55 h
          refine q_zge hx hb r4 (tgt := 55) dX2_nearestLack_16 (by decide) h ?_ ?_
          · clear h; intro g15 h
            exact hj55 x1 _ _ _ r1 hP hS (lv_sub hl [0, 1, 2] rfl) h
          · clear h; intro g15 h
            refine lv_aload_n hx hb dX2_nearestLack_19 rfl (lv_at hl 0 rfl) ?_
            refine q_getR hx hb hts hown hK hP fd_RX2_28 (q_ltF0 ho) (q_kdF_0 ho) rfl (q_rhF_0_5 ho) dX2_nearestLack_20 ?_
            refine lv_iload_n hx hb dX2_nearestLack_23 rfl (lv_at hl 2 rfl) ?_
            refine q_lald hx hb hK hP (q_ltF ho rfl) (q_kdF_6 ho) r2 dX2_nearestLack_24 h ?_
            clear h; intro x7 r7 h
            refine lv_ldc2 hx hb hown (hts _ ck_RX2_104) dX2_nearestLack_25 ?_
            refine q_lcmp hx hb r7 (q_s 1152921504606846976 rfl) dX2_nearestLack_28 h ?_
            clear h; intro x8 r8 h
            refine q_zge hx hb r8 (tgt := 55) dX2_nearestLack_29 (by decide) h ?_ ?_
            · clear h; intro g14 h
              exact hj55 x1 _ _ _ r1 hP hS (lv_sub hl [0, 1, 2] rfl) h
            · clear h; intro g14 h
              refine lv_iload_n hx hb dX2_nearestLack_32 rfl (lv_at hl 1 rfl) ?_
              refine lv_iconst (v := q_I (-1)) hx hb dX2_nearestLack_33 rfl ?_
              refine q_jn_in h (fun J => ∀ (H : Heap) (locs : List Loc) (ls : Array Slot), q_P D dA q_kdC q_rhoC 77 z sz μ H → va_S (q_A z 77) s.heap H locs → lv_has ls 3 [(0, .ref (z + o)), (2, .int (q_I x2))] → J = some xo → W p l e ({ frames := 0, cells := 0, slots := 0, locals := 0 } : Room) s m args below meth c H locs 0 0 Qf (F0 m 53 ls [])) ?_ ?_
              · clear h hl hP hS; intro  H locs ls  hP hS hl h
                refine lv_iload_n hx hb dX2_nearestLack_53 rfl (lv_at hl 1 rfl) ?_
                refine lv_istore_n (lv' := [(1, .int (q_I x2)), (0, .ref (z + o)), (2, .int (q_I x2))]) hx hb dX2_nearestLack_54 rfl hl (by decide) rfl ?_
                clear hl; intro ls hl
                exact hj55 x2 _ _ _ r2 hP hS (lv_sub hl [1, 0, 2] rfl) h
              · clear h; intro j53 hj53 h
                refine q_ceq hx hb r1 (q_r (-1) rfl) (tgt := 53) dX2_nearestLack_34 (by decide) h ?_ ?_
                · clear h; intro g13 h
                  exact hj53  _ _ _ hP hS (lv_sub hl [0, 2] rfl) h
                · clear h; intro g13 h
                  refine lv_aload_n hx hb dX2_nearestLack_37 rfl (lv_at hl 0 rfl) ?_
                  refine q_getR hx hb hts hown hK hP fd_RX2_28 (q_ltF0 ho) (q_kdF_0 ho) rfl (q_rhF_0_5 ho) dX2_nearestLack_38 ?_
                  refine lv_iload_n hx hb dX2_nearestLack_41 rfl (lv_at hl 2 rfl) ?_
                  refine q_lald hx hb hK hP (q_ltF ho rfl) (q_kdF_6 ho) r2 dX2_nearestLack_42 h ?_
                  clear h; intro x9 r9 h
                  refine lv_aload_n hx hb dX2_nearestLack_43 rfl (lv_at hl 0 rfl) ?_
                  refine q_getR hx hb hts hown hK hP fd_RX2_28 (q_ltF0 ho) (q_kdF_0 ho) rfl (q_rhF_0_5 ho) dX2_nearestLack_44 ?_
                  refine lv_iload_n hx hb dX2_nearestLack_47 rfl (lv_at hl 1 rfl) ?_
                  refine q_lald hx hb hK hP (q_ltF ho rfl) (q_kdF_6 ho) r1 dX2_nearestLack_48 h ?_
                  clear h; intro x10 r10 h
                  refine q_lcmp hx hb r9 r10 dX2_nearestLack_49 h ?_
                  clear h; intro x11 r11 h
                  refine q_zge hx hb r11 (tgt := 55) dX2_nearestLack_50 (by decide) h ?_ ?_
                  · clear h; intro g12 h
                    exact hj55 x1 _ _ _ r1 hP hS (lv_sub hl [0, 1, 2] rfl) h
                  · clear h; intro g12 h
                    exact hj53  _ _ _ hP hS (lv_sub hl [0, 2] rfl) h
  refine L4 _ ?_  _ ((-1)) 0 _ _ _ (q_r (-1) rfl) (q_r 0 rfl) hP hS (lv_sub hl [2, 1, 0] rfl) h
  · clear h hl hP hS; intro x3 H locs ls r3 hP hS hl h
    refine lv_iload_n hx hb dX2_nearestLack_61 rfl (lv_at hl 0 rfl) ?_
    rw [← hQ]
    exact q_ret1 hx hb hr hlocks hP hS r3 h dX2_nearestLack_62
set_option maxHeartbeats 4000000 in
set_option maxRecDepth 100000 in
theorem c_Fl_shiftUnits (l : Launch) (D : va_G) (dA : Nat → ClassId) {z sz : Nat} {o : Nat} (ho : o = 61 ∨ o = 69) {a0 : Int} (ra0 : q_R a0) {a1 : Int} (ra1 : q_R a1) {a2 : Int} (ra2 : q_R a2) {μ : q_M} {μo : q_M} (h : f_Fl_shiftUnits o a0 a1 a2 μ = some μo) : Met l yX2_shiftUnits (q_wc yX2_shiftUnits cX2_shiftUnits 5 none) ({ frames := 1, cells := 0, slots := 0, locals := 21 } : Room) (va_Pc [.ref (z + o), .int (q_I a0), .int (q_I a1), .int (q_I a2)] (q_B (q_P D dA q_kdC q_rhoC 77 z sz μ) D dA)) (q_Q none True (q_P D dA q_kdC q_rhoC 77 z sz μo) (q_A z 77)) 0 0 (q_A z 77) := by
  refine Met.ofW (cc := cX2_shiftUnits) (maxL := 5) (ret := none) (by decide) rfl ?_
  intro p e s m args below meth c s₁ B hml hv
  obtain ⟨hargs, hP, hK⟩ := hv
  have hx := B.exec
  have hb := B.bytes
  have hr := B.returns
  have hts : ∀ w ∈ q_W, w.before args s = true := fun w hw => atoms_spec (ws := q_wc yX2_shiftUnits cX2_shiftUnits 5 none) B.pre w (List.mem_cons_of_mem _ hw)
  have hown : s.vm.findClass RX2 = some m.cls := findClass_of_methodNamed B.named
  have hlocks := B.notSynchronized
  have hS : va_S (q_A z 77) s.heap s.heap [] := va_S.rf
  have hA : ∀ k, k < 77 → q_A z 77 (z + k) := fun k hk => ⟨Nat.le_add_right z k, Nat.add_lt_add_left hk z⟩
  have hl := lv_entry [.ref (z + o), .int (q_I a0), .int (q_I a1), .int (q_I a2)] (n := 5) (Nat.le_of_ble_eq_true rfl)
  refine W.eq (by rw [hargs, lg_entry_eq]) ?_
  generalize (lg_sl [.ref (z + o), .int (q_I a0), .int (q_I a1), .int (q_I a2)] ++ List.replicate (5 - (lg_sl [.ref (z + o), .int (q_I a0), .int (q_I a1), .int (q_I a2)]).length) Slot.unset).toArray = ls at hl ⊢
  have hl : lv_has ls 5 [(0, .ref (z + o)), (1, .int (q_I a0)), (2, .int (q_I a1)), (3, .int (q_I a2))] := hl
  generalize hQ : MQ below _ args s 0 0 _ = Qf
  change W p l e ({ frames := 1, cells := 0, slots := 0, locals := 21 } : Room) s m args below meth c s.heap [] 0 0 Qf (F0 m 0 ls [])
  unfold f_Fl_shiftUnits at h
  refine lv_iload_n hx hb dX2_shiftUnits_0 rfl (lv_at hl 2 rfl) ?_
  refine lv_iload_n hx hb dX2_shiftUnits_1 rfl (lv_at hl 1 rfl) ?_
  obtain ⟨x2, hv1, h⟩ := q_b_some h
  refine q_callS hx hb hml hts hown hK hP hS (As := [.int (q_I a1), .int (q_I a0)]) (rest := []) (st1 := [.int (q_I x2)]) cs_RX2_34 (c_Fl_arc l D dA ra1 ra0 hv1) ⟨rfl, rfl, Nat.le_of_ble_eq_true rfl, Nat.le_of_ble_eq_true rfl⟩ ⟨Nat.le_refl _, Nat.le_refl _⟩ rfl hl.1 rfl (Nat.le_of_ble_eq_true rfl) rfl (fun _ g => g) dX2_shiftUnits_2 ?_
  clear hP hS hv1; intro H locs r2 hP hS _
  refine lv_istore (lv' := [(4, .int (q_I x2)), (0, .ref (z + o)), (1, .int (q_I a0)), (2, .int (q_I a1)), (3, .int (q_I a2))]) hx hb dX2_shiftUnits_5 hl (by decide) rfl ?_
  clear hl; intro ls hl
  refine lv_aload_n hx hb dX2_shiftUnits_7 rfl (lv_at hl 1 rfl) ?_
  refine lv_iload hx hb dX2_shiftUnits_8 (lv_at hl 0 rfl) ?_
  obtain ⟨x4, hv3, h⟩ := q_b_some h
  refine q_callV hx hb hml hts hown hK hP hS (As := [.int (q_I x2)]) (rest := []) (st1 := [.int (q_I x4)]) cv_RX2_119 (c_Fl_canTakeBack l D dA ho r2 hv3) (q_ltF0 ho) (q_kdF_0 ho) rfl ⟨rfl, rfl, Nat.le_of_ble_eq_true rfl, Nat.le_of_ble_eq_true rfl⟩ ⟨Nat.le_refl _, Nat.le_refl _⟩ rfl hl.1 rfl (Nat.le_of_ble_eq_true rfl) rfl (fun _ g => g) dX2_shiftUnits_10 ?_
  clear hP hS hv3; intro H locs r4 hP hS _
  refine q_jn_in h (fun J => ∀ (μ5 : q_M) (H : Heap) (locs : List Loc) (ls : Array Slot), q_P D dA q_kdC q_rhoC 77 z sz μ5 H → va_S (q_A z 77) s.heap H locs → lv_has ls 5 [] → J μ5 = some μo → W p l e ({ frames := 1, cells := 0, slots := 0, locals := 21 } : Room) s m args below meth c H locs 0 0 Qf (F0 m 44 ls [])) ?_ ?_
  · clear h hl hP hS; intro μ5 H locs ls  hP hS hl h
    rw [← hQ]
    exact q_retv hx hb hr hlocks hP hS h dX2_shiftUnits_44
  · clear h; intro j44 hj44 h
    refine q_zeq hx hb r4 (tgt := 30) dX2_shiftUnits_13 (by decide) h ?_ ?_
    · clear h; intro g14 h
      refine lv_aload_n hx hb dX2_shiftUnits_30 rfl (lv_at hl 1 rfl) ?_
      refine q_getR hx hb hts hown hK hP fd_RX2_11 (q_ltF0 ho) (q_kdF_0 ho) rfl (q_rhF_0_0 ho) dX2_shiftUnits_31 ?_
      refine lv_iload_n hx hb dX2_shiftUnits_34 rfl (lv_at hl 2 rfl) ?_
      refine lv_iload_n hx hb dX2_shiftUnits_35 rfl (lv_at hl 3 rfl) ?_
      obtain ⟨x7, hv6, h⟩ := q_b_some h
      refine q_callS hx hb hml hts hown hK hP hS (As := [.int (q_I a0), .int (q_I a1)]) (rest := [.ref (z + (o + 1))]) (st1 := [.int (q_I x7), .ref (z + (o + 1))]) cs_RX2_34 (c_Fl_arc l D dA ra0 ra1 hv6) ⟨rfl, rfl, Nat.le_of_ble_eq_true rfl, Nat.le_of_ble_eq_true rfl⟩ ⟨Nat.le_refl _, Nat.le_refl _⟩ rfl hl.1 rfl (Nat.le_of_ble_eq_true rfl) rfl (fun _ g => g) dX2_shiftUnits_36 ?_
      clear hP hS hv6; intro H locs r7 hP hS _
      refine lv_dup2_11 hx hb dX2_shiftUnits_39 rfl rfl ?_
      refine q_iald hx hb hK hP (q_ltF ho rfl) (q_kdF_1 ho) r7 dX2_shiftUnits_40 h ?_
      clear h; intro x8 r8 h
      refine lv_iload_n hx hb dX2_shiftUnits_41 rfl (lv_at hl 4 rfl) ?_
      refine q_iadd hx hb dX2_shiftUnits_42 h ?_
      clear h; intro x9 r9 h
      refine q_iast hx hb hK hP hS hA (q_ltF ho rfl) (q_kdF_1 ho) r7 r9 dX2_shiftUnits_43 h ?_
      clear h hP hS; intro μ10 H locs hP hS h
      exact hj44 μ10 _ _ _ hP hS (lv_sub hl [] rfl) h
    · clear h; intro g14 h
      refine lv_aload_n hx hb dX2_shiftUnits_16 rfl (lv_at hl 1 rfl) ?_
      refine q_getR hx hb hts hown hK hP fd_RX2_11 (q_ltF0 ho) (q_kdF_0 ho) rfl (q_rhF_0_0 ho) dX2_shiftUnits_17 ?_
      refine lv_iload hx hb dX2_shiftUnits_20 (lv_at hl 0 rfl) ?_
      refine lv_dup2_11 hx hb dX2_shiftUnits_22 rfl rfl ?_
      refine q_iald hx hb hK hP (q_ltF ho rfl) (q_kdF_1 ho) r2 dX2_shiftUnits_23 h ?_
      clear h; intro x11 r11 h
      refine lv_iload_n hx hb dX2_shiftUnits_24 rfl (lv_at hl 4 rfl) ?_
      refine q_isub hx hb dX2_shiftUnits_25 h ?_
      clear h; intro x12 r12 h
      refine q_iast hx hb hK hP hS hA (q_ltF ho rfl) (q_kdF_1 ho) r2 r12 dX2_shiftUnits_26 h ?_
      clear h hP hS; intro μ13 H locs hP hS h
      refine lv_goto (tgt := 44) hx hb dX2_shiftUnits_27 (by decide) ?_
      exact hj44 μ13 _ _ _ hP hS (lv_sub hl [] rfl) h
set_option maxHeartbeats 4000000 in
set_option maxRecDepth 100000 in
theorem c_Fl_pushTo (l : Launch) (D : va_G) (dA : Nat → ClassId) {z sz : Nat} {N : Nat} {o : Nat} (ho : o = 61 ∨ o = 69) {a0 : Int} (ra0 : q_R a0) {μ : q_M} {xo : Int} {μo : q_M} (h : f_Fl_pushTo N o a0 μ = some (xo, μo)) : Met l yX2_pushTo (q_wc yX2_pushTo cX2_pushTo 6 (some .boolean)) ({ frames := 2, cells := 0, slots := 0, locals := 45 } : Room) (va_Pc [.ref (z + o), .int (q_I a0)] (q_B (q_P D dA q_kdC q_rhoC 77 z sz μ) D dA)) (q_Q (some (.int (q_I xo))) (q_R xo) (q_P D dA q_kdC q_rhoC 77 z sz μo) (q_A z 77)) 0 0 (q_A z 77) := by
  refine Met.ofW (cc := cX2_pushTo) (maxL := 6) (ret := (some .boolean)) (by decide) rfl ?_
  intro p e s m args below meth c s₁ B hml hv
  obtain ⟨hargs, hP, hK⟩ := hv
  have hx := B.exec
  have hb := B.bytes
  have hr := B.returns
  have hts : ∀ w ∈ q_W, w.before args s = true := fun w hw => atoms_spec (ws := q_wc yX2_pushTo cX2_pushTo 6 (some .boolean)) B.pre w (List.mem_cons_of_mem _ hw)
  have hown : s.vm.findClass RX2 = some m.cls := findClass_of_methodNamed B.named
  have hlocks := B.notSynchronized
  have hS : va_S (q_A z 77) s.heap s.heap [] := va_S.rf
  have hA : ∀ k, k < 77 → q_A z 77 (z + k) := fun k hk => ⟨Nat.le_add_right z k, Nat.add_lt_add_left hk z⟩
  have hl := lv_entry [.ref (z + o), .int (q_I a0)] (n := 6) (Nat.le_of_ble_eq_true rfl)
  refine W.eq (by rw [hargs, lg_entry_eq]) ?_
  generalize (lg_sl [.ref (z + o), .int (q_I a0)] ++ List.replicate (6 - (lg_sl [.ref (z + o), .int (q_I a0)]).length) Slot.unset).toArray = ls at hl ⊢
  have hl : lv_has ls 6 [(0, .ref (z + o)), (1, .int (q_I a0))] := hl
  generalize hQ : MQ below _ args s 0 0 _ = Qf
  change W p l e ({ frames := 2, cells := 0, slots := 0, locals := 45 } : Room) s m args below meth c s.heap [] 0 0 Qf (F0 m 0 ls [])
  unfold f_Fl_pushTo at h
  refine lv_aload_n hx hb dX2_pushTo_0 rfl (lv_at hl 0 rfl) ?_
  refine q_getR hx hb hts hown hK hP fd_RX2_25 (q_ltF0 ho) (q_kdF_0 ho) rfl (q_rhF_0_4 ho) dX2_pushTo_1 ?_
  refine lv_iload_n hx hb dX2_pushTo_4 rfl (lv_at hl 1 rfl) ?_
  refine q_iald hx hb hK hP (q_ltF ho rfl) (q_kdF_5 ho) ra0 dX2_pushTo_5 h ?_
  clear h; intro x1 r1 h
  refine q_ineg hx hb dX2_pushTo_6 h ?_
  clear h; intro x2 r2 h
  refine lv_istore_n (lv' := [(2, .int (q_I x2)), (0, .ref (z + o)), (1, .int (q_I a0))]) hx hb dX2_pushTo_7 rfl hl (by decide) rfl ?_
  clear hl; intro ls hl
  refine lv_iload_n hx hb dX2_pushTo_8 rfl (lv_at hl 2 rfl) ?_
  refine lv_istore_n (lv' := [(3, .int (q_I a0)), (2, .int (q_I x2)), (0, .ref (z + o)), (1, .int (q_I a0))]) hx hb dX2_pushTo_9 rfl hl (by decide) rfl ?_
  clear hl; intro ls hl
  refine lv_iconst (v := q_I 0) hx hb dX2_pushTo_10 rfl ?_
  refine lv_istore (lv' := [(4, .int (q_I 0)), (3, .int (q_I a0)), (2, .int (q_I x2)), (0, .ref (z + o)), (1, .int (q_I a0))]) hx hb dX2_pushTo_11 hl (by decide) rfl ?_
  clear hl; intro ls hl
  have L13 : ∀ (k59 : Int → Int → Option (Int × q_M)), (∀ (x6 : Int) (x7 : Int) (H : Heap) (locs : List Loc) (ls : Array Slot), q_R x6 → q_R x7 → q_P D dA q_kdC q_rhoC 77 z sz μ H → va_S (q_A z 77) s.heap H locs → lv_has ls 6 [(0, .ref (z + o)), (1, .int (q_I a0)), (2, .int (q_I x6)), (3, .int (q_I x7))] → k59 x6 x7 = some (xo, μo) → W p l e ({ frames := 2, cells := 0, slots := 0, locals := 45 } : Room) s m args below meth c H locs 0 0 Qf (F0 m 59 ls [])) → ∀ (nf13 : Nat) (x3 : Int) (x4 : Int) (x5 : Int) (H : Heap) (locs : List Loc) (ls : Array Slot), q_R x3 → q_R x4 → q_R x5 → q_P D dA q_kdC q_rhoC 77 z sz μ H → va_S (q_A z 77) s.heap H locs → lv_has ls 6 [(0, .ref (z + o)), (1, .int (q_I a0)), (2, .int (q_I x3)), (3, .int (q_I x4)), (4, .int (q_I x5))] → f_Fl_pushTo_L13 o μ k59 nf13 x3 x4 x5 = some (xo, μo) → W p l e ({ frames := 2, cells := 0, slots := 0, locals := 45 } : Room) s m args below meth c H locs 0 0 Qf (F0 m 13 ls []) := by
    clear h hl hP hS
    intro k59 hk59 nf13
    induction nf13 with
    | zero =>
      intro x3 x4 x5 H locs ls r3 r4 r5 hP hS hl h
      rw [f_Fl_pushTo_L13] at h
      cases h
    | succ nf13 ih13 =>
      intro x3 x4 x5 H locs ls r3 r4 r5 hP hS hl h
      rw [f_Fl_pushTo_L13] at h
      refine lv_iload hx hb dX2_pushTo_13 (lv_at hl 4 rfl) ?_
      refine lv_bipush (v := q_I 7) hx hb dX2_pushTo_15 (by decide) ?_
      refine q_cge hx hb r5 (q_r 7 rfl) (tgt := 59) dX2_pushTo_17 (by decide) h ?_ ?_
      · clear h; intro g16 h
        exact hk59 x3 x4 _ _ _ r3 r4 hP hS (lv_sub hl [0, 1, 2, 3] rfl) h
      · clear h; intro g16 h
        refine lv_aload_n hx hb dX2_pushTo_20 rfl (lv_at hl 0 rfl) ?_
        refine q_getR hx hb hts hown hK hP fd_RX2_31 (q_ltF0 ho) (q_kdF_0 ho) rfl (q_rhF_0_6 ho) dX2_pushTo_21 ?_
        refine lv_iload_n hx hb dX2_pushTo_24 rfl (lv_at hl 3 rfl) ?_
        refine q_iald hx hb hK hP (q_ltF ho rfl) (q_kdF_7 ho) r4 dX2_pushTo_25 h ?_
        clear h; intro x8 r8 h
        refine lv_iconst (v := q_I (-1)) hx hb dX2_pushTo_26 rfl ?_
        refine q_ceq hx hb r8 (q_r (-1) rfl) (tgt := 59) dX2_pushTo_27 (by decide) h ?_ ?_
        · clear h; intro g15 h
          exact hk59 x3 x4 _ _ _ r3 r4 hP hS (lv_sub hl [0, 1, 2, 3] rfl) h
        · clear h; intro g15 h
          refine lv_iload_n hx hb dX2_pushTo_30 rfl (lv_at hl 2 rfl) ?_
          refine lv_aload_n hx hb dX2_pushTo_31 rfl (lv_at hl 0 rfl) ?_
          refine lv_aload_n hx hb dX2_pushTo_32 rfl (lv_at hl 0 rfl) ?_
          refine q_getR hx hb hts hown hK hP fd_RX2_31 (q_ltF0 ho) (q_kdF_0 ho) rfl (q_rhF_0_6 ho) dX2_pushTo_33 ?_
          refine lv_iload_n hx hb dX2_pushTo_36 rfl (lv_at hl 3 rfl) ?_
          refine q_iald hx hb hK hP (q_ltF ho rfl) (q_kdF_7 ho) r4 dX2_pushTo_37 h ?_
          clear h; intro x9 r9 h
          refine lv_iload_n hx hb dX2_pushTo_38 rfl (lv_at hl 3 rfl) ?_
          obtain ⟨x11, hv10, h⟩ := q_b_some h
          refine q_callV hx hb hml hts hown hK hP hS (As := [.int (q_I x9), .int (q_I x4)]) (rest := [.int (q_I x3)]) (st1 := [.int (q_I x11), .int (q_I x3)]) cv_RX2_109 (c_Fl_room l D dA ho r9 r4 hv10) (q_ltF0 ho) (q_kdF_0 ho) rfl ⟨rfl, rfl, Nat.le_of_ble_eq_true rfl, Nat.le_of_ble_eq_true rfl⟩ ⟨Nat.le_refl _, Nat.le_refl _⟩ rfl hl.1 rfl (Nat.le_of_ble_eq_true rfl) rfl (fun _ g => g) dX2_pushTo_39 ?_
          clear hP hS hv10; intro H locs r11 hP hS _
          refine q_mmin hx hb hml hl.1 hts hown cm_RX2_76 ⟨Nat.le_refl _, Nat.le_refl _⟩ (Nat.le_of_ble_eq_true rfl) (Nat.le_of_ble_eq_true rfl) (Nat.le_of_ble_eq_true rfl) r3 r11 dX2_pushTo_42 h ?_
          clear h; intro x12 r12 h
          refine lv_istore_n (lv' := [(2, .int (q_I x12)), (0, .ref (z + o)), (1, .int (q_I a0)), (3, .int (q_I x4)), (4, .int (q_I x5))]) hx hb dX2_pushTo_45 rfl hl (by decide) rfl ?_
          clear hl; intro ls hl
          refine lv_aload_n hx hb dX2_pushTo_46 rfl (lv_at hl 1 rfl) ?_
          refine q_getR hx hb hts hown hK hP fd_RX2_31 (q_ltF0 ho) (q_kdF_0 ho) rfl (q_rhF_0_6 ho) dX2_pushTo_47 ?_
          refine lv_iload_n hx hb dX2_pushTo_50 rfl (lv_at hl 3 rfl) ?_
          refine q_iald hx hb hK hP (q_ltF ho rfl) (q_kdF_7 ho) r4 dX2_pushTo_51 h ?_
          clear h; intro x13 r13 h
          refine lv_istore_n (lv' := [(3, .int (q_I x13)), (2, .int (q_I x12)), (0, .ref (z + o)), (1, .int (q_I a0)), (4, .int (q_I x5))]) hx hb dX2_pushTo_52 rfl hl (by decide) rfl ?_
          clear hl; intro ls hl
          refine q_iinc (k := 4) (lv' := fun t => [(4, .int (q_I t)), (3, .int (q_I x13)), (2, .int (q_I x12)), (0, .ref (z + o)), (1, .int (q_I a0))]) hx hb dX2_pushTo_53 hl rfl (by decide) (fun _ => rfl) h ?_
          clear h hl; intro x14 ls r14 hl h
          refine lv_goto (tgt := 13) hx hb dX2_pushTo_56 (by decide) ?_
          exact ih13 x12 x13 x14 _ _ _ r12 r13 r14 hP hS (lv_sub hl [3, 4, 2, 1, 0] rfl) h
  refine L13 _ ?_  _ x2 a0 0 _ _ _ r2 ra0 (q_r 0 rfl) hP hS (lv_sub hl [3, 4, 2, 1, 0] rfl) h
  · clear h hl hP hS; intro x6 x7 H locs ls r6 r7 hP hS hl h
    refine lv_iload_n hx hb dX2_pushTo_59 rfl (lv_at hl 2 rfl) ?_
    refine lv_aload_n hx hb dX2_pushTo_60 rfl (lv_at hl 0 rfl) ?_
    refine q_getR hx hb hts hown hK hP fd_RX2_25 (q_ltF0 ho) (q_kdF_0 ho) rfl (q_rhF_0_4 ho) dX2_pushTo_61 ?_
    refine lv_iload_n hx hb dX2_pushTo_64 rfl (lv_at hl 3 rfl) ?_
    refine q_iald hx hb hK hP (q_ltF ho rfl) (q_kdF_5 ho) r7 dX2_pushTo_65 h ?_
    clear h; intro x17 r17 h
    refine q_mmin hx hb hml hl.1 hts hown cm_RX2_76 ⟨Nat.le_refl _, Nat.le_refl _⟩ (Nat.le_of_ble_eq_true rfl) (Nat.le_of_ble_eq_true rfl) (Nat.le_of_ble_eq_true rfl) r6 r17 dX2_pushTo_66 h ?_
    clear h; intro x18 r18 h
    refine lv_istore_n (lv' := [(2, .int (q_I x18)), (0, .ref (z + o)), (1, .int (q_I a0)), (3, .int (q_I x7))]) hx hb dX2_pushTo_69 rfl hl (by decide) rfl ?_
    clear hl; intro ls hl
    refine lv_iload_n hx hb dX2_pushTo_70 rfl (lv_at hl 0 rfl) ?_
    refine q_zgt hx hb r18 (tgt := 76) dX2_pushTo_71 (by decide) h ?_ ?_
    · clear h; intro g37 h
      refine lv_iload_n hx hb dX2_pushTo_76 rfl (lv_at hl 2 rfl) ?_
      refine lv_istore (lv' := [(4, .int (q_I a0)), (2, .int (q_I x18)), (0, .ref (z + o)), (1, .int (q_I a0)), (3, .int (q_I x7))]) hx hb dX2_pushTo_77 hl (by decide) rfl ?_
      clear hl; intro ls hl
      refine lv_iconst (v := q_I 0) hx hb dX2_pushTo_79 rfl ?_
      refine lv_istore (lv' := [(5, .int (q_I 0)), (4, .int (q_I a0)), (2, .int (q_I x18)), (0, .ref (z + o)), (1, .int (q_I a0)), (3, .int (q_I x7))]) hx hb dX2_pushTo_80 hl (by decide) rfl ?_
      clear hl; intro ls hl
      have L82 : ∀ (k129 : q_M → Option (Int × q_M)), (∀ (μ22 : q_M) (H : Heap) (locs : List Loc) (ls : Array Slot), q_P D dA q_kdC q_rhoC 77 z sz μ22 H → va_S (q_A z 77) s.heap H locs → lv_has ls 6 [(0, .ref (z + o)), (1, .int (q_I a0)), (2, .int (q_I x18)), (3, .int (q_I x7))] → k129 μ22 = some (xo, μo) → W p l e ({ frames := 2, cells := 0, slots := 0, locals := 45 } : Room) s m args below meth c H locs 0 0 Qf (F0 m 129 ls [])) → ∀ (nf82 : Nat) (x19 : Int) (x20 : Int) (μ21 : q_M) (H : Heap) (locs : List Loc) (ls : Array Slot), q_R x19 → q_R x20 → q_P D dA q_kdC q_rhoC 77 z sz μ21 H → va_S (q_A z 77) s.heap H locs → lv_has ls 6 [(0, .ref (z + o)), (1, .int (q_I a0)), (2, .int (q_I x18)), (3, .int (q_I x7)), (4, .int (q_I x19)), (5, .int (q_I x20))] → f_Fl_pushTo_L82 o x18 k129 nf82 x19 x20 μ21 = some (xo, μo) → W p l e ({ frames := 2, cells := 0, slots := 0, locals := 45 } : Room) s m args below meth c H locs 0 0 Qf (F0 m 82 ls []) := by
        clear h hl hP hS
        intro k129 hk129 nf82
        induction nf82 with
        | zero =>
          intro x19 x20 μ21 H locs ls r19 r20 hP hS hl h
          rw [f_Fl_pushTo_L82] at h
          cases h
        | succ nf82 ih82 =>
          intro x19 x20 μ21 H locs ls r19 r20 hP hS hl h
          rw [f_Fl_pushTo_L82] at h
          refine lv_iload hx hb dX2_pushTo_82 (lv_at hl 5 rfl) ?_
          refine lv_bipush (v := q_I 7) hx hb dX2_pushTo_84 (by decide) ?_
          refine q_cge hx hb r20 (q_r 7 rfl) (tgt := 129) dX2_pushTo_86 (by decide) h ?_ ?_
          · clear h; intro g30 h
            exact hk129 μ21 _ _ _ hP hS (lv_sub hl [0, 1, 2, 3] rfl) h
          · clear h; intro g30 h
            refine lv_aload_n hx hb dX2_pushTo_89 rfl (lv_at hl 0 rfl) ?_
            refine q_getR hx hb hts hown hK hP fd_RX2_31 (q_ltF0 ho) (q_kdF_0 ho) rfl (q_rhF_0_6 ho) dX2_pushTo_90 ?_
            refine lv_iload hx hb dX2_pushTo_93 (lv_at hl 4 rfl) ?_
            refine q_iald hx hb hK hP (q_ltF ho rfl) (q_kdF_7 ho) r19 dX2_pushTo_95 h ?_
            clear h; intro x23 r23 h
            refine lv_iconst (v := q_I (-1)) hx hb dX2_pushTo_96 rfl ?_
            refine q_ceq hx hb r23 (q_r (-1) rfl) (tgt := 129) dX2_pushTo_97 (by decide) h ?_ ?_
            · clear h; intro g29 h
              exact hk129 μ21 _ _ _ hP hS (lv_sub hl [0, 1, 2, 3] rfl) h
            · clear h; intro g29 h
              refine lv_aload_n hx hb dX2_pushTo_100 rfl (lv_at hl 0 rfl) ?_
              refine lv_aload_n hx hb dX2_pushTo_101 rfl (lv_at hl 0 rfl) ?_
              refine q_getR hx hb hts hown hK hP fd_RX2_31 (q_ltF0 ho) (q_kdF_0 ho) rfl (q_rhF_0_6 ho) dX2_pushTo_102 ?_
              refine lv_iload hx hb dX2_pushTo_105 (lv_at hl 4 rfl) ?_
              refine q_iald hx hb hK hP (q_ltF ho rfl) (q_kdF_7 ho) r19 dX2_pushTo_107 h ?_
              clear h; intro x24 r24 h
              refine lv_iload hx hb dX2_pushTo_108 (lv_at hl 4 rfl) ?_
              refine lv_iload_n hx hb dX2_pushTo_110 rfl (lv_at hl 2 rfl) ?_
              obtain ⟨μ26, hv25, h⟩ := q_b_some h
              refine q_callV hx hb hml hts hown hK hP hS (As := [.int (q_I x24), .int (q_I x19), .int (q_I x18)]) (rest := []) (st1 := []) cv_RX2_116 (c_Fl_shiftUnits l D dA ho r24 r19 r18 hv25) (q_ltF0 ho) (q_kdF_0 ho) rfl ⟨rfl, rfl, Nat.le_of_ble_eq_true rfl, Nat.le_of_ble_eq_true rfl⟩ ⟨Nat.le_refl _, Nat.le_refl _⟩ rfl hl.1 rfl (Nat.le_of_ble_eq_true rfl) rfl (fun _ g => g) dX2_pushTo_111 ?_
              clear hP hS hv25; intro H locs _ hP hS _
              refine lv_aload_n hx hb dX2_pushTo_114 rfl (lv_at hl 0 rfl) ?_
              refine q_getR hx hb hts hown hK hP fd_RX2_31 (q_ltF0 ho) (q_kdF_0 ho) rfl (q_rhF_0_6 ho) dX2_pushTo_115 ?_
              refine lv_iload hx hb dX2_pushTo_118 (lv_at hl 4 rfl) ?_
              refine q_iald hx hb hK hP (q_ltF ho rfl) (q_kdF_7 ho) r19 dX2_pushTo_120 h ?_
              clear h; intro x27 r27 h
              refine lv_istore (lv' := [(4, .int (q_I x27)), (0, .ref (z + o)), (1, .int (q_I a0)), (2, .int (q_I x18)), (3, .int (q_I x7)), (5, .int (q_I x20))]) hx hb dX2_pushTo_121 hl (by decide) rfl ?_
              clear hl; intro ls hl
              refine q_iinc (k := 5) (lv' := fun t => [(5, .int (q_I t)), (4, .int (q_I x27)), (0, .ref (z + o)), (1, .int (q_I a0)), (2, .int (q_I x18)), (3, .int (q_I x7))]) hx hb dX2_pushTo_123 hl rfl (by decide) (fun _ => rfl) h ?_
              clear h hl; intro x28 ls r28 hl h
              refine lv_goto (tgt := 82) hx hb dX2_pushTo_126 (by decide) ?_
              exact ih82 x27 x28 μ26 _ _ _ r27 r28 hP hS (lv_sub hl [2, 3, 4, 5, 1, 0] rfl) h
      refine L82 _ ?_  _ a0 0 μ _ _ _ ra0 (q_r 0 rfl) hP hS (lv_sub hl [3, 4, 2, 5, 1, 0] rfl) h
      · clear h hl hP hS; intro μ22 H locs ls  hP hS hl h
        refine lv_aload_n hx hb dX2_pushTo_129 rfl (lv_at hl 0 rfl) ?_
        refine q_getR hx hb hts hown hK hP fd_RX2_25 (q_ltF0 ho) (q_kdF_0 ho) rfl (q_rhF_0_4 ho) dX2_pushTo_130 ?_
        refine lv_iload_n hx hb dX2_pushTo_133 rfl (lv_at hl 1 rfl) ?_
        refine lv_dup2_11 hx hb dX2_pushTo_134 rfl rfl ?_
        refine q_iald hx hb hK hP (q_ltF ho rfl) (q_kdF_5 ho) ra0 dX2_pushTo_135 h ?_
        clear h; intro x31 r31 h
        refine lv_iload_n hx hb dX2_pushTo_136 rfl (lv_at hl 2 rfl) ?_
        refine q_iadd hx hb dX2_pushTo_137 h ?_
        clear h; intro x32 r32 h
        refine q_iast hx hb hK hP hS hA (q_ltF ho rfl) (q_kdF_5 ho) ra0 r32 dX2_pushTo_138 h ?_
        clear h hP hS; intro μ33 H locs hP hS h
        refine lv_aload_n hx hb dX2_pushTo_139 rfl (lv_at hl 0 rfl) ?_
        refine q_getR hx hb hts hown hK hP fd_RX2_25 (q_ltF0 ho) (q_kdF_0 ho) rfl (q_rhF_0_4 ho) dX2_pushTo_140 ?_
        refine lv_iload_n hx hb dX2_pushTo_143 rfl (lv_at hl 3 rfl) ?_
        refine lv_dup2_11 hx hb dX2_pushTo_144 rfl rfl ?_
        refine q_iald hx hb hK hP (q_ltF ho rfl) (q_kdF_5 ho) r7 dX2_pushTo_145 h ?_
        clear h; intro x34 r34 h
        refine lv_iload_n hx hb dX2_pushTo_146 rfl (lv_at hl 2 rfl) ?_
        refine q_isub hx hb dX2_pushTo_147 h ?_
        clear h; intro x35 r35 h
        refine q_iast hx hb hK hP hS hA (q_ltF ho rfl) (q_kdF_5 ho) r7 r35 dX2_pushTo_148 h ?_
        clear h hP hS; intro μ36 H locs hP hS h
        refine lv_iconst (v := q_I 1) hx hb dX2_pushTo_149 rfl ?_
        rw [← hQ]
        exact q_retz2 hx hb hr hlocks hP hS (Or.inr rfl) h dX2_pushTo_150
    · clear h; intro g37 h
      refine lv_iconst (v := q_I 0) hx hb dX2_pushTo_74 rfl ?_
      rw [← hQ]
      exact q_retz2 hx hb hr hlocks hP hS (Or.inl rfl) h dX2_pushTo_75
set_option maxHeartbeats 4000000 in
set_option maxRecDepth 100000 in
theorem c_Fl_balance (l : Launch) (D : va_G) (dA : Nat → ClassId) {z sz : Nat} {N : Nat} {o : Nat} (ho : o = 61 ∨ o = 69) {μ : q_M} {μo : q_M} (h : f_Fl_balance N o μ = some μo) : Met l yX2_balance (q_wc yX2_balance cX2_balance 4 none) ({ frames := 4, cells := 0, slots := 0, locals := 91 } : Room) (va_Pc [.ref (z + o)] (q_B (q_P D dA q_kdC q_rhoC 77 z sz μ) D dA)) (q_Q none True (q_P D dA q_kdC q_rhoC 77 z sz μo) (q_A z 77)) 0 0 (q_A z 77) := by
  refine Met.ofW (cc := cX2_balance) (maxL := 4) (ret := none) (by decide) rfl ?_
  intro p e s m args below meth c s₁ B hml hv
  obtain ⟨hargs, hP, hK⟩ := hv
  have hx := B.exec
  have hb := B.bytes
  have hr := B.returns
  have hts : ∀ w ∈ q_W, w.before args s = true := fun w hw => atoms_spec (ws := q_wc yX2_balance cX2_balance 4 none) B.pre w (List.mem_cons_of_mem _ hw)
  have hown : s.vm.findClass RX2 = some m.cls := findClass_of_methodNamed B.named
  have hlocks := B.notSynchronized
  have hS : va_S (q_A z 77) s.heap s.heap [] := va_S.rf
  have hA : ∀ k, k < 77 → q_A z 77 (z + k) := fun k hk => ⟨Nat.le_add_right z k, Nat.add_lt_add_left hk z⟩
  have hl := lv_entry [.ref (z + o)] (n := 4) (Nat.le_of_ble_eq_true rfl)
  refine W.eq (by rw [hargs, lg_entry_eq]) ?_
  generalize (lg_sl [.ref (z + o)] ++ List.replicate (4 - (lg_sl [.ref (z + o)]).length) Slot.unset).toArray = ls at hl ⊢
  have hl : lv_has ls 4 [(0, .ref (z + o))] := hl
  generalize hQ : MQ below _ args s 0 0 _ = Qf
  change W p l e ({ frames := 4, cells := 0, slots := 0, locals := 91 } : Room) s m args below meth c s.heap [] 0 0 Qf (F0 m 0 ls [])
  unfold f_Fl_balance at h
  refine lv_iconst (v := q_I 1) hx hb dX2_balance_0 rfl ?_
  refine lv_istore_n (lv' := [(1, .int (q_I 1)), (0, .ref (z + o))]) hx hb dX2_balance_1 rfl hl (by decide) rfl ?_
  clear hl; intro ls hl
  refine lv_iconst (v := q_I 0) hx hb dX2_balance_2 rfl ?_
  refine lv_istore_n (lv' := [(2, .int (q_I 0)), (1, .int (q_I 1)), (0, .ref (z + o))]) hx hb dX2_balance_3 rfl hl (by decide) rfl ?_
  clear hl; intro ls hl
  have L4 : ∀ (k48 : q_M → Option q_M), (∀ (μ4 : q_M) (H : Heap) (locs : List Loc) (ls : Array Slot), q_P D dA q_kdC q_rhoC 77 z sz μ4 H → va_S (q_A z 77) s.heap H locs → lv_has ls 4 [] → k48 μ4 = some μo → W p l e ({ frames := 4, cells := 0, slots := 0, locals := 91 } : Room) s m args below meth c H locs 0 0 Qf (F0 m 48 ls [])) → ∀ (nf4 : Nat) (x1 : Int) (x2 : Int) (μ3 : q_M) (H : Heap) (locs : List Loc) (ls : Array Slot), q_R x1 → q_R x2 → q_P D dA q_kdC q_rhoC 77 z sz μ3 H → va_S (q_A z 77) s.heap H locs → lv_has ls 4 [(0, .ref (z + o)), (1, .int (q_I x1)), (2, .int (q_I x2))] → f_Fl_balance_L4 N o k48 nf4 x1 x2 μ3 = some μo → W p l e ({ frames := 4, cells := 0, slots := 0, locals := 91 } : Room) s m args below meth c H locs 0 0 Qf (F0 m 4 ls []) := by
    clear h hl hP hS
    intro k48 hk48 nf4
    induction nf4 with
    | zero =>
      intro x1 x2 μ3 H locs ls r1 r2 hP hS hl h
      rw [f_Fl_balance_L4] at h
      cases h
    | succ nf4 ih4 =>
      intro x1 x2 μ3 H locs ls r1 r2 hP hS hl h
      rw [f_Fl_balance_L4] at h
      refine lv_iload_n hx hb dX2_balance_4 rfl (lv_at hl 2 rfl) ?_
      refine lv_ldc hx hb hown (hts _ ck_RX2_70) dX2_balance_5 ?_
      refine q_cge hx hb r2 (q_r 1000000 rfl) (tgt := 48) dX2_balance_7 (by decide) h ?_ ?_
      · clear h; intro g19 h
        exact hk48 μ3 _ _ _ hP hS (lv_sub hl [] rfl) h
      · clear h; intro g19 h
        refine lv_iload_n hx hb dX2_balance_10 rfl (lv_at hl 1 rfl) ?_
        refine q_zeq hx hb r1 (tgt := 48) dX2_balance_11 (by decide) h ?_ ?_
        · clear h; intro g18 h
          exact hk48 μ3 _ _ _ hP hS (lv_sub hl [] rfl) h
        · clear h; intro g18 h
          refine lv_aload_n hx hb dX2_balance_14 rfl (lv_at hl 0 rfl) ?_
          obtain ⟨μ6, hv5, h⟩ := q_b_some h
          refine q_callV hx hb hml hts hown hK hP hS (As := []) (rest := []) (st1 := []) cv_RX2_93 (c_Fl_findWays l D dA ho hv5) (q_ltF0 ho) (q_kdF_0 ho) rfl ⟨rfl, rfl, Nat.le_of_ble_eq_true rfl, Nat.le_of_ble_eq_true rfl⟩ ⟨Nat.le_refl _, Nat.le_refl _⟩ rfl hl.1 rfl (Nat.le_of_ble_eq_true rfl) rfl (fun _ g => g) dX2_balance_15 ?_
          clear hP hS hv5; intro H locs _ hP hS _
          refine lv_aload_n hx hb dX2_balance_18 rfl (lv_at hl 0 rfl) ?_
          obtain ⟨x8, hv7, h⟩ := q_b_some h
          refine q_callV hx hb hml hts hown hK hP hS (As := []) (rest := []) (st1 := [.int (q_I x8)]) cv_RX2_96 (c_Fl_nearestLack l D dA ho hv7) (q_ltF0 ho) (q_kdF_0 ho) rfl ⟨rfl, rfl, Nat.le_of_ble_eq_true rfl, Nat.le_of_ble_eq_true rfl⟩ ⟨Nat.le_refl _, Nat.le_refl _⟩ rfl hl.1 rfl (Nat.le_of_ble_eq_true rfl) rfl (fun _ g => g) dX2_balance_19 ?_
          clear hP hS hv7; intro H locs r8 hP hS _
          refine lv_istore_n (lv' := [(3, .int (q_I x8)), (0, .ref (z + o)), (1, .int (q_I x1)), (2, .int (q_I x2))]) hx hb dX2_balance_22 rfl hl (by decide) rfl ?_
          clear hl; intro ls hl
          refine lv_iload_n hx hb dX2_balance_23 rfl (lv_at hl 0 rfl) ?_
          refine lv_iconst (v := q_I (-1)) hx hb dX2_balance_24 rfl ?_
          refine q_jn_in h (fun J => ∀ (x9 : Int) (μ10 : q_M) (H : Heap) (locs : List Loc) (ls : Array Slot), q_R x9 → q_P D dA q_kdC q_rhoC 77 z sz μ10 H → va_S (q_A z 77) s.heap H locs → lv_has ls 4 [(0, .ref (z + o)), (2, .int (q_I x2))] → J x9 μ10 = some μo → W p l e ({ frames := 4, cells := 0, slots := 0, locals := 91 } : Room) s m args below meth c H locs 0 0 Qf (F0 m 41 ls [.int (q_I x9)])) ?_ ?_
          · clear h hl hP hS; intro x9 μ10 H locs ls r9 hP hS hl h
            refine lv_istore_n (lv' := [(1, .int (q_I x9)), (0, .ref (z + o)), (2, .int (q_I x2))]) hx hb dX2_balance_41 rfl hl (by decide) rfl ?_
            clear hl; intro ls hl
            refine q_iinc (k := 2) (lv' := fun t => [(2, .int (q_I t)), (1, .int (q_I x9)), (0, .ref (z + o))]) hx hb dX2_balance_42 hl rfl (by decide) (fun _ => rfl) h ?_
            clear h hl; intro x11 ls r11 hl h
            refine lv_goto (tgt := 4) hx hb dX2_balance_45 (by decide) ?_
            exact ih4 x9 x11 μ10 _ _ _ r9 r11 hP hS (lv_sub hl [2, 1, 0] rfl) h
          · clear h; intro j41 hj41 h
            refine q_jn_in h (fun J => ∀ (μ12 : q_M) (H : Heap) (locs : List Loc) (ls : Array Slot), q_P D dA q_kdC q_rhoC 77 z sz μ12 H → va_S (q_A z 77) s.heap H locs → lv_has ls 4 [(0, .ref (z + o)), (2, .int (q_I x2))] → J μ12 = some μo → W p l e ({ frames := 4, cells := 0, slots := 0, locals := 91 } : Room) s m args below meth c H locs 0 0 Qf (F0 m 40 ls [])) ?_ ?_
            · clear h hl hP hS; intro μ12 H locs ls  hP hS hl h
              refine lv_iconst (v := q_I 0) hx hb dX2_balance_40 rfl ?_
              exact hj41 0 μ12 _ _ _ (q_r 0 rfl) hP hS (lv_sub hl [0, 1] rfl) h
            · clear h; intro j40 hj40 h
              refine q_ceq hx hb r8 (q_r (-1) rfl) (tgt := 40) dX2_balance_25 (by decide) h ?_ ?_
              · clear h; intro g17 h
                exact hj40 μ6 _ _ _ hP hS (lv_sub hl [1, 3] rfl) h
              · clear h; intro g17 h
                refine lv_aload_n hx hb dX2_balance_28 rfl (lv_at hl 1 rfl) ?_
                refine lv_iload_n hx hb dX2_balance_29 rfl (lv_at hl 0 rfl) ?_
                obtain ⟨x14, μ15, hv13, h⟩ := q_b2_some h
                refine q_callV hx hb hml hts hown hK hP hS (As := [.int (q_I x8)]) (rest := []) (st1 := [.int (q_I x14)]) cv_RX2_100 (c_Fl_pushTo l D dA ho r8 hv13) (q_ltF0 ho) (q_kdF_0 ho) rfl ⟨rfl, rfl, Nat.le_of_ble_eq_true rfl, Nat.le_of_ble_eq_true rfl⟩ ⟨Nat.le_refl _, Nat.le_refl _⟩ rfl hl.1 rfl (Nat.le_of_ble_eq_true rfl) rfl (fun _ g => g) dX2_balance_30 ?_
                clear hP hS hv13; intro H locs r14 hP hS _
                refine q_zeq hx hb r14 (tgt := 40) dX2_balance_33 (by decide) h ?_ ?_
                · clear h; intro g16 h
                  exact hj40 μ15 _ _ _ hP hS (lv_sub hl [1, 3] rfl) h
                · clear h; intro g16 h
                  refine lv_iconst (v := q_I 1) hx hb dX2_balance_36 rfl ?_
                  refine lv_goto (tgt := 41) hx hb dX2_balance_37 (by decide) ?_
                  exact hj41 1 μ15 _ _ _ (q_r 1 rfl) hP hS (lv_sub hl [1, 3] rfl) h
  refine L4 _ ?_  _ 1 0 μ _ _ _ (q_r 1 rfl) (q_r 0 rfl) hP hS (lv_sub hl [2, 1, 0] rfl) h
  · clear h hl hP hS; intro μ4 H locs ls  hP hS hl h
    rw [← hQ]
    exact q_retv hx hb hr hlocks hP hS h dX2_balance_48
set_option maxHeartbeats 4000000 in
set_option maxRecDepth 100000 in
theorem c_CR_findRepair (l : Launch) (D : va_G) (dA : Nat → ClassId) {z sz : Nat} {N : Nat} {μ : q_M} {xo : Int} {μo : q_M} (h : f_CR_findRepair N μ = some (xo, μo)) : Met l yX10_findRepair (q_wc yX10_findRepair cX10_findRepair 5 (some .int)) ({ frames := 5, cells := 0, slots := 0, locals := 118 } : Room) (va_Pc [.ref (z + 0)] (q_B (q_P D dA q_kdC q_rhoC 77 z sz μ) D dA)) (q_Q (some (.int (q_I xo))) (q_R xo) (q_P D dA q_kdC q_rhoC 77 z sz μo) (q_A z 77)) 0 0 (q_A z 77) := by
  refine Met.ofW (cc := cX10_findRepair) (maxL := 5) (ret := (some .int)) (by decide) rfl ?_
  intro p e s m args below meth c s₁ B hml hv
  obtain ⟨hargs, hP, hK⟩ := hv
  have hx := B.exec
  have hb := B.bytes
  have hr := B.returns
  have hts : ∀ w ∈ q_W, w.before args s = true := fun w hw => atoms_spec (ws := q_wc yX10_findRepair cX10_findRepair 5 (some .int)) B.pre w (List.mem_cons_of_mem _ hw)
  have hown : s.vm.findClass RX10 = some m.cls := findClass_of_methodNamed B.named
  have hlocks := B.notSynchronized
  have hS : va_S (q_A z 77) s.heap s.heap [] := va_S.rf
  have hA : ∀ k, k < 77 → q_A z 77 (z + k) := fun k hk => ⟨Nat.le_add_right z k, Nat.add_lt_add_left hk z⟩
  have hl := lv_entry [.ref (z + 0)] (n := 5) (Nat.le_of_ble_eq_true rfl)
  refine W.eq (by rw [hargs, lg_entry_eq]) ?_
  generalize (lg_sl [.ref (z + 0)] ++ List.replicate (5 - (lg_sl [.ref (z + 0)]).length) Slot.unset).toArray = ls at hl ⊢
  have hl : lv_has ls 5 [(0, .ref (z + 0))] := hl
  generalize hQ : MQ below _ args s 0 0 _ = Qf
  change W p l e ({ frames := 5, cells := 0, slots := 0, locals := 118 } : Room) s m args below meth c s.heap [] 0 0 Qf (F0 m 0 ls [])
  unfold f_CR_findRepair at h
  refine lv_aload_n hx hb dX10_findRepair_0 rfl (lv_at hl 0 rfl) ?_
  refine q_getR hx hb hts hown hK hP fd_RX10_10 (Nat.le_of_ble_eq_true rfl) q_kdC_0 rfl q_rhC_0_0 dX10_findRepair_1 ?_
  obtain ⟨x2, hv1, h⟩ := q_b_some h
  refine q_callV hx hb hml hts hown hK hP hS (As := []) (rest := []) (st1 := [.int (q_I x2)]) cv_RX10_180 (c_Wo_countOrphans l D dA (Or.inl rfl) hv1) (Nat.le_of_ble_eq_true rfl) q_kdC_1 rfl ⟨rfl, rfl, Nat.le_of_ble_eq_true rfl, Nat.le_of_ble_eq_true rfl⟩ ⟨Nat.le_refl _, Nat.le_refl _⟩ rfl hl.1 rfl (Nat.le_of_ble_eq_true rfl) rfl (fun _ g => g) dX10_findRepair_4 ?_
  clear hP hS hv1; intro H locs r2 hP hS _
  refine q_zle hx hb r2 (tgt := 13) dX10_findRepair_7 (by decide) h ?_ ?_
  · clear h; intro g17 h
    refine lv_aload_n hx hb dX10_findRepair_13 rfl (lv_at hl 0 rfl) ?_
    refine q_getR hx hb hts hown hK hP fd_RX10_43 (Nat.le_of_ble_eq_true rfl) q_kdC_0 rfl q_rhC_0_6 dX10_findRepair_14 ?_
    refine lv_aload_n hx hb dX10_findRepair_17 rfl (lv_at hl 0 rfl) ?_
    refine q_getR hx hb hts hown hK hP fd_RX10_10 (Nat.le_of_ble_eq_true rfl) q_kdC_0 rfl q_rhC_0_0 dX10_findRepair_18 ?_
    obtain ⟨μ4, hv3, h⟩ := q_b_some h
    refine q_callV hx hb hml hts hown hK hP hS (As := [.ref (z + 1)]) (rest := []) (st1 := []) cv_RX10_239 (c_St_readCut l D dA (Or.inl rfl) hv3) (Nat.le_of_ble_eq_true rfl) q_kdC_56 rfl ⟨rfl, rfl, Nat.le_of_ble_eq_true rfl, Nat.le_of_ble_eq_true rfl⟩ ⟨Nat.le_refl _, Nat.le_refl _⟩ rfl hl.1 rfl (Nat.le_of_ble_eq_true rfl) rfl (fun _ g => g) dX10_findRepair_21 ?_
    clear hP hS hv3; intro H locs _ hP hS _
    refine lv_aload_n hx hb dX10_findRepair_24 rfl (lv_at hl 0 rfl) ?_
    refine q_getR hx hb hts hown hK hP fd_RX10_50 (Nat.le_of_ble_eq_true rfl) q_kdC_0 rfl q_rhC_0_7 dX10_findRepair_25 ?_
    refine lv_aload_n hx hb dX10_findRepair_28 rfl (lv_at hl 0 rfl) ?_
    refine q_getR hx hb hts hown hK hP fd_RX10_43 (Nat.le_of_ble_eq_true rfl) q_kdC_0 rfl q_rhC_0_6 dX10_findRepair_29 ?_
    refine lv_aload_n hx hb dX10_findRepair_32 rfl (lv_at hl 0 rfl) ?_
    refine q_getR hx hb hts hown hK hP fd_RX10_29 (Nat.le_of_ble_eq_true rfl) q_kdC_0 rfl q_rhC_0_4 dX10_findRepair_33 ?_
    refine lv_aload_n hx hb dX10_findRepair_36 rfl (lv_at hl 0 rfl) ?_
    refine q_getR hx hb hts hown hK hP fd_RX10_36 (Nat.le_of_ble_eq_true rfl) q_kdC_0 rfl q_rhC_0_5 dX10_findRepair_37 ?_
    obtain ⟨x6, μ7, hv5, h⟩ := q_b2_some h
    refine q_callV hx hb hml hts hown hK hP hS (As := [.ref (z + 56), .ref (z + 49), .ref (z + 54)]) (rest := []) (st1 := [.int (q_I x6)]) cv_RX10_285 (c_Re_layOut l D dA hv5) (Nat.le_of_ble_eq_true rfl) q_kdC_59 rfl ⟨rfl, rfl, Nat.le_of_ble_eq_true rfl, Nat.le_of_ble_eq_true rfl⟩ ⟨Nat.le_refl _, Nat.le_refl _⟩ rfl hl.1 rfl (Nat.le_of_ble_eq_true rfl) rfl (fun _ g => g) dX10_findRepair_40 ?_
    clear hP hS hv5; intro H locs r6 hP hS _
    refine q_zne hx hb r6 (tgt := 49) dX10_findRepair_43 (by decide) h ?_ ?_
    · clear h; intro g16 h
      refine lv_ldc hx hb hown (hts _ ck_RX10_176) dX10_findRepair_46 ?_
      rw [← hQ]
      exact q_ret2 hx hb hr hlocks hP hS (q_r (-100006) rfl) h dX10_findRepair_48
    · clear h; intro g16 h
      refine lv_aload_n hx hb dX10_findRepair_49 rfl (lv_at hl 0 rfl) ?_
      refine q_getR hx hb hts hown hK hP fd_RX10_50 (Nat.le_of_ble_eq_true rfl) q_kdC_0 rfl q_rhC_0_7 dX10_findRepair_50 ?_
      refine q_getR hx hb hts hown hK hP fd_RX10_289 (Nat.le_of_ble_eq_true rfl) q_kdC_59 rfl q_rhC_59_0 dX10_findRepair_53 ?_
      refine lv_astore_n (lv' := [(1, .ref (z + 60)), (0, .ref (z + 0))]) hx hb dX10_findRepair_56 rfl hl (by decide) rfl ?_
      clear hl; intro ls hl
      refine lv_aload_n hx hb dX10_findRepair_57 rfl (lv_at hl 0 rfl) ?_
      refine q_alen (v := 2) hx hb hK hP (Nat.le_of_ble_eq_true rfl) q_kdC_60 (by decide) rfl dX10_findRepair_58 ?_
      refine lv_istore_n (lv' := [(2, .int (q_I 2)), (1, .ref (z + 60)), (0, .ref (z + 0))]) hx hb dX10_findRepair_59 rfl hl (by decide) rfl ?_
      clear hl; intro ls hl
      refine lv_iconst (v := q_I 0) hx hb dX10_findRepair_60 rfl ?_
      refine lv_istore_n (lv' := [(3, .int (q_I 0)), (2, .int (q_I 2)), (1, .ref (z + 60)), (0, .ref (z + 0))]) hx hb dX10_findRepair_61 rfl hl (by decide) rfl ?_
      clear hl; intro ls hl
      have L62 : ∀ (k83 : q_M → Option (Int × q_M)), (∀ (μ10 : q_M) (H : Heap) (locs : List Loc) (ls : Array Slot), q_P D dA q_kdC q_rhoC 77 z sz μ10 H → va_S (q_A z 77) s.heap H locs → lv_has ls 5 [] → k83 μ10 = some (xo, μo) → W p l e ({ frames := 5, cells := 0, slots := 0, locals := 118 } : Room) s m args below meth c H locs 0 0 Qf (F0 m 83 ls [])) → ∀ (nf62 : Nat) (x8 : Int) (μ9 : q_M) (H : Heap) (locs : List Loc) (ls : Array Slot), q_R x8 → q_P D dA q_kdC q_rhoC 77 z sz μ9 H → va_S (q_A z 77) s.heap H locs → lv_has ls 5 [(1, .ref (z + 60)), (2, .int (q_I 2)), (3, .int (q_I x8))] → f_CR_findRepair_L62 N k83 nf62 x8 μ9 = some (xo, μo) → W p l e ({ frames := 5, cells := 0, slots := 0, locals := 118 } : Room) s m args below meth c H locs 0 0 Qf (F0 m 62 ls []) := by
        clear h hl hP hS
        intro k83 hk83 nf62
        induction nf62 with
        | zero =>
          intro x8 μ9 H locs ls r8 hP hS hl h
          rw [f_CR_findRepair_L62] at h
          cases h
        | succ nf62 ih62 =>
          intro x8 μ9 H locs ls r8 hP hS hl h
          rw [f_CR_findRepair_L62] at h
          refine lv_iload_n hx hb dX10_findRepair_62 rfl (lv_at hl 2 rfl) ?_
          refine lv_iload_n hx hb dX10_findRepair_63 rfl (lv_at hl 1 rfl) ?_
          refine q_cge hx hb r8 (q_r 2 rfl) (tgt := 83) dX10_findRepair_64 (by decide) h ?_ ?_
          · clear h; intro g15 h
            exact hk83 μ9 _ _ _ hP hS (lv_sub hl [] rfl) h
          · clear h; intro g15 h
            refine lv_aload_n hx hb dX10_findRepair_67 rfl (lv_at hl 0 rfl) ?_
            refine lv_iload_n hx hb dX10_findRepair_68 rfl (lv_at hl 2 rfl) ?_
            refine q_aald hx hb hK hP (Nat.le_of_ble_eq_true rfl) q_kdC_60 r8 q_rhC_60_0 q_rhC_60_1 dX10_findRepair_69 h ?_
            clear h; intro o11 ho11 h
            refine lv_astore (lv' := [(4, .ref (z + o11)), (1, .ref (z + 60)), (2, .int (q_I 2)), (3, .int (q_I x8))]) hx hb dX10_findRepair_70 hl (by decide) rfl ?_
            clear hl; intro ls hl
            refine lv_aload hx hb dX10_findRepair_72 (lv_at hl 0 rfl) ?_
            obtain ⟨μ13, hv12, h⟩ := q_b_some h
            refine q_callV hx hb hml hts hown hK hP hS (As := []) (rest := []) (st1 := []) cv_RX10_293 (c_Fl_balance l D dA ho11 hv12) (q_ltF0 ho11) (q_kdF_0 ho11) rfl ⟨rfl, rfl, Nat.le_of_ble_eq_true rfl, Nat.le_of_ble_eq_true rfl⟩ ⟨Nat.le_refl _, Nat.le_refl _⟩ rfl hl.1 rfl (Nat.le_of_ble_eq_true rfl) rfl (fun _ g => g) dX10_findRepair_74 ?_
            clear hP hS hv12; intro H locs _ hP hS _
            refine q_iinc (k := 3) (lv' := fun t => [(3, .int (q_I t)), (4, .ref (z + o11)), (1, .ref (z + 60)), (2, .int (q_I 2))]) hx hb dX10_findRepair_77 hl rfl (by decide) (fun _ => rfl) h ?_
            clear h hl; intro x14 ls r14 hl h
            refine lv_goto (tgt := 62) hx hb dX10_findRepair_80 (by decide) ?_
            exact ih62 x14 μ13 _ _ _ r14 hP hS (lv_sub hl [2, 3, 0] rfl) h
      refine L62 _ ?_  _ 0 μ7 _ _ _ (q_r 0 rfl) hP hS (lv_sub hl [2, 1, 0] rfl) h
      · clear h hl hP hS; intro μ10 H locs ls  hP hS hl h
        refine lv_iconst (v := q_I 0) hx hb dX10_findRepair_83 rfl ?_
        rw [← hQ]
        exact q_ret2 hx hb hr hlocks hP hS (q_r 0 rfl) h dX10_findRepair_84
  · clear h; intro g17 h
    refine lv_ldc hx hb hown (hts _ ck_RX10_192) dX10_findRepair_10 ?_
    rw [← hQ]
    exact q_ret2 hx hb hr hlocks hP hS (q_r (-100004) rfl) h dX10_findRepair_12
set_option maxHeartbeats 4000000 in
set_option maxRecDepth 100000 in
theorem c_Fl_plainCost (l : Launch) (D : va_G) (dA : Nat → ClassId) {z sz : Nat} {N : Nat} {o : Nat} (ho : o = 61 ∨ o = 69) {μ : q_M} {xo : Int} (h : f_Fl_plainCost N o μ = some xo) : Met l yX2_plainCost (q_wc yX2_plainCost cX2_plainCost 4 (some .int)) ({ frames := 0, cells := 0, slots := 0, locals := 0 } : Room) (va_Pc [.ref (z + o)] (q_B (q_P D dA q_kdC q_rhoC 77 z sz μ) D dA)) (q_Q (some (.int (q_I xo))) (q_R xo) (q_P D dA q_kdC q_rhoC 77 z sz μ) (q_A z 77)) 0 0 (q_A z 77) := by
  refine Met.ofW (cc := cX2_plainCost) (maxL := 4) (ret := (some .int)) (by decide) rfl ?_
  intro p e s m args below meth c s₁ B hml hv
  obtain ⟨hargs, hP, hK⟩ := hv
  have hx := B.exec
  have hb := B.bytes
  have hr := B.returns
  have hts : ∀ w ∈ q_W, w.before args s = true := fun w hw => atoms_spec (ws := q_wc yX2_plainCost cX2_plainCost 4 (some .int)) B.pre w (List.mem_cons_of_mem _ hw)
  have hown : s.vm.findClass RX2 = some m.cls := findClass_of_methodNamed B.named
  have hlocks := B.notSynchronized
  have hS : va_S (q_A z 77) s.heap s.heap [] := va_S.rf
  have hA : ∀ k, k < 77 → q_A z 77 (z + k) := fun k hk => ⟨Nat.le_add_right z k, Nat.add_lt_add_left hk z⟩
  have hl := lv_entry [.ref (z + o)] (n := 4) (Nat.le_of_ble_eq_true rfl)
  refine W.eq (by rw [hargs, lg_entry_eq]) ?_
  generalize (lg_sl [.ref (z + o)] ++ List.replicate (4 - (lg_sl [.ref (z + o)]).length) Slot.unset).toArray = ls at hl ⊢
  have hl : lv_has ls 4 [(0, .ref (z + o))] := hl
  generalize hQ : MQ below _ args s 0 0 _ = Qf
  change W p l e ({ frames := 0, cells := 0, slots := 0, locals := 0 } : Room) s m args below meth c s.heap [] 0 0 Qf (F0 m 0 ls [])
  unfold f_Fl_plainCost at h
  refine lv_lconst (v := q_J 0) hx hb dX2_plainCost_0 (by decide) ?_
  refine lv_lstore_n (lv' := [(1, .long (q_J 0)), (0, .ref (z + o))]) hx hb dX2_plainCost_1 rfl hl (by decide) rfl ?_
  clear hl; intro ls hl
  refine lv_iconst (v := q_I 0) hx hb dX2_plainCost_2 rfl ?_
  refine lv_istore_n (lv' := [(3, .int (q_I 0)), (1, .long (q_J 0)), (0, .ref (z + o))]) hx hb dX2_plainCost_3 rfl hl (by decide) rfl ?_
  clear hl; intro ls hl
  have L4 : ∀ (k39 : Int → Option Int), (∀ (x3 : Int) (H : Heap) (locs : List Loc) (ls : Array Slot), q_S x3 → q_P D dA q_kdC q_rhoC 77 z sz μ H → va_S (q_A z 77) s.heap H locs → lv_has ls 4 [(1, .long (q_J x3))] → k39 x3 = some xo → W p l e ({ frames := 0, cells := 0, slots := 0, locals := 0 } : Room) s m args below meth c H locs 0 0 Qf (F0 m 39 ls [])) → ∀ (nf4 : Nat) (x1 : Int) (x2 : Int) (H : Heap) (locs : List Loc) (ls : Array Slot), q_S x1 → q_R x2 → q_P D dA q_kdC q_rhoC 77 z sz μ H → va_S (q_A z 77) s.heap H locs → lv_has ls 4 [(0, .ref (z + o)), (1, .long (q_J x1)), (3, .int (q_I x2))] → f_Fl_plainCost_L4 o μ k39 nf4 x1 x2 = some xo → W p l e ({ frames := 0, cells := 0, slots := 0, locals := 0 } : Room) s m args below meth c H locs 0 0 Qf (F0 m 4 ls []) := by
    clear h hl hP hS
    intro k39 hk39 nf4
    induction nf4 with
    | zero =>
      intro x1 x2 H locs ls r1 r2 hP hS hl h
      rw [f_Fl_plainCost_L4] at h
      cases h
    | succ nf4 ih4 =>
      intro x1 x2 H locs ls r1 r2 hP hS hl h
      rw [f_Fl_plainCost_L4] at h
      refine lv_iload_n hx hb dX2_plainCost_4 rfl (lv_at hl 2 rfl) ?_
      refine lv_aload_n hx hb dX2_plainCost_5 rfl (lv_at hl 0 rfl) ?_
      refine q_getR hx hb hts hown hK hP fd_RX2_11 (q_ltF0 ho) (q_kdF_0 ho) rfl (q_rhF_0_0 ho) dX2_plainCost_6 ?_
      refine q_alen (v := 49) hx hb hK hP (q_ltF ho rfl) (q_kdF_1 ho) (by decide) rfl dX2_plainCost_9 ?_
      refine q_cge hx hb r2 (q_r 49 rfl) (tgt := 39) dX2_plainCost_10 (by decide) h ?_ ?_
      · clear h; intro g10 h
        exact hk39 x1 _ _ _ r1 hP hS (lv_sub hl [1] rfl) h
      · clear h; intro g10 h
        refine lv_lload_n hx hb dX2_plainCost_13 rfl (lv_at hl 1 rfl) ?_
        refine lv_aload_n hx hb dX2_plainCost_14 rfl (lv_at hl 0 rfl) ?_
        refine q_getR hx hb hts hown hK hP fd_RX2_11 (q_ltF0 ho) (q_kdF_0 ho) rfl (q_rhF_0_0 ho) dX2_plainCost_15 ?_
        refine lv_iload_n hx hb dX2_plainCost_18 rfl (lv_at hl 2 rfl) ?_
        refine q_iald hx hb hK hP (q_ltF ho rfl) (q_kdF_1 ho) r2 dX2_plainCost_19 h ?_
        clear h; intro x4 r4 h
        refine q_i2l hx hb r4 dX2_plainCost_20 ?_
        refine lv_aload_n hx hb dX2_plainCost_21 rfl (lv_at hl 0 rfl) ?_
        refine q_getR hx hb hts hown hK hP fd_RX2_21 (q_ltF0 ho) (q_kdF_0 ho) rfl (q_rhF_0_3 ho) dX2_plainCost_22 ?_
        refine lv_iload_n hx hb dX2_plainCost_25 rfl (lv_at hl 2 rfl) ?_
        refine q_lald hx hb hK hP (q_ltF ho rfl) (q_kdF_4 ho) r2 dX2_plainCost_26 h ?_
        clear h; intro x5 r5 h
        refine lv_bipush (v := q_I 30) hx hb dX2_plainCost_27 (by decide) ?_
        refine q_lshr hx hb (q_r 30 rfl) dX2_plainCost_29 h ?_
        clear h; intro x6 r6 h
        refine q_lmul hx hb dX2_plainCost_30 h ?_
        clear h; intro x7 r7 h
        refine q_ladd hx hb dX2_plainCost_31 h ?_
        clear h; intro x8 r8 h
        refine lv_lstore_n (lv' := [(1, .long (q_J x8)), (0, .ref (z + o)), (3, .int (q_I x2))]) hx hb dX2_plainCost_32 rfl hl (by decide) rfl ?_
        clear hl; intro ls hl
        refine q_iinc (k := 2) (lv' := fun t => [(3, .int (q_I t)), (1, .long (q_J x8)), (0, .ref (z + o))]) hx hb dX2_plainCost_33 hl rfl (by decide) (fun _ => rfl) h ?_
        clear h hl; intro x9 ls r9 hl h
        refine lv_goto (tgt := 4) hx hb dX2_plainCost_36 (by decide) ?_
        exact ih4 x8 x9 _ _ _ r8 r9 hP hS (lv_sub hl [2, 1, 0] rfl) h
  refine L4 _ ?_  _ 0 0 _ _ _ (q_s 0 rfl) (q_r 0 rfl) hP hS (lv_sub hl [2, 1, 0] rfl) h
  · clear h hl hP hS; intro x3 H locs ls r3 hP hS hl h
    refine lv_lload_n hx hb dX2_plainCost_39 rfl (lv_at hl 0 rfl) ?_
    refine q_l2i hx hb dX2_plainCost_40 h ?_
    clear h; intro r11 h
    rw [← hQ]
    exact q_ret1 hx hb hr hlocks hP hS r11 h dX2_plainCost_41
set_option maxHeartbeats 4000000 in
set_option maxRecDepth 100000 in
theorem c_Re_totalCost (l : Launch) (D : va_G) (dA : Nat → ClassId) {z sz : Nat} {N : Nat} {μ : q_M} {xo : Int} (h : f_Re_totalCost N μ = some xo) : Met l yX4_totalCost (q_wc yX4_totalCost cX4_totalCost 1 (some .int)) ({ frames := 1, cells := 0, slots := 0, locals := 23 } : Room) (va_Pc [.ref (z + 59)] (q_B (q_P D dA q_kdC q_rhoC 77 z sz μ) D dA)) (q_Q (some (.int (q_I xo))) (q_R xo) (q_P D dA q_kdC q_rhoC 77 z sz μ) (q_A z 77)) 0 0 (q_A z 77) := by
  refine Met.ofW (cc := cX4_totalCost) (maxL := 1) (ret := (some .int)) (by decide) rfl ?_
  intro p e s m args below meth c s₁ B hml hv
  obtain ⟨hargs, hP, hK⟩ := hv
  have hx := B.exec
  have hb := B.bytes
  have hr := B.returns
  have hts : ∀ w ∈ q_W, w.before args s = true := fun w hw => atoms_spec (ws := q_wc yX4_totalCost cX4_totalCost 1 (some .int)) B.pre w (List.mem_cons_of_mem _ hw)
  have hown : s.vm.findClass RX4 = some m.cls := findClass_of_methodNamed B.named
  have hlocks := B.notSynchronized
  have hS : va_S (q_A z 77) s.heap s.heap [] := va_S.rf
  have hA : ∀ k, k < 77 → q_A z 77 (z + k) := fun k hk => ⟨Nat.le_add_right z k, Nat.add_lt_add_left hk z⟩
  have hl := lv_entry [.ref (z + 59)] (n := 1) (Nat.le_of_ble_eq_true rfl)
  refine W.eq (by rw [hargs, lg_entry_eq]) ?_
  generalize (lg_sl [.ref (z + 59)] ++ List.replicate (1 - (lg_sl [.ref (z + 59)]).length) Slot.unset).toArray = ls at hl ⊢
  have hl : lv_has ls 1 [(0, .ref (z + 59))] := hl
  generalize hQ : MQ below _ args s 0 0 _ = Qf
  change W p l e ({ frames := 1, cells := 0, slots := 0, locals := 23 } : Room) s m args below meth c s.heap [] 0 0 Qf (F0 m 0 ls [])
  unfold f_Re_totalCost at h
  refine lv_aload_n hx hb dX4_totalCost_0 rfl (lv_at hl 0 rfl) ?_
  refine q_getR hx hb hts hown hK hP fd_RX4_12 (Nat.le_of_ble_eq_true rfl) q_kdC_59 rfl q_rhC_59_0 dX4_totalCost_1 ?_
  refine lv_iconst (v := q_I 0) hx hb dX4_totalCost_4 rfl ?_
  refine q_aald hx hb hK hP (Nat.le_of_ble_eq_true rfl) q_kdC_60 (q_r 0 rfl) q_rhC_60_0 q_rhC_60_1 dX4_totalCost_5 h ?_
  clear h; intro o1 ho1 h
  obtain ⟨x3, hv2, h⟩ := q_b_some h
  refine q_callV hx hb hml hts hown hK hP hS (As := []) (rest := []) (st1 := [.int (q_I x3)]) cv_RX4_70 (c_Fl_plainCost l D dA ho1 hv2) (q_ltF0 ho1) (q_kdF_0 ho1) rfl ⟨rfl, rfl, Nat.le_of_ble_eq_true rfl, Nat.le_of_ble_eq_true rfl⟩ ⟨Nat.le_refl _, Nat.le_refl _⟩ rfl hl.1 rfl (Nat.le_of_ble_eq_true rfl) rfl (fun _ g => g) dX4_totalCost_6 ?_
  clear hP hS hv2; intro H locs r3 hP hS _
  refine lv_aload_n hx hb dX4_totalCost_9 rfl (lv_at hl 0 rfl) ?_
  refine q_getR hx hb hts hown hK hP fd_RX4_12 (Nat.le_of_ble_eq_true rfl) q_kdC_59 rfl q_rhC_59_0 dX4_totalCost_10 ?_
  refine lv_iconst (v := q_I 1) hx hb dX4_totalCost_13 rfl ?_
  refine q_aald hx hb hK hP (Nat.le_of_ble_eq_true rfl) q_kdC_60 (q_r 1 rfl) q_rhC_60_0 q_rhC_60_1 dX4_totalCost_14 h ?_
  clear h; intro o4 ho4 h
  obtain ⟨x6, hv5, h⟩ := q_b_some h
  refine q_callV hx hb hml hts hown hK hP hS (As := []) (rest := [.int (q_I x3)]) (st1 := [.int (q_I x6), .int (q_I x3)]) cv_RX4_70 (c_Fl_plainCost l D dA ho4 hv5) (q_ltF0 ho4) (q_kdF_0 ho4) rfl ⟨rfl, rfl, Nat.le_of_ble_eq_true rfl, Nat.le_of_ble_eq_true rfl⟩ ⟨Nat.le_refl _, Nat.le_refl _⟩ rfl hl.1 rfl (Nat.le_of_ble_eq_true rfl) rfl (fun _ g => g) dX4_totalCost_15 ?_
  clear hP hS hv5; intro H locs r6 hP hS _
  refine q_iadd hx hb dX4_totalCost_18 h ?_
  clear h; intro x7 r7 h
  rw [← hQ]
  exact q_ret1 hx hb hr hlocks hP hS r7 h dX4_totalCost_19
set_option maxHeartbeats 4000000 in
set_option maxRecDepth 100000 in
theorem c_CR_repairCost (l : Launch) (D : va_G) (dA : Nat → ClassId) {z sz : Nat} {N : Nat} {μ : q_M} {xo : Int} {μo : q_M} (h : f_CR_repairCost N μ = some (xo, μo)) : Met l yX10_repairCost (q_wc yX10_repairCost cX10_repairCost 2 (some .int)) ({ frames := 6, cells := 0, slots := 0, locals := 142 } : Room) (va_Pc [.ref (z + 0)] (q_B (q_P D dA q_kdC q_rhoC 77 z sz μ) D dA)) (q_Q (some (.int (q_I xo))) (q_R xo) (q_P D dA q_kdC q_rhoC 77 z sz μo) (q_A z 77)) 0 0 (q_A z 77) := by
  refine Met.ofW (cc := cX10_repairCost) (maxL := 2) (ret := (some .int)) (by decide) rfl ?_
  intro p e s m args below meth c s₁ B hml hv
  obtain ⟨hargs, hP, hK⟩ := hv
  have hx := B.exec
  have hb := B.bytes
  have hr := B.returns
  have hts : ∀ w ∈ q_W, w.before args s = true := fun w hw => atoms_spec (ws := q_wc yX10_repairCost cX10_repairCost 2 (some .int)) B.pre w (List.mem_cons_of_mem _ hw)
  have hown : s.vm.findClass RX10 = some m.cls := findClass_of_methodNamed B.named
  have hlocks := B.notSynchronized
  have hS : va_S (q_A z 77) s.heap s.heap [] := va_S.rf
  have hA : ∀ k, k < 77 → q_A z 77 (z + k) := fun k hk => ⟨Nat.le_add_right z k, Nat.add_lt_add_left hk z⟩
  have hl := lv_entry [.ref (z + 0)] (n := 2) (Nat.le_of_ble_eq_true rfl)
  refine W.eq (by rw [hargs, lg_entry_eq]) ?_
  generalize (lg_sl [.ref (z + 0)] ++ List.replicate (2 - (lg_sl [.ref (z + 0)]).length) Slot.unset).toArray = ls at hl ⊢
  have hl : lv_has ls 2 [(0, .ref (z + 0))] := hl
  generalize hQ : MQ below _ args s 0 0 _ = Qf
  change W p l e ({ frames := 6, cells := 0, slots := 0, locals := 142 } : Room) s m args below meth c s.heap [] 0 0 Qf (F0 m 0 ls [])
  unfold f_CR_repairCost at h
  refine lv_aload_n hx hb dX10_repairCost_0 rfl (lv_at hl 0 rfl) ?_
  obtain ⟨x2, μ3, hv1, h⟩ := q_b2_some h
  refine q_callV hx hb hml hts hown hK hP hS (As := []) (rest := []) (st1 := [.int (q_I x2)]) cv_RX10_251 (c_CR_findRepair l D dA hv1) (Nat.le_of_ble_eq_true rfl) q_kdC_0 rfl ⟨rfl, rfl, Nat.le_of_ble_eq_true rfl, Nat.le_of_ble_eq_true rfl⟩ ⟨Nat.le_refl _, Nat.le_refl _⟩ rfl hl.1 rfl (Nat.le_of_ble_eq_true rfl) rfl (fun _ g => g) dX10_repairCost_1 ?_
  clear hP hS hv1; intro H locs r2 hP hS _
  refine lv_istore_n (lv' := [(1, .int (q_I x2)), (0, .ref (z + 0))]) hx hb dX10_repairCost_4 rfl hl (by decide) rfl ?_
  clear hl; intro ls hl
  refine lv_iload_n hx hb dX10_repairCost_5 rfl (lv_at hl 0 rfl) ?_
  refine q_jn_in h (fun J => ∀ (x4 : Int) (H : Heap) (locs : List Loc) (ls : Array Slot), q_R x4 → q_P D dA q_kdC q_rhoC 77 z sz μ3 H → va_S (q_A z 77) s.heap H locs → lv_has ls 2 [] → J x4 = some (xo, μo) → W p l e ({ frames := 6, cells := 0, slots := 0, locals := 142 } : Room) s m args below meth c H locs 0 0 Qf (F0 m 20 ls [.int (q_I x4)])) ?_ ?_
  · clear h hl hP hS; intro x4 H locs ls r4 hP hS hl h
    rw [← hQ]
    exact q_ret2 hx hb hr hlocks hP hS r4 h dX10_repairCost_20
  · clear h; intro j20 hj20 h
    refine q_zeq hx hb r2 (tgt := 13) dX10_repairCost_6 (by decide) h ?_ ?_
    · clear h; intro g7 h
      refine lv_aload_n hx hb dX10_repairCost_13 rfl (lv_at hl 1 rfl) ?_
      refine q_getR hx hb hts hown hK hP fd_RX10_50 (Nat.le_of_ble_eq_true rfl) q_kdC_0 rfl q_rhC_0_7 dX10_repairCost_14 ?_
      obtain ⟨x6, hv5, h⟩ := q_b_some h
      refine q_callV hx hb hml hts hown hK hP hS (As := []) (rest := []) (st1 := [.int (q_I x6)]) cv_RX10_254 (c_Re_totalCost l D dA hv5) (Nat.le_of_ble_eq_true rfl) q_kdC_59 rfl ⟨rfl, rfl, Nat.le_of_ble_eq_true rfl, Nat.le_of_ble_eq_true rfl⟩ ⟨Nat.le_refl _, Nat.le_refl _⟩ rfl hl.1 rfl (Nat.le_of_ble_eq_true rfl) rfl (fun _ g => g) dX10_repairCost_17 ?_
      clear hP hS hv5; intro H locs r6 hP hS _
      exact hj20 x6 _ _ _ r6 hP hS (lv_sub hl [] rfl) h
    · clear h; intro g7 h
      refine lv_iload_n hx hb dX10_repairCost_9 rfl (lv_at hl 0 rfl) ?_
      refine lv_goto (tgt := 20) hx hb dX10_repairCost_10 (by decide) ?_
      exact hj20 x2 _ _ _ r2 hP hS (lv_sub hl [] rfl) h
