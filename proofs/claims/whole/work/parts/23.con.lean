set_option maxHeartbeats 4000000 in
set_option maxRecDepth 100000 in
theorem c_Fl_along (l : Launch) (D : va_G) (dA : Nat → ClassId) {z sz : Nat} {o : Nat} (ho : o = 61 ∨ o = 69) {a0 : Int} (ra0 : q_R a0) {a1 : Int} (ra1 : q_R a1) {μ : q_M} {xo : Int} (h : f_Fl_along o a0 a1 μ = some xo) : Met l yX2_along (q_wc yX2_along cX2_along 3 (some .int)) ({ frames := 1, cells := 0, slots := 0, locals := 21 } : Room) (va_Pc [.ref (z + o), .int (q_I a0), .int (q_I a1)] (q_B (q_P D dA q_kdC q_rhoC 77 z sz μ) D dA)) (q_Q (some (.int (q_I xo))) (q_R xo) (q_P D dA q_kdC q_rhoC 77 z sz μ) (q_A z 77)) 0 0 (q_A z 77) := by
  refine Met.ofW (cc := cX2_along) (maxL := 3) (ret := (some .int)) (by decide) rfl ?_
  intro p e s m args below meth c s₁ B hml hv
  obtain ⟨hargs, hP, hK⟩ := hv
  have hx := B.exec
  have hb := B.bytes
  have hr := B.returns
  have hts : ∀ w ∈ q_W, w.before args s = true := fun w hw => atoms_spec (ws := q_wc yX2_along cX2_along 3 (some .int)) B.pre w (List.mem_cons_of_mem _ hw)
  have hown : s.vm.findClass RX2 = some m.cls := findClass_of_methodNamed B.named
  have hlocks := B.notSynchronized
  have hS : va_S (q_A z 77) s.heap s.heap [] := va_S.rf
  have hA : ∀ k, k < 77 → q_A z 77 (z + k) := fun k hk => ⟨Nat.le_add_right z k, Nat.add_lt_add_left hk z⟩
  have hl := lv_entry [.ref (z + o), .int (q_I a0), .int (q_I a1)] (n := 3) (Nat.le_of_ble_eq_true rfl)
  refine W.eq (by rw [hargs, lg_entry_eq]) ?_
  generalize (lg_sl [.ref (z + o), .int (q_I a0), .int (q_I a1)] ++ List.replicate (3 - (lg_sl [.ref (z + o), .int (q_I a0), .int (q_I a1)]).length) Slot.unset).toArray = ls at hl ⊢
  have hl : lv_has ls 3 [(0, .ref (z + o)), (1, .int (q_I a0)), (2, .int (q_I a1))] := hl
  generalize hQ : MQ below _ args s 0 0 _ = Qf
  change W p l e ({ frames := 1, cells := 0, slots := 0, locals := 21 } : Room) s m args below meth c s.heap [] 0 0 Qf (F0 m 0 ls [])
  unfold f_Fl_along at h
  refine lv_aload_n hx hb dX2_along_0 rfl (lv_at hl 0 rfl) ?_
  refine q_getR hx hb hts hown hK hP fd_RX2_11 (q_ltF0 ho) (q_kdF_0 ho) rfl (q_rhF_0_0 ho) dX2_along_1 ?_
  refine lv_iload_n hx hb dX2_along_4 rfl (lv_at hl 1 rfl) ?_
  refine lv_iload_n hx hb dX2_along_5 rfl (lv_at hl 2 rfl) ?_
  obtain ⟨x2, hv1, h⟩ := q_b_some h
  refine q_callS hx hb hml hts hown hK hP hS (As := [.int (q_I a0), .int (q_I a1)]) (rest := [.ref (z + (o + 1))]) (st1 := [.int (q_I x2), .ref (z + (o + 1))]) cs_RX2_34 (c_Fl_arc l D dA ra0 ra1 hv1) ⟨rfl, rfl, Nat.le_of_ble_eq_true rfl, Nat.le_of_ble_eq_true rfl⟩ ⟨Nat.le_refl _, Nat.le_refl _⟩ rfl hl.1 rfl (Nat.le_of_ble_eq_true rfl) rfl (fun _ g => g) dX2_along_6 ?_
  clear hP hS hv1; intro H locs r2 hP hS _
  refine q_iald hx hb hK hP (q_ltF ho rfl) (q_kdF_1 ho) r2 dX2_along_9 h ?_
  clear h; intro x3 r3 h
  rw [← hQ]
  exact q_ret1 hx hb hr hlocks hP hS r3 h dX2_along_10
set_option maxHeartbeats 4000000 in
set_option maxRecDepth 100000 in
theorem c_Re_amountMoved (l : Launch) (D : va_G) (dA : Nat → ClassId) {z sz : Nat} {a0 : Int} (ra0 : q_R a0) {a1 : Int} (ra1 : q_R a1) {a2 : Int} (ra2 : q_R a2) {μ : q_M} {xo : Int} (h : f_Re_amountMoved a0 a1 a2 μ = some xo) : Met l yX4_amountMoved (q_wc yX4_amountMoved cX4_amountMoved 4 (some .int)) ({ frames := 2, cells := 0, slots := 0, locals := 43 } : Room) (va_Pc [.ref (z + 59), .int (q_I a0), .int (q_I a1), .int (q_I a2)] (q_B (q_P D dA q_kdC q_rhoC 77 z sz μ) D dA)) (q_Q (some (.int (q_I xo))) (q_R xo) (q_P D dA q_kdC q_rhoC 77 z sz μ) (q_A z 77)) 0 0 (q_A z 77) := by
  refine Met.ofW (cc := cX4_amountMoved) (maxL := 4) (ret := (some .int)) (by decide) rfl ?_
  intro p e s m args below meth c s₁ B hml hv
  obtain ⟨hargs, hP, hK⟩ := hv
  have hx := B.exec
  have hb := B.bytes
  have hr := B.returns
  have hts : ∀ w ∈ q_W, w.before args s = true := fun w hw => atoms_spec (ws := q_wc yX4_amountMoved cX4_amountMoved 4 (some .int)) B.pre w (List.mem_cons_of_mem _ hw)
  have hown : s.vm.findClass RX4 = some m.cls := findClass_of_methodNamed B.named
  have hlocks := B.notSynchronized
  have hS : va_S (q_A z 77) s.heap s.heap [] := va_S.rf
  have hA : ∀ k, k < 77 → q_A z 77 (z + k) := fun k hk => ⟨Nat.le_add_right z k, Nat.add_lt_add_left hk z⟩
  have hl := lv_entry [.ref (z + 59), .int (q_I a0), .int (q_I a1), .int (q_I a2)] (n := 4) (Nat.le_of_ble_eq_true rfl)
  refine W.eq (by rw [hargs, lg_entry_eq]) ?_
  generalize (lg_sl [.ref (z + 59), .int (q_I a0), .int (q_I a1), .int (q_I a2)] ++ List.replicate (4 - (lg_sl [.ref (z + 59), .int (q_I a0), .int (q_I a1), .int (q_I a2)]).length) Slot.unset).toArray = ls at hl ⊢
  have hl : lv_has ls 4 [(0, .ref (z + 59)), (1, .int (q_I a0)), (2, .int (q_I a1)), (3, .int (q_I a2))] := hl
  generalize hQ : MQ below _ args s 0 0 _ = Qf
  change W p l e ({ frames := 2, cells := 0, slots := 0, locals := 43 } : Room) s m args below meth c s.heap [] 0 0 Qf (F0 m 0 ls [])
  unfold f_Re_amountMoved at h
  refine lv_aload_n hx hb dX4_amountMoved_0 rfl (lv_at hl 0 rfl) ?_
  refine q_getR hx hb hts hown hK hP fd_RX4_12 (Nat.le_of_ble_eq_true rfl) q_kdC_59 rfl q_rhC_59_0 dX4_amountMoved_1 ?_
  refine lv_iload_n hx hb dX4_amountMoved_4 rfl (lv_at hl 3 rfl) ?_
  refine q_aald hx hb hK hP (Nat.le_of_ble_eq_true rfl) q_kdC_60 ra2 q_rhC_60_0 q_rhC_60_1 dX4_amountMoved_5 h ?_
  clear h; intro o1 ho1 h
  refine lv_iload_n hx hb dX4_amountMoved_6 rfl (lv_at hl 1 rfl) ?_
  refine lv_iload_n hx hb dX4_amountMoved_7 rfl (lv_at hl 2 rfl) ?_
  obtain ⟨x3, hv2, h⟩ := q_b_some h
  refine q_callV hx hb hml hts hown hK hP hS (As := [.int (q_I a0), .int (q_I a1)]) (rest := []) (st1 := [.int (q_I x3)]) cv_RX4_74 (c_Fl_along l D dA ho1 ra0 ra1 hv2) (q_ltF0 ho1) (q_kdF_0 ho1) rfl ⟨rfl, rfl, Nat.le_of_ble_eq_true rfl, Nat.le_of_ble_eq_true rfl⟩ ⟨Nat.le_refl _, Nat.le_refl _⟩ rfl hl.1 rfl (Nat.le_of_ble_eq_true rfl) rfl (fun _ g => g) dX4_amountMoved_8 ?_
  clear hP hS hv2; intro H locs r3 hP hS _
  rw [← hQ]
  exact q_ret1 hx hb hr hlocks hP hS r3 h dX4_amountMoved_11
set_option maxHeartbeats 4000000 in
set_option maxRecDepth 100000 in
theorem c_CR_moved (l : Launch) (D : va_G) (dA : Nat → ClassId) {z sz : Nat} {N : Nat} {a0 : Int} (ra0 : q_R a0) {a1 : Int} (ra1 : q_R a1) {a2 : Int} (ra2 : q_R a2) {μ : q_M} {xo : Int} {μo : q_M} (h : f_CR_moved N a0 a1 a2 μ = some (xo, μo)) : Met l yX10_moved (q_wc yX10_moved cX10_moved 5 (some .int)) ({ frames := 6, cells := 0, slots := 0, locals := 142 } : Room) (va_Pc [.ref (z + 0), .int (q_I a0), .int (q_I a1), .int (q_I a2)] (q_B (q_P D dA q_kdC q_rhoC 77 z sz μ) D dA)) (q_Q (some (.int (q_I xo))) (q_R xo) (q_P D dA q_kdC q_rhoC 77 z sz μo) (q_A z 77)) 0 0 (q_A z 77) := by
  refine Met.ofW (cc := cX10_moved) (maxL := 5) (ret := (some .int)) (by decide) rfl ?_
  intro p e s m args below meth c s₁ B hml hv
  obtain ⟨hargs, hP, hK⟩ := hv
  have hx := B.exec
  have hb := B.bytes
  have hr := B.returns
  have hts : ∀ w ∈ q_W, w.before args s = true := fun w hw => atoms_spec (ws := q_wc yX10_moved cX10_moved 5 (some .int)) B.pre w (List.mem_cons_of_mem _ hw)
  have hown : s.vm.findClass RX10 = some m.cls := findClass_of_methodNamed B.named
  have hlocks := B.notSynchronized
  have hS : va_S (q_A z 77) s.heap s.heap [] := va_S.rf
  have hA : ∀ k, k < 77 → q_A z 77 (z + k) := fun k hk => ⟨Nat.le_add_right z k, Nat.add_lt_add_left hk z⟩
  have hl := lv_entry [.ref (z + 0), .int (q_I a0), .int (q_I a1), .int (q_I a2)] (n := 5) (Nat.le_of_ble_eq_true rfl)
  refine W.eq (by rw [hargs, lg_entry_eq]) ?_
  generalize (lg_sl [.ref (z + 0), .int (q_I a0), .int (q_I a1), .int (q_I a2)] ++ List.replicate (5 - (lg_sl [.ref (z + 0), .int (q_I a0), .int (q_I a1), .int (q_I a2)]).length) Slot.unset).toArray = ls at hl ⊢
  have hl : lv_has ls 5 [(0, .ref (z + 0)), (1, .int (q_I a0)), (2, .int (q_I a1)), (3, .int (q_I a2))] := hl
  generalize hQ : MQ below _ args s 0 0 _ = Qf
  change W p l e ({ frames := 6, cells := 0, slots := 0, locals := 142 } : Room) s m args below meth c s.heap [] 0 0 Qf (F0 m 0 ls [])
  unfold f_CR_moved at h
  refine lv_aload_n hx hb dX10_moved_0 rfl (lv_at hl 0 rfl) ?_
  refine lv_iload_n hx hb dX10_moved_1 rfl (lv_at hl 1 rfl) ?_
  refine lv_iload_n hx hb dX10_moved_2 rfl (lv_at hl 2 rfl) ?_
  obtain ⟨x2, hv1, h⟩ := q_b_some h
  refine q_callV hx hb hml hts hown hK hP hS (As := [.int (q_I a0), .int (q_I a1)]) (rest := []) (st1 := [.int (q_I x2)]) cv_RX10_100 (c_CR_isPair l D dA ra0 ra1 hv1) (Nat.le_of_ble_eq_true rfl) q_kdC_0 rfl ⟨rfl, rfl, Nat.le_of_ble_eq_true rfl, Nat.le_of_ble_eq_true rfl⟩ ⟨Nat.le_refl _, Nat.le_refl _⟩ rfl hl.1 rfl (Nat.le_of_ble_eq_true rfl) rfl (fun _ g => g) dX10_moved_3 ?_
  clear hP hS hv1; intro H locs r2 hP hS _
  refine q_jn_in h (fun J => ∀ (H : Heap) (locs : List Loc) (ls : Array Slot), q_P D dA q_kdC q_rhoC 77 z sz μ H → va_S (q_A z 77) s.heap H locs → lv_has ls 5 [] → J = some (xo, μo) → W p l e ({ frames := 6, cells := 0, slots := 0, locals := 142 } : Room) s m args below meth c H locs 0 0 Qf (F0 m 16 ls [])) ?_ ?_
  · clear h hl hP hS; intro  H locs ls  hP hS hl h
    refine lv_ldc hx hb hown (hts _ ck_RX10_74) dX10_moved_16 ?_
    rw [← hQ]
    exact q_ret2 hx hb hr hlocks hP hS (q_r (-100001) rfl) h dX10_moved_18
  · clear h; intro j16 hj16 h
    refine q_zeq hx hb r2 (tgt := 16) dX10_moved_6 (by decide) h ?_ ?_
    · clear h; intro g13 h
      exact hj16  _ _ _ hP hS (lv_sub hl [] rfl) h
    · clear h; intro g13 h
      refine lv_iload_n hx hb dX10_moved_9 rfl (lv_at hl 3 rfl) ?_
      obtain ⟨x4, hv3, h⟩ := q_b_some h
      refine q_callS hx hb hml hts hown hK hP hS (As := [.int (q_I a2)]) (rest := []) (st1 := [.int (q_I x4)]) cs_RX10_71 (c_CR_isStock l D dA ra2 hv3) ⟨rfl, rfl, Nat.le_of_ble_eq_true rfl, Nat.le_of_ble_eq_true rfl⟩ ⟨Nat.le_refl _, Nat.le_refl _⟩ rfl hl.1 rfl (Nat.le_of_ble_eq_true rfl) rfl (fun _ g => g) dX10_moved_10 ?_
      clear hP hS hv3; intro H locs r4 hP hS _
      refine q_zne hx hb r4 (tgt := 19) dX10_moved_13 (by decide) h ?_ ?_
      · clear h; intro g12 h
        exact hj16  _ _ _ hP hS (lv_sub hl [] rfl) h
      · clear h; intro g12 h
        refine lv_aload_n hx hb dX10_moved_19 rfl (lv_at hl 0 rfl) ?_
        obtain ⟨x6, μ7, hv5, h⟩ := q_b2_some h
        refine q_callV hx hb hml hts hown hK hP hS (As := []) (rest := []) (st1 := [.int (q_I x6)]) cv_RX10_251 (c_CR_findRepair l D dA hv5) (Nat.le_of_ble_eq_true rfl) q_kdC_0 rfl ⟨rfl, rfl, Nat.le_of_ble_eq_true rfl, Nat.le_of_ble_eq_true rfl⟩ ⟨Nat.le_refl _, Nat.le_refl _⟩ rfl hl.1 rfl (Nat.le_of_ble_eq_true rfl) rfl (fun _ g => g) dX10_moved_20 ?_
        clear hP hS hv5; intro H locs r6 hP hS _
        refine lv_istore (lv' := [(4, .int (q_I x6)), (0, .ref (z + 0)), (1, .int (q_I a0)), (2, .int (q_I a1)), (3, .int (q_I a2))]) hx hb dX10_moved_23 hl (by decide) rfl ?_
        clear hl; intro ls hl
        refine lv_iload hx hb dX10_moved_25 (lv_at hl 0 rfl) ?_
        refine q_jn_in h (fun J => ∀ (x8 : Int) (H : Heap) (locs : List Loc) (ls : Array Slot), q_R x8 → q_P D dA q_kdC q_rhoC 77 z sz μ7 H → va_S (q_A z 77) s.heap H locs → lv_has ls 5 [] → J x8 = some (xo, μo) → W p l e ({ frames := 6, cells := 0, slots := 0, locals := 142 } : Room) s m args below meth c H locs 0 0 Qf (F0 m 45 ls [.int (q_I x8)])) ?_ ?_
        · clear h hl hP hS; intro x8 H locs ls r8 hP hS hl h
          rw [← hQ]
          exact q_ret2 hx hb hr hlocks hP hS r8 h dX10_moved_45
        · clear h; intro j45 hj45 h
          refine q_zeq hx hb r6 (tgt := 35) dX10_moved_27 (by decide) h ?_ ?_
          · clear h; intro g11 h
            refine lv_aload_n hx hb dX10_moved_35 rfl (lv_at hl 1 rfl) ?_
            refine q_getR hx hb hts hown hK hP fd_RX10_50 (Nat.le_of_ble_eq_true rfl) q_kdC_0 rfl q_rhC_0_7 dX10_moved_36 ?_
            refine lv_iload_n hx hb dX10_moved_39 rfl (lv_at hl 2 rfl) ?_
            refine lv_iload_n hx hb dX10_moved_40 rfl (lv_at hl 3 rfl) ?_
            refine lv_iload_n hx hb dX10_moved_41 rfl (lv_at hl 4 rfl) ?_
            obtain ⟨x10, hv9, h⟩ := q_b_some h
            refine q_callV hx hb hml hts hown hK hP hS (As := [.int (q_I a0), .int (q_I a1), .int (q_I a2)]) (rest := []) (st1 := [.int (q_I x10)]) cv_RX10_257 (c_Re_amountMoved l D dA ra0 ra1 ra2 hv9) (Nat.le_of_ble_eq_true rfl) q_kdC_59 rfl ⟨rfl, rfl, Nat.le_of_ble_eq_true rfl, Nat.le_of_ble_eq_true rfl⟩ ⟨Nat.le_refl _, Nat.le_refl _⟩ rfl hl.1 rfl (Nat.le_of_ble_eq_true rfl) rfl (fun _ g => g) dX10_moved_42 ?_
            clear hP hS hv9; intro H locs r10 hP hS _
            exact hj45 x10 _ _ _ r10 hP hS (lv_sub hl [] rfl) h
          · clear h; intro g11 h
            refine lv_iload hx hb dX10_moved_30 (lv_at hl 0 rfl) ?_
            refine lv_goto (tgt := 45) hx hb dX10_moved_32 (by decide) ?_
            exact hj45 x6 _ _ _ r6 hP hS (lv_sub hl [] rfl) h
set_option maxHeartbeats 4000000 in
set_option maxRecDepth 100000 in
theorem c_Re_amountBurnt (l : Launch) (D : va_G) (dA : Nat → ClassId) {z sz : Nat} {a0 : Int} (ra0 : q_R a0) {a1 : Int} (ra1 : q_R a1) {μ : q_M} {xo : Int} (h : f_Re_amountBurnt a0 a1 μ = some xo) : Met l yX4_amountBurnt (q_wc yX4_amountBurnt cX4_amountBurnt 3 (some .int)) ({ frames := 2, cells := 0, slots := 0, locals := 43 } : Room) (va_Pc [.ref (z + 59), .int (q_I a0), .int (q_I a1)] (q_B (q_P D dA q_kdC q_rhoC 77 z sz μ) D dA)) (q_Q (some (.int (q_I xo))) (q_R xo) (q_P D dA q_kdC q_rhoC 77 z sz μ) (q_A z 77)) 0 0 (q_A z 77) := by
  refine Met.ofW (cc := cX4_amountBurnt) (maxL := 3) (ret := (some .int)) (by decide) rfl ?_
  intro p e s m args below meth c s₁ B hml hv
  obtain ⟨hargs, hP, hK⟩ := hv
  have hx := B.exec
  have hb := B.bytes
  have hr := B.returns
  have hts : ∀ w ∈ q_W, w.before args s = true := fun w hw => atoms_spec (ws := q_wc yX4_amountBurnt cX4_amountBurnt 3 (some .int)) B.pre w (List.mem_cons_of_mem _ hw)
  have hown : s.vm.findClass RX4 = some m.cls := findClass_of_methodNamed B.named
  have hlocks := B.notSynchronized
  have hS : va_S (q_A z 77) s.heap s.heap [] := va_S.rf
  have hA : ∀ k, k < 77 → q_A z 77 (z + k) := fun k hk => ⟨Nat.le_add_right z k, Nat.add_lt_add_left hk z⟩
  have hl := lv_entry [.ref (z + 59), .int (q_I a0), .int (q_I a1)] (n := 3) (Nat.le_of_ble_eq_true rfl)
  refine W.eq (by rw [hargs, lg_entry_eq]) ?_
  generalize (lg_sl [.ref (z + 59), .int (q_I a0), .int (q_I a1)] ++ List.replicate (3 - (lg_sl [.ref (z + 59), .int (q_I a0), .int (q_I a1)]).length) Slot.unset).toArray = ls at hl ⊢
  have hl : lv_has ls 3 [(0, .ref (z + 59)), (1, .int (q_I a0)), (2, .int (q_I a1))] := hl
  generalize hQ : MQ below _ args s 0 0 _ = Qf
  change W p l e ({ frames := 2, cells := 0, slots := 0, locals := 43 } : Room) s m args below meth c s.heap [] 0 0 Qf (F0 m 0 ls [])
  unfold f_Re_amountBurnt at h
  refine lv_aload_n hx hb dX4_amountBurnt_0 rfl (lv_at hl 0 rfl) ?_
  refine q_getR hx hb hts hown hK hP fd_RX4_12 (Nat.le_of_ble_eq_true rfl) q_kdC_59 rfl q_rhC_59_0 dX4_amountBurnt_1 ?_
  refine lv_iload_n hx hb dX4_amountBurnt_4 rfl (lv_at hl 2 rfl) ?_
  refine q_aald hx hb hK hP (Nat.le_of_ble_eq_true rfl) q_kdC_60 ra1 q_rhC_60_0 q_rhC_60_1 dX4_amountBurnt_5 h ?_
  clear h; intro o1 ho1 h
  refine lv_iload_n hx hb dX4_amountBurnt_6 rfl (lv_at hl 1 rfl) ?_
  refine lv_iconst (v := q_I 5) hx hb dX4_amountBurnt_7 rfl ?_
  obtain ⟨x3, hv2, h⟩ := q_b_some h
  refine q_callV hx hb hml hts hown hK hP hS (As := [.int (q_I a0), .int (q_I 5)]) (rest := []) (st1 := [.int (q_I x3)]) cv_RX4_74 (c_Fl_along l D dA ho1 ra0 (q_r 5 rfl) hv2) (q_ltF0 ho1) (q_kdF_0 ho1) rfl ⟨rfl, rfl, Nat.le_of_ble_eq_true rfl, Nat.le_of_ble_eq_true rfl⟩ ⟨Nat.le_refl _, Nat.le_refl _⟩ rfl hl.1 rfl (Nat.le_of_ble_eq_true rfl) rfl (fun _ g => g) dX4_amountBurnt_8 ?_
  clear hP hS hv2; intro H locs r3 hP hS _
  rw [← hQ]
  exact q_ret1 hx hb hr hlocks hP hS r3 h dX4_amountBurnt_11
set_option maxHeartbeats 4000000 in
set_option maxRecDepth 100000 in
theorem c_Re_amountGranted (l : Launch) (D : va_G) (dA : Nat → ClassId) {z sz : Nat} {a0 : Int} (ra0 : q_R a0) {a1 : Int} (ra1 : q_R a1) {μ : q_M} {xo : Int} (h : f_Re_amountGranted a0 a1 μ = some xo) : Met l yX4_amountGranted (q_wc yX4_amountGranted cX4_amountGranted 3 (some .int)) ({ frames := 2, cells := 0, slots := 0, locals := 43 } : Room) (va_Pc [.ref (z + 59), .int (q_I a0), .int (q_I a1)] (q_B (q_P D dA q_kdC q_rhoC 77 z sz μ) D dA)) (q_Q (some (.int (q_I xo))) (q_R xo) (q_P D dA q_kdC q_rhoC 77 z sz μ) (q_A z 77)) 0 0 (q_A z 77) := by
  refine Met.ofW (cc := cX4_amountGranted) (maxL := 3) (ret := (some .int)) (by decide) rfl ?_
  intro p e s m args below meth c s₁ B hml hv
  obtain ⟨hargs, hP, hK⟩ := hv
  have hx := B.exec
  have hb := B.bytes
  have hr := B.returns
  have hts : ∀ w ∈ q_W, w.before args s = true := fun w hw => atoms_spec (ws := q_wc yX4_amountGranted cX4_amountGranted 3 (some .int)) B.pre w (List.mem_cons_of_mem _ hw)
  have hown : s.vm.findClass RX4 = some m.cls := findClass_of_methodNamed B.named
  have hlocks := B.notSynchronized
  have hS : va_S (q_A z 77) s.heap s.heap [] := va_S.rf
  have hA : ∀ k, k < 77 → q_A z 77 (z + k) := fun k hk => ⟨Nat.le_add_right z k, Nat.add_lt_add_left hk z⟩
  have hl := lv_entry [.ref (z + 59), .int (q_I a0), .int (q_I a1)] (n := 3) (Nat.le_of_ble_eq_true rfl)
  refine W.eq (by rw [hargs, lg_entry_eq]) ?_
  generalize (lg_sl [.ref (z + 59), .int (q_I a0), .int (q_I a1)] ++ List.replicate (3 - (lg_sl [.ref (z + 59), .int (q_I a0), .int (q_I a1)]).length) Slot.unset).toArray = ls at hl ⊢
  have hl : lv_has ls 3 [(0, .ref (z + 59)), (1, .int (q_I a0)), (2, .int (q_I a1))] := hl
  generalize hQ : MQ below _ args s 0 0 _ = Qf
  change W p l e ({ frames := 2, cells := 0, slots := 0, locals := 43 } : Room) s m args below meth c s.heap [] 0 0 Qf (F0 m 0 ls [])
  unfold f_Re_amountGranted at h
  refine lv_aload_n hx hb dX4_amountGranted_0 rfl (lv_at hl 0 rfl) ?_
  refine q_getR hx hb hts hown hK hP fd_RX4_12 (Nat.le_of_ble_eq_true rfl) q_kdC_59 rfl q_rhC_59_0 dX4_amountGranted_1 ?_
  refine lv_iload_n hx hb dX4_amountGranted_4 rfl (lv_at hl 2 rfl) ?_
  refine q_aald hx hb hK hP (Nat.le_of_ble_eq_true rfl) q_kdC_60 ra1 q_rhC_60_0 q_rhC_60_1 dX4_amountGranted_5 h ?_
  clear h; intro o1 ho1 h
  refine lv_iconst (v := q_I 5) hx hb dX4_amountGranted_6 rfl ?_
  refine lv_iload_n hx hb dX4_amountGranted_7 rfl (lv_at hl 1 rfl) ?_
  obtain ⟨x3, hv2, h⟩ := q_b_some h
  refine q_callV hx hb hml hts hown hK hP hS (As := [.int (q_I 5), .int (q_I a0)]) (rest := []) (st1 := [.int (q_I x3)]) cv_RX4_74 (c_Fl_along l D dA ho1 (q_r 5 rfl) ra0 hv2) (q_ltF0 ho1) (q_kdF_0 ho1) rfl ⟨rfl, rfl, Nat.le_of_ble_eq_true rfl, Nat.le_of_ble_eq_true rfl⟩ ⟨Nat.le_refl _, Nat.le_refl _⟩ rfl hl.1 rfl (Nat.le_of_ble_eq_true rfl) rfl (fun _ g => g) dX4_amountGranted_8 ?_
  clear hP hS hv2; intro H locs r3 hP hS _
  rw [← hQ]
  exact q_ret1 hx hb hr hlocks hP hS r3 h dX4_amountGranted_11
set_option maxHeartbeats 4000000 in
set_option maxRecDepth 100000 in
theorem c_CR_outside (l : Launch) (D : va_G) (dA : Nat → ClassId) {z sz : Nat} {N : Nat} {a0 : Int} (ra0 : q_R a0) {a1 : Int} (ra1 : q_R a1) {a2 : Int} (ra2 : q_R a2) {μ : q_M} {xo : Int} {μo : q_M} (h : f_CR_outside N a0 a1 a2 μ = some (xo, μo)) : Met l yX10_outside (q_wc yX10_outside cX10_outside 5 (some .int)) ({ frames := 6, cells := 0, slots := 0, locals := 142 } : Room) (va_Pc [.ref (z + 0), .int (q_I a0), .int (q_I a1), .int (q_I a2)] (q_B (q_P D dA q_kdC q_rhoC 77 z sz μ) D dA)) (q_Q (some (.int (q_I xo))) (q_R xo) (q_P D dA q_kdC q_rhoC 77 z sz μo) (q_A z 77)) 0 0 (q_A z 77) := by
  refine Met.ofW (cc := cX10_outside) (maxL := 5) (ret := (some .int)) (by decide) rfl ?_
  intro p e s m args below meth c s₁ B hml hv
  obtain ⟨hargs, hP, hK⟩ := hv
  have hx := B.exec
  have hb := B.bytes
  have hr := B.returns
  have hts : ∀ w ∈ q_W, w.before args s = true := fun w hw => atoms_spec (ws := q_wc yX10_outside cX10_outside 5 (some .int)) B.pre w (List.mem_cons_of_mem _ hw)
  have hown : s.vm.findClass RX10 = some m.cls := findClass_of_methodNamed B.named
  have hlocks := B.notSynchronized
  have hS : va_S (q_A z 77) s.heap s.heap [] := va_S.rf
  have hA : ∀ k, k < 77 → q_A z 77 (z + k) := fun k hk => ⟨Nat.le_add_right z k, Nat.add_lt_add_left hk z⟩
  have hl := lv_entry [.ref (z + 0), .int (q_I a0), .int (q_I a1), .int (q_I a2)] (n := 5) (Nat.le_of_ble_eq_true rfl)
  refine W.eq (by rw [hargs, lg_entry_eq]) ?_
  generalize (lg_sl [.ref (z + 0), .int (q_I a0), .int (q_I a1), .int (q_I a2)] ++ List.replicate (5 - (lg_sl [.ref (z + 0), .int (q_I a0), .int (q_I a1), .int (q_I a2)]).length) Slot.unset).toArray = ls at hl ⊢
  have hl : lv_has ls 5 [(0, .ref (z + 0)), (1, .int (q_I a0)), (2, .int (q_I a1)), (3, .int (q_I a2))] := hl
  generalize hQ : MQ below _ args s 0 0 _ = Qf
  change W p l e ({ frames := 6, cells := 0, slots := 0, locals := 142 } : Room) s m args below meth c s.heap [] 0 0 Qf (F0 m 0 ls [])
  unfold f_CR_outside at h
  refine lv_aload_n hx hb dX10_outside_0 rfl (lv_at hl 0 rfl) ?_
  refine lv_iload_n hx hb dX10_outside_1 rfl (lv_at hl 1 rfl) ?_
  obtain ⟨x2, hv1, h⟩ := q_b_some h
  refine q_callV hx hb hml hts hown hK hP hS (As := [.int (q_I a0)]) (rest := []) (st1 := [.int (q_I x2)]) cv_RX10_67 (c_CR_isProcess l D dA ra0 hv1) (Nat.le_of_ble_eq_true rfl) q_kdC_0 rfl ⟨rfl, rfl, Nat.le_of_ble_eq_true rfl, Nat.le_of_ble_eq_true rfl⟩ ⟨Nat.le_refl _, Nat.le_refl _⟩ rfl hl.1 rfl (Nat.le_of_ble_eq_true rfl) rfl (fun _ g => g) dX10_outside_2 ?_
  clear hP hS hv1; intro H locs r2 hP hS _
  refine q_jn_in h (fun J => ∀ (H : Heap) (locs : List Loc) (ls : Array Slot), q_P D dA q_kdC q_rhoC 77 z sz μ H → va_S (q_A z 77) s.heap H locs → lv_has ls 5 [] → J = some (xo, μo) → W p l e ({ frames := 6, cells := 0, slots := 0, locals := 142 } : Room) s m args below meth c H locs 0 0 Qf (F0 m 15 ls [])) ?_ ?_
  · clear h hl hP hS; intro  H locs ls  hP hS hl h
    refine lv_ldc hx hb hown (hts _ ck_RX10_74) dX10_outside_15 ?_
    rw [← hQ]
    exact q_ret2 hx hb hr hlocks hP hS (q_r (-100001) rfl) h dX10_outside_17
  · clear h; intro j15 hj15 h
    refine q_zeq hx hb r2 (tgt := 15) dX10_outside_5 (by decide) h ?_ ?_
    · clear h; intro g16 h
      exact hj15  _ _ _ hP hS (lv_sub hl [] rfl) h
    · clear h; intro g16 h
      refine lv_iload_n hx hb dX10_outside_8 rfl (lv_at hl 2 rfl) ?_
      obtain ⟨x4, hv3, h⟩ := q_b_some h
      refine q_callS hx hb hml hts hown hK hP hS (As := [.int (q_I a1)]) (rest := []) (st1 := [.int (q_I x4)]) cs_RX10_71 (c_CR_isStock l D dA ra1 hv3) ⟨rfl, rfl, Nat.le_of_ble_eq_true rfl, Nat.le_of_ble_eq_true rfl⟩ ⟨Nat.le_refl _, Nat.le_refl _⟩ rfl hl.1 rfl (Nat.le_of_ble_eq_true rfl) rfl (fun _ g => g) dX10_outside_9 ?_
      clear hP hS hv3; intro H locs r4 hP hS _
      refine q_zne hx hb r4 (tgt := 18) dX10_outside_12 (by decide) h ?_ ?_
      · clear h; intro g15 h
        exact hj15  _ _ _ hP hS (lv_sub hl [] rfl) h
      · clear h; intro g15 h
        refine lv_aload_n hx hb dX10_outside_18 rfl (lv_at hl 0 rfl) ?_
        obtain ⟨x6, μ7, hv5, h⟩ := q_b2_some h
        refine q_callV hx hb hml hts hown hK hP hS (As := []) (rest := []) (st1 := [.int (q_I x6)]) cv_RX10_251 (c_CR_findRepair l D dA hv5) (Nat.le_of_ble_eq_true rfl) q_kdC_0 rfl ⟨rfl, rfl, Nat.le_of_ble_eq_true rfl, Nat.le_of_ble_eq_true rfl⟩ ⟨Nat.le_refl _, Nat.le_refl _⟩ rfl hl.1 rfl (Nat.le_of_ble_eq_true rfl) rfl (fun _ g => g) dX10_outside_19 ?_
        clear hP hS hv5; intro H locs r6 hP hS _
        refine lv_istore (lv' := [(4, .int (q_I x6)), (0, .ref (z + 0)), (1, .int (q_I a0)), (2, .int (q_I a1)), (3, .int (q_I a2))]) hx hb dX10_outside_22 hl (by decide) rfl ?_
        clear hl; intro ls hl
        refine lv_iload hx hb dX10_outside_24 (lv_at hl 0 rfl) ?_
        refine q_zeq hx hb r6 (tgt := 32) dX10_outside_26 (by decide) h ?_ ?_
        · clear h; intro g14 h
          refine lv_iload_n hx hb dX10_outside_32 rfl (lv_at hl 4 rfl) ?_
          refine q_jn_in h (fun J => ∀ (x8 : Int) (H : Heap) (locs : List Loc) (ls : Array Slot), q_R x8 → q_P D dA q_kdC q_rhoC 77 z sz μ7 H → va_S (q_A z 77) s.heap H locs → lv_has ls 5 [] → J x8 = some (xo, μo) → W p l e ({ frames := 6, cells := 0, slots := 0, locals := 142 } : Room) s m args below meth c H locs 0 0 Qf (F0 m 57 ls [.int (q_I x8)])) ?_ ?_
          · clear h hl hP hS; intro x8 H locs ls r8 hP hS hl h
            rw [← hQ]
            exact q_ret2 hx hb hr hlocks hP hS r8 h dX10_outside_57
          · clear h; intro j57 hj57 h
            refine q_zeq hx hb ra2 (tgt := 48) dX10_outside_33 (by decide) h ?_ ?_
            · clear h; intro g13 h
              refine lv_aload_n hx hb dX10_outside_48 rfl (lv_at hl 1 rfl) ?_
              refine q_getR hx hb hts hown hK hP fd_RX10_50 (Nat.le_of_ble_eq_true rfl) q_kdC_0 rfl q_rhC_0_7 dX10_outside_49 ?_
              refine lv_iload_n hx hb dX10_outside_52 rfl (lv_at hl 2 rfl) ?_
              refine lv_iload_n hx hb dX10_outside_53 rfl (lv_at hl 3 rfl) ?_
              obtain ⟨x10, hv9, h⟩ := q_b_some h
              refine q_callV hx hb hml hts hown hK hP hS (As := [.int (q_I a0), .int (q_I a1)]) (rest := []) (st1 := [.int (q_I x10)]) cv_RX10_263 (c_Re_amountGranted l D dA ra0 ra1 hv9) (Nat.le_of_ble_eq_true rfl) q_kdC_59 rfl ⟨rfl, rfl, Nat.le_of_ble_eq_true rfl, Nat.le_of_ble_eq_true rfl⟩ ⟨Nat.le_refl _, Nat.le_refl _⟩ rfl hl.1 rfl (Nat.le_of_ble_eq_true rfl) rfl (fun _ g => g) dX10_outside_54 ?_
              clear hP hS hv9; intro H locs r10 hP hS _
              exact hj57 x10 _ _ _ r10 hP hS (lv_sub hl [] rfl) h
            · clear h; intro g13 h
              refine lv_aload_n hx hb dX10_outside_36 rfl (lv_at hl 1 rfl) ?_
              refine q_getR hx hb hts hown hK hP fd_RX10_50 (Nat.le_of_ble_eq_true rfl) q_kdC_0 rfl q_rhC_0_7 dX10_outside_37 ?_
              refine lv_iload_n hx hb dX10_outside_40 rfl (lv_at hl 2 rfl) ?_
              refine lv_iload_n hx hb dX10_outside_41 rfl (lv_at hl 3 rfl) ?_
              obtain ⟨x12, hv11, h⟩ := q_b_some h
              refine q_callV hx hb hml hts hown hK hP hS (As := [.int (q_I a0), .int (q_I a1)]) (rest := []) (st1 := [.int (q_I x12)]) cv_RX10_260 (c_Re_amountBurnt l D dA ra0 ra1 hv11) (Nat.le_of_ble_eq_true rfl) q_kdC_59 rfl ⟨rfl, rfl, Nat.le_of_ble_eq_true rfl, Nat.le_of_ble_eq_true rfl⟩ ⟨Nat.le_refl _, Nat.le_refl _⟩ rfl hl.1 rfl (Nat.le_of_ble_eq_true rfl) rfl (fun _ g => g) dX10_outside_42 ?_
              clear hP hS hv11; intro H locs r12 hP hS _
              refine lv_goto (tgt := 57) hx hb dX10_outside_45 (by decide) ?_
              exact hj57 x12 _ _ _ r12 hP hS (lv_sub hl [] rfl) h
        · clear h; intro g14 h
          refine lv_iload hx hb dX10_outside_29 (lv_at hl 0 rfl) ?_
          rw [← hQ]
          exact q_ret2 hx hb hr hlocks hP hS r6 h dX10_outside_31
set_option maxHeartbeats 4000000 in
set_option maxRecDepth 100000 in
theorem c_Re_stockAfter (l : Launch) (D : va_G) (dA : Nat → ClassId) {z sz : Nat} {a0 : Int} (ra0 : q_R a0) {a1 : Int} (ra1 : q_R a1) {μ : q_M} {xo : Int} (h : f_Re_stockAfter a0 a1 μ = some xo) : Met l yX4_stockAfter (q_wc yX4_stockAfter cX4_stockAfter 3 (some .int)) ({ frames := 2, cells := 0, slots := 0, locals := 43 } : Room) (va_Pc [.ref (z + 59), .int (q_I a0), .int (q_I a1)] (q_B (q_P D dA q_kdC q_rhoC 77 z sz μ) D dA)) (q_Q (some (.int (q_I xo))) (q_R xo) (q_P D dA q_kdC q_rhoC 77 z sz μ) (q_A z 77)) 0 0 (q_A z 77) := by
  refine Met.ofW (cc := cX4_stockAfter) (maxL := 3) (ret := (some .int)) (by decide) rfl ?_
  intro p e s m args below meth c s₁ B hml hv
  obtain ⟨hargs, hP, hK⟩ := hv
  have hx := B.exec
  have hb := B.bytes
  have hr := B.returns
  have hts : ∀ w ∈ q_W, w.before args s = true := fun w hw => atoms_spec (ws := q_wc yX4_stockAfter cX4_stockAfter 3 (some .int)) B.pre w (List.mem_cons_of_mem _ hw)
  have hown : s.vm.findClass RX4 = some m.cls := findClass_of_methodNamed B.named
  have hlocks := B.notSynchronized
  have hS : va_S (q_A z 77) s.heap s.heap [] := va_S.rf
  have hA : ∀ k, k < 77 → q_A z 77 (z + k) := fun k hk => ⟨Nat.le_add_right z k, Nat.add_lt_add_left hk z⟩
  have hl := lv_entry [.ref (z + 59), .int (q_I a0), .int (q_I a1)] (n := 3) (Nat.le_of_ble_eq_true rfl)
  refine W.eq (by rw [hargs, lg_entry_eq]) ?_
  generalize (lg_sl [.ref (z + 59), .int (q_I a0), .int (q_I a1)] ++ List.replicate (3 - (lg_sl [.ref (z + 59), .int (q_I a0), .int (q_I a1)]).length) Slot.unset).toArray = ls at hl ⊢
  have hl : lv_has ls 3 [(0, .ref (z + 59)), (1, .int (q_I a0)), (2, .int (q_I a1))] := hl
  generalize hQ : MQ below _ args s 0 0 _ = Qf
  change W p l e ({ frames := 2, cells := 0, slots := 0, locals := 43 } : Room) s m args below meth c s.heap [] 0 0 Qf (F0 m 0 ls [])
  unfold f_Re_stockAfter at h
  refine lv_aload_n hx hb dX4_stockAfter_0 rfl (lv_at hl 0 rfl) ?_
  refine q_getR hx hb hts hown hK hP fd_RX4_12 (Nat.le_of_ble_eq_true rfl) q_kdC_59 rfl q_rhC_59_0 dX4_stockAfter_1 ?_
  refine lv_iload_n hx hb dX4_stockAfter_4 rfl (lv_at hl 2 rfl) ?_
  refine q_aald hx hb hK hP (Nat.le_of_ble_eq_true rfl) q_kdC_60 ra1 q_rhC_60_0 q_rhC_60_1 dX4_stockAfter_5 h ?_
  clear h; intro o1 ho1 h
  refine lv_iload_n hx hb dX4_stockAfter_6 rfl (lv_at hl 1 rfl) ?_
  refine lv_bipush (v := q_I 6) hx hb dX4_stockAfter_7 (by decide) ?_
  obtain ⟨x3, hv2, h⟩ := q_b_some h
  refine q_callV hx hb hml hts hown hK hP hS (As := [.int (q_I a0), .int (q_I 6)]) (rest := []) (st1 := [.int (q_I x3)]) cv_RX4_74 (c_Fl_along l D dA ho1 ra0 (q_r 6 rfl) hv2) (q_ltF0 ho1) (q_kdF_0 ho1) rfl ⟨rfl, rfl, Nat.le_of_ble_eq_true rfl, Nat.le_of_ble_eq_true rfl⟩ ⟨Nat.le_refl _, Nat.le_refl _⟩ rfl hl.1 rfl (Nat.le_of_ble_eq_true rfl) rfl (fun _ g => g) dX4_stockAfter_9 ?_
  clear hP hS hv2; intro H locs r3 hP hS _
  rw [← hQ]
  exact q_ret1 hx hb hr hlocks hP hS r3 h dX4_stockAfter_12
set_option maxHeartbeats 4000000 in
set_option maxRecDepth 100000 in
theorem c_CR_repairedStock (l : Launch) (D : va_G) (dA : Nat → ClassId) {z sz : Nat} {N : Nat} {a0 : Int} (ra0 : q_R a0) {a1 : Int} (ra1 : q_R a1) {μ : q_M} {xo : Int} {μo : q_M} (h : f_CR_repairedStock N a0 a1 μ = some (xo, μo)) : Met l yX10_repairedStock (q_wc yX10_repairedStock cX10_repairedStock 4 (some .int)) ({ frames := 6, cells := 0, slots := 0, locals := 142 } : Room) (va_Pc [.ref (z + 0), .int (q_I a0), .int (q_I a1)] (q_B (q_P D dA q_kdC q_rhoC 77 z sz μ) D dA)) (q_Q (some (.int (q_I xo))) (q_R xo) (q_P D dA q_kdC q_rhoC 77 z sz μo) (q_A z 77)) 0 0 (q_A z 77) := by
  refine Met.ofW (cc := cX10_repairedStock) (maxL := 4) (ret := (some .int)) (by decide) rfl ?_
  intro p e s m args below meth c s₁ B hml hv
  obtain ⟨hargs, hP, hK⟩ := hv
  have hx := B.exec
  have hb := B.bytes
  have hr := B.returns
  have hts : ∀ w ∈ q_W, w.before args s = true := fun w hw => atoms_spec (ws := q_wc yX10_repairedStock cX10_repairedStock 4 (some .int)) B.pre w (List.mem_cons_of_mem _ hw)
  have hown : s.vm.findClass RX10 = some m.cls := findClass_of_methodNamed B.named
  have hlocks := B.notSynchronized
  have hS : va_S (q_A z 77) s.heap s.heap [] := va_S.rf
  have hA : ∀ k, k < 77 → q_A z 77 (z + k) := fun k hk => ⟨Nat.le_add_right z k, Nat.add_lt_add_left hk z⟩
  have hl := lv_entry [.ref (z + 0), .int (q_I a0), .int (q_I a1)] (n := 4) (Nat.le_of_ble_eq_true rfl)
  refine W.eq (by rw [hargs, lg_entry_eq]) ?_
  generalize (lg_sl [.ref (z + 0), .int (q_I a0), .int (q_I a1)] ++ List.replicate (4 - (lg_sl [.ref (z + 0), .int (q_I a0), .int (q_I a1)]).length) Slot.unset).toArray = ls at hl ⊢
  have hl : lv_has ls 4 [(0, .ref (z + 0)), (1, .int (q_I a0)), (2, .int (q_I a1))] := hl
  generalize hQ : MQ below _ args s 0 0 _ = Qf
  change W p l e ({ frames := 6, cells := 0, slots := 0, locals := 142 } : Room) s m args below meth c s.heap [] 0 0 Qf (F0 m 0 ls [])
  unfold f_CR_repairedStock at h
  refine lv_aload_n hx hb dX10_repairedStock_0 rfl (lv_at hl 0 rfl) ?_
  refine lv_iload_n hx hb dX10_repairedStock_1 rfl (lv_at hl 1 rfl) ?_
  obtain ⟨x2, hv1, h⟩ := q_b_some h
  refine q_callV hx hb hml hts hown hK hP hS (As := [.int (q_I a0)]) (rest := []) (st1 := [.int (q_I x2)]) cv_RX10_67 (c_CR_isProcess l D dA ra0 hv1) (Nat.le_of_ble_eq_true rfl) q_kdC_0 rfl ⟨rfl, rfl, Nat.le_of_ble_eq_true rfl, Nat.le_of_ble_eq_true rfl⟩ ⟨Nat.le_refl _, Nat.le_refl _⟩ rfl hl.1 rfl (Nat.le_of_ble_eq_true rfl) rfl (fun _ g => g) dX10_repairedStock_2 ?_
  clear hP hS hv1; intro H locs r2 hP hS _
  refine q_jn_in h (fun J => ∀ (H : Heap) (locs : List Loc) (ls : Array Slot), q_P D dA q_kdC q_rhoC 77 z sz μ H → va_S (q_A z 77) s.heap H locs → lv_has ls 4 [] → J = some (xo, μo) → W p l e ({ frames := 6, cells := 0, slots := 0, locals := 142 } : Room) s m args below meth c H locs 0 0 Qf (F0 m 15 ls [])) ?_ ?_
  · clear h hl hP hS; intro  H locs ls  hP hS hl h
    refine lv_ldc hx hb hown (hts _ ck_RX10_74) dX10_repairedStock_15 ?_
    rw [← hQ]
    exact q_ret2 hx hb hr hlocks hP hS (q_r (-100001) rfl) h dX10_repairedStock_17
  · clear h; intro j15 hj15 h
    refine q_zeq hx hb r2 (tgt := 15) dX10_repairedStock_5 (by decide) h ?_ ?_
    · clear h; intro g13 h
      exact hj15  _ _ _ hP hS (lv_sub hl [] rfl) h
    · clear h; intro g13 h
      refine lv_iload_n hx hb dX10_repairedStock_8 rfl (lv_at hl 2 rfl) ?_
      obtain ⟨x4, hv3, h⟩ := q_b_some h
      refine q_callS hx hb hml hts hown hK hP hS (As := [.int (q_I a1)]) (rest := []) (st1 := [.int (q_I x4)]) cs_RX10_71 (c_CR_isStock l D dA ra1 hv3) ⟨rfl, rfl, Nat.le_of_ble_eq_true rfl, Nat.le_of_ble_eq_true rfl⟩ ⟨Nat.le_refl _, Nat.le_refl _⟩ rfl hl.1 rfl (Nat.le_of_ble_eq_true rfl) rfl (fun _ g => g) dX10_repairedStock_9 ?_
      clear hP hS hv3; intro H locs r4 hP hS _
      refine q_zne hx hb r4 (tgt := 18) dX10_repairedStock_12 (by decide) h ?_ ?_
      · clear h; intro g12 h
        exact hj15  _ _ _ hP hS (lv_sub hl [] rfl) h
      · clear h; intro g12 h
        refine lv_aload_n hx hb dX10_repairedStock_18 rfl (lv_at hl 0 rfl) ?_
        obtain ⟨x6, μ7, hv5, h⟩ := q_b2_some h
        refine q_callV hx hb hml hts hown hK hP hS (As := []) (rest := []) (st1 := [.int (q_I x6)]) cv_RX10_251 (c_CR_findRepair l D dA hv5) (Nat.le_of_ble_eq_true rfl) q_kdC_0 rfl ⟨rfl, rfl, Nat.le_of_ble_eq_true rfl, Nat.le_of_ble_eq_true rfl⟩ ⟨Nat.le_refl _, Nat.le_refl _⟩ rfl hl.1 rfl (Nat.le_of_ble_eq_true rfl) rfl (fun _ g => g) dX10_repairedStock_19 ?_
        clear hP hS hv5; intro H locs r6 hP hS _
        refine lv_istore_n (lv' := [(3, .int (q_I x6)), (0, .ref (z + 0)), (1, .int (q_I a0)), (2, .int (q_I a1))]) hx hb dX10_repairedStock_22 rfl hl (by decide) rfl ?_
        clear hl; intro ls hl
        refine lv_iload_n hx hb dX10_repairedStock_23 rfl (lv_at hl 0 rfl) ?_
        refine q_jn_in h (fun J => ∀ (x8 : Int) (H : Heap) (locs : List Loc) (ls : Array Slot), q_R x8 → q_P D dA q_kdC q_rhoC 77 z sz μ7 H → va_S (q_A z 77) s.heap H locs → lv_has ls 4 [] → J x8 = some (xo, μo) → W p l e ({ frames := 6, cells := 0, slots := 0, locals := 142 } : Room) s m args below meth c H locs 0 0 Qf (F0 m 40 ls [.int (q_I x8)])) ?_ ?_
        · clear h hl hP hS; intro x8 H locs ls r8 hP hS hl h
          rw [← hQ]
          exact q_ret2 hx hb hr hlocks hP hS r8 h dX10_repairedStock_40
        · clear h; intro j40 hj40 h
          refine q_zeq hx hb r6 (tgt := 31) dX10_repairedStock_24 (by decide) h ?_ ?_
          · clear h; intro g11 h
            refine lv_aload_n hx hb dX10_repairedStock_31 rfl (lv_at hl 1 rfl) ?_
            refine q_getR hx hb hts hown hK hP fd_RX10_50 (Nat.le_of_ble_eq_true rfl) q_kdC_0 rfl q_rhC_0_7 dX10_repairedStock_32 ?_
            refine lv_iload_n hx hb dX10_repairedStock_35 rfl (lv_at hl 2 rfl) ?_
            refine lv_iload_n hx hb dX10_repairedStock_36 rfl (lv_at hl 3 rfl) ?_
            obtain ⟨x10, hv9, h⟩ := q_b_some h
            refine q_callV hx hb hml hts hown hK hP hS (As := [.int (q_I a0), .int (q_I a1)]) (rest := []) (st1 := [.int (q_I x10)]) cv_RX10_266 (c_Re_stockAfter l D dA ra0 ra1 hv9) (Nat.le_of_ble_eq_true rfl) q_kdC_59 rfl ⟨rfl, rfl, Nat.le_of_ble_eq_true rfl, Nat.le_of_ble_eq_true rfl⟩ ⟨Nat.le_refl _, Nat.le_refl _⟩ rfl hl.1 rfl (Nat.le_of_ble_eq_true rfl) rfl (fun _ g => g) dX10_repairedStock_37 ?_
            clear hP hS hv9; intro H locs r10 hP hS _
            exact hj40 x10 _ _ _ r10 hP hS (lv_sub hl [] rfl) h
          · clear h; intro g11 h
            refine lv_iload_n hx hb dX10_repairedStock_27 rfl (lv_at hl 0 rfl) ?_
            refine lv_goto (tgt := 40) hx hb dX10_repairedStock_28 (by decide) ?_
            exact hj40 x6 _ _ _ r6 hP hS (lv_sub hl [] rfl) h
set_option maxHeartbeats 4000000 in
set_option maxRecDepth 100000 in
theorem c_Hi_copyFrom (l : Launch) (D : va_G) (dA : Nat → ClassId) {z sz : Nat} {o : Nat} (ho : o = 5 ∨ o = 28) {oa : Nat} (hoa : oa = 5 ∨ oa = 28) {μ : q_M} {μo : q_M} (h : f_Hi_copyFrom o oa μ = some μo) : Met l yX3_copyFrom (q_wc yX3_copyFrom cX3_copyFrom 2 none) ({ frames := 2, cells := 0, slots := 0, locals := 69 } : Room) (va_Pc [.ref (z + o), .ref (z + oa)] (q_B (q_P D dA q_kdC q_rhoC 77 z sz μ) D dA)) (q_Q none True (q_P D dA q_kdC q_rhoC 77 z sz μo) (q_A z 77)) 0 0 (q_A z 77) := by
  refine Met.ofW (cc := cX3_copyFrom) (maxL := 2) (ret := none) (by decide) rfl ?_
  intro p e s m args below meth c s₁ B hml hv
  obtain ⟨hargs, hP, hK⟩ := hv
  have hx := B.exec
  have hb := B.bytes
  have hr := B.returns
  have hts : ∀ w ∈ q_W, w.before args s = true := fun w hw => atoms_spec (ws := q_wc yX3_copyFrom cX3_copyFrom 2 none) B.pre w (List.mem_cons_of_mem _ hw)
  have hown : s.vm.findClass RX3 = some m.cls := findClass_of_methodNamed B.named
  have hlocks := B.notSynchronized
  have hS : va_S (q_A z 77) s.heap s.heap [] := va_S.rf
  have hA : ∀ k, k < 77 → q_A z 77 (z + k) := fun k hk => ⟨Nat.le_add_right z k, Nat.add_lt_add_left hk z⟩
  have hl := lv_entry [.ref (z + o), .ref (z + oa)] (n := 2) (Nat.le_of_ble_eq_true rfl)
  refine W.eq (by rw [hargs, lg_entry_eq]) ?_
  generalize (lg_sl [.ref (z + o), .ref (z + oa)] ++ List.replicate (2 - (lg_sl [.ref (z + o), .ref (z + oa)]).length) Slot.unset).toArray = ls at hl ⊢
  have hl : lv_has ls 2 [(0, .ref (z + o)), (1, .ref (z + oa))] := hl
  generalize hQ : MQ below _ args s 0 0 _ = Qf
  change W p l e ({ frames := 2, cells := 0, slots := 0, locals := 69 } : Room) s m args below meth c s.heap [] 0 0 Qf (F0 m 0 ls [])
  unfold f_Hi_copyFrom at h
  refine lv_aload_n hx hb dX3_copyFrom_0 rfl (lv_at hl 0 rfl) ?_
  refine lv_aload_n hx hb dX3_copyFrom_1 rfl (lv_at hl 1 rfl) ?_
  refine q_getI hx hb hts hown hK hP fd_RX3_39 (q_ltH0 hoa) (q_kdH_0 hoa) rfl dX3_copyFrom_2 h ?_
  clear h; intro x1 r1 h
  refine q_putI hx hb hts hown hK hP hS hA fd_RX3_39 (q_ltH0 ho) (q_kdH_0 ho) rfl r1 dX3_copyFrom_5 h ?_
  clear h hP hS; intro μ2 H locs hP hS h
  refine lv_aload_n hx hb dX3_copyFrom_8 rfl (lv_at hl 1 rfl) ?_
  refine q_getR hx hb hts hown hK hP fd_RX3_9 (q_ltH0 hoa) (q_kdH_0 hoa) rfl (q_rhH_0_1 hoa) dX3_copyFrom_9 ?_
  refine lv_aload_n hx hb dX3_copyFrom_12 rfl (lv_at hl 0 rfl) ?_
  refine q_getR hx hb hts hown hK hP fd_RX3_9 (q_ltH0 ho) (q_kdH_0 ho) rfl (q_rhH_0_1 ho) dX3_copyFrom_13 ?_
  refine q_callN hx hb hml hts hown hK hP hS (As := [.ref (z + (oa + 1)), .ref (z + (o + 1))]) (rest := []) (st1 := []) cn_RX3_49 (c_CR_copyAll l D dA (q_ltH hoa rfl) (q_kdH_1 hoa) (q_ltH ho rfl) (q_kdH_1 ho) (Nat.le_of_ble_eq_true rfl) hA) ⟨rfl, rfl, Nat.le_of_ble_eq_true rfl, Nat.le_of_ble_eq_true rfl⟩ ⟨Nat.le_refl _, Nat.le_refl _⟩ rfl hl.1 rfl (Nat.le_of_ble_eq_true rfl) rfl (fun _ g => g) dX3_copyFrom_16 ?_
  clear hP hS; intro H locs _ hP hS _
  replace h := q_cp_in h; generalize q_copy μ2 (oa + 1) (o + 1) 100 = μ3 at hP h
  refine lv_aload_n hx hb dX3_copyFrom_19 rfl (lv_at hl 1 rfl) ?_
  refine q_getR hx hb hts hown hK hP fd_RX3_15 (q_ltH0 hoa) (q_kdH_0 hoa) rfl (q_rhH_0_2 hoa) dX3_copyFrom_20 ?_
  refine lv_aload_n hx hb dX3_copyFrom_23 rfl (lv_at hl 0 rfl) ?_
  refine q_getR hx hb hts hown hK hP fd_RX3_15 (q_ltH0 ho) (q_kdH_0 ho) rfl (q_rhH_0_2 ho) dX3_copyFrom_24 ?_
  refine q_callN hx hb hml hts hown hK hP hS (As := [.ref (z + (oa + 2)), .ref (z + (o + 2))]) (rest := []) (st1 := []) cn_RX3_49 (c_CR_copyAll l D dA (q_ltH hoa rfl) (q_kdH_2 hoa) (q_ltH ho rfl) (q_kdH_2 ho) (Nat.le_of_ble_eq_true rfl) hA) ⟨rfl, rfl, Nat.le_of_ble_eq_true rfl, Nat.le_of_ble_eq_true rfl⟩ ⟨Nat.le_refl _, Nat.le_refl _⟩ rfl hl.1 rfl (Nat.le_of_ble_eq_true rfl) rfl (fun _ g => g) dX3_copyFrom_27 ?_
  clear hP hS; intro H locs _ hP hS _
  replace h := q_cp_in h; generalize q_copy μ3 (oa + 2) (o + 2) 100 = μ4 at hP h
  refine lv_aload_n hx hb dX3_copyFrom_30 rfl (lv_at hl 1 rfl) ?_
  refine q_getR hx hb hts hown hK hP fd_RX3_18 (q_ltH0 hoa) (q_kdH_0 hoa) rfl (q_rhH_0_3 hoa) dX3_copyFrom_31 ?_
  refine lv_aload_n hx hb dX3_copyFrom_34 rfl (lv_at hl 0 rfl) ?_
  refine q_getR hx hb hts hown hK hP fd_RX3_18 (q_ltH0 ho) (q_kdH_0 ho) rfl (q_rhH_0_3 ho) dX3_copyFrom_35 ?_
  refine q_callN hx hb hml hts hown hK hP hS (As := [.ref (z + (oa + 3)), .ref (z + (o + 3))]) (rest := []) (st1 := []) cn_RX3_49 (c_CR_copyAll l D dA (q_ltH hoa rfl) (q_kdH_3 hoa) (q_ltH ho rfl) (q_kdH_3 ho) (Nat.le_of_ble_eq_true rfl) hA) ⟨rfl, rfl, Nat.le_of_ble_eq_true rfl, Nat.le_of_ble_eq_true rfl⟩ ⟨Nat.le_refl _, Nat.le_refl _⟩ rfl hl.1 rfl (Nat.le_of_ble_eq_true rfl) rfl (fun _ g => g) dX3_copyFrom_38 ?_
  clear hP hS; intro H locs _ hP hS _
  replace h := q_cp_in h; generalize q_copy μ4 (oa + 3) (o + 3) 100 = μ5 at hP h
  refine lv_aload_n hx hb dX3_copyFrom_41 rfl (lv_at hl 1 rfl) ?_
  refine q_getR hx hb hts hown hK hP fd_RX3_21 (q_ltH0 hoa) (q_kdH_0 hoa) rfl (q_rhH_0_4 hoa) dX3_copyFrom_42 ?_
  refine lv_aload_n hx hb dX3_copyFrom_45 rfl (lv_at hl 0 rfl) ?_
  refine q_getR hx hb hts hown hK hP fd_RX3_21 (q_ltH0 ho) (q_kdH_0 ho) rfl (q_rhH_0_4 ho) dX3_copyFrom_46 ?_
  refine q_callN hx hb hml hts hown hK hP hS (As := [.ref (z + (oa + 4)), .ref (z + (o + 4))]) (rest := []) (st1 := []) cn_RX3_49 (c_CR_copyAll l D dA (q_ltH hoa rfl) (q_kdH_4 hoa) (q_ltH ho rfl) (q_kdH_4 ho) (Nat.le_of_ble_eq_true rfl) hA) ⟨rfl, rfl, Nat.le_of_ble_eq_true rfl, Nat.le_of_ble_eq_true rfl⟩ ⟨Nat.le_refl _, Nat.le_refl _⟩ rfl hl.1 rfl (Nat.le_of_ble_eq_true rfl) rfl (fun _ g => g) dX3_copyFrom_49 ?_
  clear hP hS; intro H locs _ hP hS _
  replace h := q_cp_in h; generalize q_copy μ5 (oa + 4) (o + 4) 100 = μ6 at hP h
  refine lv_aload_n hx hb dX3_copyFrom_52 rfl (lv_at hl 1 rfl) ?_
  refine q_getR hx hb hts hown hK hP fd_RX3_24 (q_ltH0 hoa) (q_kdH_0 hoa) rfl (q_rhH_0_5 hoa) dX3_copyFrom_53 ?_
  refine lv_aload_n hx hb dX3_copyFrom_56 rfl (lv_at hl 0 rfl) ?_
  refine q_getR hx hb hts hown hK hP fd_RX3_24 (q_ltH0 ho) (q_kdH_0 ho) rfl (q_rhH_0_5 ho) dX3_copyFrom_57 ?_
  refine q_callN hx hb hml hts hown hK hP hS (As := [.ref (z + (oa + 5)), .ref (z + (o + 5))]) (rest := []) (st1 := []) cn_RX3_49 (c_CR_copyAll l D dA (q_ltH hoa rfl) (q_kdH_5 hoa) (q_ltH ho rfl) (q_kdH_5 ho) (Nat.le_of_ble_eq_true rfl) hA) ⟨rfl, rfl, Nat.le_of_ble_eq_true rfl, Nat.le_of_ble_eq_true rfl⟩ ⟨Nat.le_refl _, Nat.le_refl _⟩ rfl hl.1 rfl (Nat.le_of_ble_eq_true rfl) rfl (fun _ g => g) dX3_copyFrom_60 ?_
  clear hP hS; intro H locs _ hP hS _
  replace h := q_cp_in h; generalize q_copy μ6 (oa + 5) (o + 5) 100 = μ7 at hP h
  refine lv_aload_n hx hb dX3_copyFrom_63 rfl (lv_at hl 1 rfl) ?_
  refine q_getR hx hb hts hown hK hP fd_RX3_27 (q_ltH0 hoa) (q_kdH_0 hoa) rfl (q_rhH_0_6 hoa) dX3_copyFrom_64 ?_
  refine lv_aload_n hx hb dX3_copyFrom_67 rfl (lv_at hl 0 rfl) ?_
  refine q_getR hx hb hts hown hK hP fd_RX3_27 (q_ltH0 ho) (q_kdH_0 ho) rfl (q_rhH_0_6 ho) dX3_copyFrom_68 ?_
  refine q_callN hx hb hml hts hown hK hP hS (As := [.ref (z + (oa + 6)), .ref (z + (o + 6))]) (rest := []) (st1 := []) cn_RX3_49 (c_CR_copyAll l D dA (q_ltH hoa rfl) (q_kdH_6 hoa) (q_ltH ho rfl) (q_kdH_6 ho) (Nat.le_of_ble_eq_true rfl) hA) ⟨rfl, rfl, Nat.le_of_ble_eq_true rfl, Nat.le_of_ble_eq_true rfl⟩ ⟨Nat.le_refl _, Nat.le_refl _⟩ rfl hl.1 rfl (Nat.le_of_ble_eq_true rfl) rfl (fun _ g => g) dX3_copyFrom_71 ?_
  clear hP hS; intro H locs _ hP hS _
  replace h := q_cp_in h; generalize q_copy μ7 (oa + 6) (o + 6) 100 = μ8 at hP h
  refine lv_aload_n hx hb dX3_copyFrom_74 rfl (lv_at hl 1 rfl) ?_
  refine q_getR hx hb hts hown hK hP fd_RX3_30 (q_ltH0 hoa) (q_kdH_0 hoa) rfl (q_rhH_0_7 hoa) dX3_copyFrom_75 ?_
  refine lv_aload_n hx hb dX3_copyFrom_78 rfl (lv_at hl 0 rfl) ?_
  refine q_getR hx hb hts hown hK hP fd_RX3_30 (q_ltH0 ho) (q_kdH_0 ho) rfl (q_rhH_0_7 ho) dX3_copyFrom_79 ?_
  refine q_callN hx hb hml hts hown hK hP hS (As := [.ref (z + (oa + 7)), .ref (z + (o + 7))]) (rest := []) (st1 := []) cn_RX3_49 (c_CR_copyAll l D dA (q_ltH hoa rfl) (q_kdH_7 hoa) (q_ltH ho rfl) (q_kdH_7 ho) (Nat.le_of_ble_eq_true rfl) hA) ⟨rfl, rfl, Nat.le_of_ble_eq_true rfl, Nat.le_of_ble_eq_true rfl⟩ ⟨Nat.le_refl _, Nat.le_refl _⟩ rfl hl.1 rfl (Nat.le_of_ble_eq_true rfl) rfl (fun _ g => g) dX3_copyFrom_82 ?_
  clear hP hS; intro H locs _ hP hS _
  replace h := q_cp_in h; generalize q_copy μ8 (oa + 7) (o + 7) 100 = μ9 at hP h
  refine lv_aload_n hx hb dX3_copyFrom_85 rfl (lv_at hl 1 rfl) ?_
  refine q_getR hx hb hts hown hK hP fd_RX3_33 (q_ltH0 hoa) (q_kdH_0 hoa) rfl (q_rhH_0_8 hoa) dX3_copyFrom_86 ?_
  refine lv_aload_n hx hb dX3_copyFrom_89 rfl (lv_at hl 0 rfl) ?_
  refine q_getR hx hb hts hown hK hP fd_RX3_33 (q_ltH0 ho) (q_kdH_0 ho) rfl (q_rhH_0_8 ho) dX3_copyFrom_90 ?_
  refine q_callN hx hb hml hts hown hK hP hS (As := [.ref (z + (oa + 8)), .ref (z + (o + 8))]) (rest := []) (st1 := []) cn_RX3_49 (c_CR_copyAll l D dA (q_ltH hoa rfl) (q_kdH_8 hoa) (q_ltH ho rfl) (q_kdH_8 ho) (Nat.le_of_ble_eq_true rfl) hA) ⟨rfl, rfl, Nat.le_of_ble_eq_true rfl, Nat.le_of_ble_eq_true rfl⟩ ⟨Nat.le_refl _, Nat.le_refl _⟩ rfl hl.1 rfl (Nat.le_of_ble_eq_true rfl) rfl (fun _ g => g) dX3_copyFrom_93 ?_
  clear hP hS; intro H locs _ hP hS _
  replace h := q_cp_in h; generalize q_copy μ9 (oa + 8) (o + 8) 500 = μ10 at hP h
  refine lv_aload_n hx hb dX3_copyFrom_96 rfl (lv_at hl 1 rfl) ?_
  refine q_getR hx hb hts hown hK hP fd_RX3_36 (q_ltH0 hoa) (q_kdH_0 hoa) rfl (q_rhH_0_9 hoa) dX3_copyFrom_97 ?_
  refine lv_aload_n hx hb dX3_copyFrom_100 rfl (lv_at hl 0 rfl) ?_
  refine q_getR hx hb hts hown hK hP fd_RX3_36 (q_ltH0 ho) (q_kdH_0 ho) rfl (q_rhH_0_9 ho) dX3_copyFrom_101 ?_
  refine q_callN hx hb hml hts hown hK hP hS (As := [.ref (z + (oa + 9)), .ref (z + (o + 9))]) (rest := []) (st1 := []) cn_RX3_49 (c_CR_copyAll l D dA (q_ltH hoa rfl) (q_kdH_9 hoa) (q_ltH ho rfl) (q_kdH_9 ho) (Nat.le_of_ble_eq_true rfl) hA) ⟨rfl, rfl, Nat.le_of_ble_eq_true rfl, Nat.le_of_ble_eq_true rfl⟩ ⟨Nat.le_refl _, Nat.le_refl _⟩ rfl hl.1 rfl (Nat.le_of_ble_eq_true rfl) rfl (fun _ g => g) dX3_copyFrom_104 ?_
  clear hP hS; intro H locs _ hP hS _
  replace h := q_cp_in h; generalize q_copy μ10 (oa + 9) (o + 9) 5 = μ11 at hP h
  rw [← hQ]
  exact q_retv hx hb hr hlocks hP hS h dX3_copyFrom_107
set_option maxHeartbeats 4000000 in
set_option maxRecDepth 100000 in
theorem c_Ch_copyFrom (l : Launch) (D : va_G) (dA : Nat → ClassId) {z sz : Nat} {o : Nat} (ho : o = 15 ∨ o = 38) {oa : Nat} (hoa : oa = 15 ∨ oa = 38) {μ : q_M} {μo : q_M} (h : f_Ch_copyFrom o oa μ = some μo) : Met l yX0_copyFrom (q_wc yX0_copyFrom cX0_copyFrom 2 none) ({ frames := 2, cells := 0, slots := 0, locals := 69 } : Room) (va_Pc [.ref (z + o), .ref (z + oa)] (q_B (q_P D dA q_kdC q_rhoC 77 z sz μ) D dA)) (q_Q none True (q_P D dA q_kdC q_rhoC 77 z sz μo) (q_A z 77)) 0 0 (q_A z 77) := by
  refine Met.ofW (cc := cX0_copyFrom) (maxL := 2) (ret := none) (by decide) rfl ?_
  intro p e s m args below meth c s₁ B hml hv
  obtain ⟨hargs, hP, hK⟩ := hv
  have hx := B.exec
  have hb := B.bytes
  have hr := B.returns
  have hts : ∀ w ∈ q_W, w.before args s = true := fun w hw => atoms_spec (ws := q_wc yX0_copyFrom cX0_copyFrom 2 none) B.pre w (List.mem_cons_of_mem _ hw)
  have hown : s.vm.findClass RX0 = some m.cls := findClass_of_methodNamed B.named
  have hlocks := B.notSynchronized
  have hS : va_S (q_A z 77) s.heap s.heap [] := va_S.rf
  have hA : ∀ k, k < 77 → q_A z 77 (z + k) := fun k hk => ⟨Nat.le_add_right z k, Nat.add_lt_add_left hk z⟩
  have hl := lv_entry [.ref (z + o), .ref (z + oa)] (n := 2) (Nat.le_of_ble_eq_true rfl)
  refine W.eq (by rw [hargs, lg_entry_eq]) ?_
  generalize (lg_sl [.ref (z + o), .ref (z + oa)] ++ List.replicate (2 - (lg_sl [.ref (z + o), .ref (z + oa)]).length) Slot.unset).toArray = ls at hl ⊢
  have hl : lv_has ls 2 [(0, .ref (z + o)), (1, .ref (z + oa))] := hl
  generalize hQ : MQ below _ args s 0 0 _ = Qf
  change W p l e ({ frames := 2, cells := 0, slots := 0, locals := 69 } : Room) s m args below meth c s.heap [] 0 0 Qf (F0 m 0 ls [])
  unfold f_Ch_copyFrom at h
  refine lv_aload_n hx hb dX0_copyFrom_0 rfl (lv_at hl 0 rfl) ?_
  refine lv_aload_n hx hb dX0_copyFrom_1 rfl (lv_at hl 1 rfl) ?_
  refine q_getI hx hb hts hown hK hP fd_RX0_30 (q_ltK0 hoa) (q_kdK_0 hoa) rfl dX0_copyFrom_2 h ?_
  clear h; intro x1 r1 h
  refine q_putI hx hb hts hown hK hP hS hA fd_RX0_30 (q_ltK0 ho) (q_kdK_0 ho) rfl r1 dX0_copyFrom_5 h ?_
  clear h hP hS; intro μ2 H locs hP hS h
  refine lv_aload_n hx hb dX0_copyFrom_8 rfl (lv_at hl 1 rfl) ?_
  refine q_getR hx hb hts hown hK hP fd_RX0_9 (q_ltK0 hoa) (q_kdK_0 hoa) rfl (q_rhK_0_1 hoa) dX0_copyFrom_9 ?_
  refine lv_aload_n hx hb dX0_copyFrom_12 rfl (lv_at hl 0 rfl) ?_
  refine q_getR hx hb hts hown hK hP fd_RX0_9 (q_ltK0 ho) (q_kdK_0 ho) rfl (q_rhK_0_1 ho) dX0_copyFrom_13 ?_
  refine q_callN hx hb hml hts hown hK hP hS (As := [.ref (z + (oa + 1)), .ref (z + (o + 1))]) (rest := []) (st1 := []) cn_RX0_37 (c_CR_copyAll l D dA (q_ltK hoa rfl) (q_kdK_1 hoa) (q_ltK ho rfl) (q_kdK_1 ho) (Nat.le_of_ble_eq_true rfl) hA) ⟨rfl, rfl, Nat.le_of_ble_eq_true rfl, Nat.le_of_ble_eq_true rfl⟩ ⟨Nat.le_refl _, Nat.le_refl _⟩ rfl hl.1 rfl (Nat.le_of_ble_eq_true rfl) rfl (fun _ g => g) dX0_copyFrom_16 ?_
  clear hP hS; intro H locs _ hP hS _
  replace h := q_cp_in h; generalize q_copy μ2 (oa + 1) (o + 1) 512 = μ3 at hP h
  refine lv_aload_n hx hb dX0_copyFrom_19 rfl (lv_at hl 1 rfl) ?_
  refine q_getR hx hb hts hown hK hP fd_RX0_15 (q_ltK0 hoa) (q_kdK_0 hoa) rfl (q_rhK_0_2 hoa) dX0_copyFrom_20 ?_
  refine lv_aload_n hx hb dX0_copyFrom_23 rfl (lv_at hl 0 rfl) ?_
  refine q_getR hx hb hts hown hK hP fd_RX0_15 (q_ltK0 ho) (q_kdK_0 ho) rfl (q_rhK_0_2 ho) dX0_copyFrom_24 ?_
  refine q_callN hx hb hml hts hown hK hP hS (As := [.ref (z + (oa + 2)), .ref (z + (o + 2))]) (rest := []) (st1 := []) cn_RX0_37 (c_CR_copyAll l D dA (q_ltK hoa rfl) (q_kdK_2 hoa) (q_ltK ho rfl) (q_kdK_2 ho) (Nat.le_of_ble_eq_true rfl) hA) ⟨rfl, rfl, Nat.le_of_ble_eq_true rfl, Nat.le_of_ble_eq_true rfl⟩ ⟨Nat.le_refl _, Nat.le_refl _⟩ rfl hl.1 rfl (Nat.le_of_ble_eq_true rfl) rfl (fun _ g => g) dX0_copyFrom_27 ?_
  clear hP hS; intro H locs _ hP hS _
  replace h := q_cp_in h; generalize q_copy μ3 (oa + 2) (o + 2) 512 = μ4 at hP h
  refine lv_aload_n hx hb dX0_copyFrom_30 rfl (lv_at hl 1 rfl) ?_
  refine q_getR hx hb hts hown hK hP fd_RX0_18 (q_ltK0 hoa) (q_kdK_0 hoa) rfl (q_rhK_0_3 hoa) dX0_copyFrom_31 ?_
  refine lv_aload_n hx hb dX0_copyFrom_34 rfl (lv_at hl 0 rfl) ?_
  refine q_getR hx hb hts hown hK hP fd_RX0_18 (q_ltK0 ho) (q_kdK_0 ho) rfl (q_rhK_0_3 ho) dX0_copyFrom_35 ?_
  refine q_callN hx hb hml hts hown hK hP hS (As := [.ref (z + (oa + 3)), .ref (z + (o + 3))]) (rest := []) (st1 := []) cn_RX0_37 (c_CR_copyAll l D dA (q_ltK hoa rfl) (q_kdK_3 hoa) (q_ltK ho rfl) (q_kdK_3 ho) (Nat.le_of_ble_eq_true rfl) hA) ⟨rfl, rfl, Nat.le_of_ble_eq_true rfl, Nat.le_of_ble_eq_true rfl⟩ ⟨Nat.le_refl _, Nat.le_refl _⟩ rfl hl.1 rfl (Nat.le_of_ble_eq_true rfl) rfl (fun _ g => g) dX0_copyFrom_38 ?_
  clear hP hS; intro H locs _ hP hS _
  replace h := q_cp_in h; generalize q_copy μ4 (oa + 3) (o + 3) 512 = μ5 at hP h
  refine lv_aload_n hx hb dX0_copyFrom_41 rfl (lv_at hl 1 rfl) ?_
  refine q_getR hx hb hts hown hK hP fd_RX0_21 (q_ltK0 hoa) (q_kdK_0 hoa) rfl (q_rhK_0_4 hoa) dX0_copyFrom_42 ?_
  refine lv_aload_n hx hb dX0_copyFrom_45 rfl (lv_at hl 0 rfl) ?_
  refine q_getR hx hb hts hown hK hP fd_RX0_21 (q_ltK0 ho) (q_kdK_0 ho) rfl (q_rhK_0_4 ho) dX0_copyFrom_46 ?_
  refine q_callN hx hb hml hts hown hK hP hS (As := [.ref (z + (oa + 4)), .ref (z + (o + 4))]) (rest := []) (st1 := []) cn_RX0_37 (c_CR_copyAll l D dA (q_ltK hoa rfl) (q_kdK_4 hoa) (q_ltK ho rfl) (q_kdK_4 ho) (Nat.le_of_ble_eq_true rfl) hA) ⟨rfl, rfl, Nat.le_of_ble_eq_true rfl, Nat.le_of_ble_eq_true rfl⟩ ⟨Nat.le_refl _, Nat.le_refl _⟩ rfl hl.1 rfl (Nat.le_of_ble_eq_true rfl) rfl (fun _ g => g) dX0_copyFrom_49 ?_
  clear hP hS; intro H locs _ hP hS _
  replace h := q_cp_in h; generalize q_copy μ5 (oa + 4) (o + 4) 512 = μ6 at hP h
  refine lv_aload_n hx hb dX0_copyFrom_52 rfl (lv_at hl 1 rfl) ?_
  refine q_getR hx hb hts hown hK hP fd_RX0_24 (q_ltK0 hoa) (q_kdK_0 hoa) rfl (q_rhK_0_5 hoa) dX0_copyFrom_53 ?_
  refine lv_aload_n hx hb dX0_copyFrom_56 rfl (lv_at hl 0 rfl) ?_
  refine q_getR hx hb hts hown hK hP fd_RX0_24 (q_ltK0 ho) (q_kdK_0 ho) rfl (q_rhK_0_5 ho) dX0_copyFrom_57 ?_
  refine q_callN hx hb hml hts hown hK hP hS (As := [.ref (z + (oa + 5)), .ref (z + (o + 5))]) (rest := []) (st1 := []) cn_RX0_37 (c_CR_copyAll l D dA (q_ltK hoa rfl) (q_kdK_5 hoa) (q_ltK ho rfl) (q_kdK_5 ho) (Nat.le_of_ble_eq_true rfl) hA) ⟨rfl, rfl, Nat.le_of_ble_eq_true rfl, Nat.le_of_ble_eq_true rfl⟩ ⟨Nat.le_refl _, Nat.le_refl _⟩ rfl hl.1 rfl (Nat.le_of_ble_eq_true rfl) rfl (fun _ g => g) dX0_copyFrom_60 ?_
  clear hP hS; intro H locs _ hP hS _
  replace h := q_cp_in h; generalize q_copy μ6 (oa + 5) (o + 5) 512 = μ7 at hP h
  refine lv_aload_n hx hb dX0_copyFrom_63 rfl (lv_at hl 1 rfl) ?_
  refine q_getR hx hb hts hown hK hP fd_RX0_27 (q_ltK0 hoa) (q_kdK_0 hoa) rfl (q_rhK_0_6 hoa) dX0_copyFrom_64 ?_
  refine lv_aload_n hx hb dX0_copyFrom_67 rfl (lv_at hl 0 rfl) ?_
  refine q_getR hx hb hts hown hK hP fd_RX0_27 (q_ltK0 ho) (q_kdK_0 ho) rfl (q_rhK_0_6 ho) dX0_copyFrom_68 ?_
  refine q_callN hx hb hml hts hown hK hP hS (As := [.ref (z + (oa + 6)), .ref (z + (o + 6))]) (rest := []) (st1 := []) cn_RX0_37 (c_CR_copyAll l D dA (q_ltK hoa rfl) (q_kdK_6 hoa) (q_ltK ho rfl) (q_kdK_6 ho) (Nat.le_of_ble_eq_true rfl) hA) ⟨rfl, rfl, Nat.le_of_ble_eq_true rfl, Nat.le_of_ble_eq_true rfl⟩ ⟨Nat.le_refl _, Nat.le_refl _⟩ rfl hl.1 rfl (Nat.le_of_ble_eq_true rfl) rfl (fun _ g => g) dX0_copyFrom_71 ?_
  clear hP hS; intro H locs _ hP hS _
  replace h := q_cp_in h; generalize q_copy μ7 (oa + 6) (o + 6) 25 = μ8 at hP h
  rw [← hQ]
  exact q_retv hx hb hr hlocks hP hS h dX0_copyFrom_74
set_option maxHeartbeats 4000000 in
set_option maxRecDepth 100000 in
theorem c_Sn_copyFrom (l : Launch) (D : va_G) (dA : Nat → ClassId) {z sz : Nat} {o : Nat} (ho : o = 22 ∨ o = 45) {oa : Nat} (hoa : oa = 22 ∨ oa = 45) {μ : q_M} {μo : q_M} (h : f_Sn_copyFrom o oa μ = some μo) : Met l yX7_copyFrom (q_wc yX7_copyFrom cX7_copyFrom 2 none) ({ frames := 2, cells := 0, slots := 0, locals := 69 } : Room) (va_Pc [.ref (z + o), .ref (z + oa)] (q_B (q_P D dA q_kdC q_rhoC 77 z sz μ) D dA)) (q_Q none True (q_P D dA q_kdC q_rhoC 77 z sz μo) (q_A z 77)) 0 0 (q_A z 77) := by
  refine Met.ofW (cc := cX7_copyFrom) (maxL := 2) (ret := none) (by decide) rfl ?_
  intro p e s m args below meth c s₁ B hml hv
  obtain ⟨hargs, hP, hK⟩ := hv
  have hx := B.exec
  have hb := B.bytes
  have hr := B.returns
  have hts : ∀ w ∈ q_W, w.before args s = true := fun w hw => atoms_spec (ws := q_wc yX7_copyFrom cX7_copyFrom 2 none) B.pre w (List.mem_cons_of_mem _ hw)
  have hown : s.vm.findClass RX7 = some m.cls := findClass_of_methodNamed B.named
  have hlocks := B.notSynchronized
  have hS : va_S (q_A z 77) s.heap s.heap [] := va_S.rf
  have hA : ∀ k, k < 77 → q_A z 77 (z + k) := fun k hk => ⟨Nat.le_add_right z k, Nat.add_lt_add_left hk z⟩
  have hl := lv_entry [.ref (z + o), .ref (z + oa)] (n := 2) (Nat.le_of_ble_eq_true rfl)
  refine W.eq (by rw [hargs, lg_entry_eq]) ?_
  generalize (lg_sl [.ref (z + o), .ref (z + oa)] ++ List.replicate (2 - (lg_sl [.ref (z + o), .ref (z + oa)]).length) Slot.unset).toArray = ls at hl ⊢
  have hl : lv_has ls 2 [(0, .ref (z + o)), (1, .ref (z + oa))] := hl
  generalize hQ : MQ below _ args s 0 0 _ = Qf
  change W p l e ({ frames := 2, cells := 0, slots := 0, locals := 69 } : Room) s m args below meth c s.heap [] 0 0 Qf (F0 m 0 ls [])
  unfold f_Sn_copyFrom at h
  refine lv_aload_n hx hb dX7_copyFrom_0 rfl (lv_at hl 0 rfl) ?_
  refine lv_aload_n hx hb dX7_copyFrom_1 rfl (lv_at hl 1 rfl) ?_
  refine q_getI hx hb hts hown hK hP fd_RX7_15 (q_ltS0 hoa) (q_kdS_0 hoa) rfl dX7_copyFrom_2 h ?_
  clear h; intro x1 r1 h
  refine q_putI hx hb hts hown hK hP hS hA fd_RX7_15 (q_ltS0 ho) (q_kdS_0 ho) rfl r1 dX7_copyFrom_5 h ?_
  clear h hP hS; intro μ2 H locs hP hS h
  refine lv_aload_n hx hb dX7_copyFrom_8 rfl (lv_at hl 1 rfl) ?_
  refine q_getR hx hb hts hown hK hP fd_RX7_9 (q_ltS0 hoa) (q_kdS_0 hoa) rfl (q_rhS_0_1 hoa) dX7_copyFrom_9 ?_
  refine lv_aload_n hx hb dX7_copyFrom_12 rfl (lv_at hl 0 rfl) ?_
  refine q_getR hx hb hts hown hK hP fd_RX7_9 (q_ltS0 ho) (q_kdS_0 ho) rfl (q_rhS_0_1 ho) dX7_copyFrom_13 ?_
  refine q_callN hx hb hml hts hown hK hP hS (As := [.ref (z + (oa + 1)), .ref (z + (o + 1))]) (rest := []) (st1 := []) cn_RX7_25 (c_CR_copyAll l D dA (q_ltS hoa rfl) (q_kdS_1 hoa) (q_ltS ho rfl) (q_kdS_1 ho) (Nat.le_of_ble_eq_true rfl) hA) ⟨rfl, rfl, Nat.le_of_ble_eq_true rfl, Nat.le_of_ble_eq_true rfl⟩ ⟨Nat.le_refl _, Nat.le_refl _⟩ rfl hl.1 rfl (Nat.le_of_ble_eq_true rfl) rfl (fun _ g => g) dX7_copyFrom_16 ?_
  clear hP hS; intro H locs _ hP hS _
  replace h := q_cp_in h; generalize q_copy μ2 (oa + 1) (o + 1) 5 = μ3 at hP h
  rw [← hQ]
  exact q_retv hx hb hr hlocks hP hS h dX7_copyFrom_19
set_option maxHeartbeats 4000000 in
set_option maxRecDepth 100000 in
theorem c_Wo_copyFrom (l : Launch) (D : va_G) (dA : Nat → ClassId) {z sz : Nat} {o : Nat} (ho : o = 1 ∨ o = 24) {oa : Nat} (hoa : oa = 1 ∨ oa = 24) {μ : q_M} {μo : q_M} (h : f_Wo_copyFrom o oa μ = some μo) : Met l yX9_copyFrom (q_wc yX9_copyFrom cX9_copyFrom 2 none) ({ frames := 3, cells := 0, slots := 0, locals := 90 } : Room) (va_Pc [.ref (z + o), .ref (z + oa)] (q_B (q_P D dA q_kdC q_rhoC 77 z sz μ) D dA)) (q_Q none True (q_P D dA q_kdC q_rhoC 77 z sz μo) (q_A z 77)) 0 0 (q_A z 77) := by
  refine Met.ofW (cc := cX9_copyFrom) (maxL := 2) (ret := none) (by decide) rfl ?_
  intro p e s m args below meth c s₁ B hml hv
  obtain ⟨hargs, hP, hK⟩ := hv
  have hx := B.exec
  have hb := B.bytes
  have hr := B.returns
  have hts : ∀ w ∈ q_W, w.before args s = true := fun w hw => atoms_spec (ws := q_wc yX9_copyFrom cX9_copyFrom 2 none) B.pre w (List.mem_cons_of_mem _ hw)
  have hown : s.vm.findClass RX9 = some m.cls := findClass_of_methodNamed B.named
  have hlocks := B.notSynchronized
  have hS : va_S (q_A z 77) s.heap s.heap [] := va_S.rf
  have hA : ∀ k, k < 77 → q_A z 77 (z + k) := fun k hk => ⟨Nat.le_add_right z k, Nat.add_lt_add_left hk z⟩
  have hl := lv_entry [.ref (z + o), .ref (z + oa)] (n := 2) (Nat.le_of_ble_eq_true rfl)
  refine W.eq (by rw [hargs, lg_entry_eq]) ?_
  generalize (lg_sl [.ref (z + o), .ref (z + oa)] ++ List.replicate (2 - (lg_sl [.ref (z + o), .ref (z + oa)]).length) Slot.unset).toArray = ls at hl ⊢
  have hl : lv_has ls 2 [(0, .ref (z + o)), (1, .ref (z + oa))] := hl
  generalize hQ : MQ below _ args s 0 0 _ = Qf
  change W p l e ({ frames := 3, cells := 0, slots := 0, locals := 90 } : Room) s m args below meth c s.heap [] 0 0 Qf (F0 m 0 ls [])
  unfold f_Wo_copyFrom at h
  refine lv_aload_n hx hb dX9_copyFrom_0 rfl (lv_at hl 0 rfl) ?_
  refine lv_aload_n hx hb dX9_copyFrom_1 rfl (lv_at hl 1 rfl) ?_
  refine q_getI hx hb hts hown hK hP fd_RX9_42 (q_ltW0 hoa) (q_kdW_0 hoa) rfl dX9_copyFrom_2 h ?_
  clear h; intro x1 r1 h
  refine q_putI hx hb hts hown hK hP hS hA fd_RX9_42 (q_ltW0 ho) (q_kdW_0 ho) rfl r1 dX9_copyFrom_5 h ?_
  clear h hP hS; intro μ2 H locs hP hS h
  refine lv_aload_n hx hb dX9_copyFrom_8 rfl (lv_at hl 1 rfl) ?_
  refine q_getR hx hb hts hown hK hP fd_RX9_9 (q_ltW0 hoa) (q_kdW_0 hoa) rfl (q_rhW_0_1 hoa) dX9_copyFrom_9 ?_
  refine lv_aload_n hx hb dX9_copyFrom_12 rfl (lv_at hl 0 rfl) ?_
  refine q_getR hx hb hts hown hK hP fd_RX9_9 (q_ltW0 ho) (q_kdW_0 ho) rfl (q_rhW_0_1 ho) dX9_copyFrom_13 ?_
  refine q_callN hx hb hml hts hown hK hP hS (As := [.ref (z + (oa + 1)), .ref (z + (o + 1))]) (rest := []) (st1 := []) cn_RX9_59 (c_CR_copyAll l D dA (q_ltW hoa rfl) (q_kdW_1 hoa) (q_ltW ho rfl) (q_kdW_1 ho) (Nat.le_of_ble_eq_true rfl) hA) ⟨rfl, rfl, Nat.le_of_ble_eq_true rfl, Nat.le_of_ble_eq_true rfl⟩ ⟨Nat.le_refl _, Nat.le_refl _⟩ rfl hl.1 rfl (Nat.le_of_ble_eq_true rfl) rfl (fun _ g => g) dX9_copyFrom_16 ?_
  clear hP hS; intro H locs _ hP hS _
  replace h := q_cp_in h; generalize q_copy μ2 (oa + 1) (o + 1) 10 = μ3 at hP h
  refine lv_aload_n hx hb dX9_copyFrom_19 rfl (lv_at hl 1 rfl) ?_
  refine q_getR hx hb hts hown hK hP fd_RX9_15 (q_ltW0 hoa) (q_kdW_0 hoa) rfl (q_rhW_0_2 hoa) dX9_copyFrom_20 ?_
  refine lv_aload_n hx hb dX9_copyFrom_23 rfl (lv_at hl 0 rfl) ?_
  refine q_getR hx hb hts hown hK hP fd_RX9_15 (q_ltW0 ho) (q_kdW_0 ho) rfl (q_rhW_0_2 ho) dX9_copyFrom_24 ?_
  refine q_callN hx hb hml hts hown hK hP hS (As := [.ref (z + (oa + 2)), .ref (z + (o + 2))]) (rest := []) (st1 := []) cn_RX9_59 (c_CR_copyAll l D dA (q_ltW hoa rfl) (q_kdW_2 hoa) (q_ltW ho rfl) (q_kdW_2 ho) (Nat.le_of_ble_eq_true rfl) hA) ⟨rfl, rfl, Nat.le_of_ble_eq_true rfl, Nat.le_of_ble_eq_true rfl⟩ ⟨Nat.le_refl _, Nat.le_refl _⟩ rfl hl.1 rfl (Nat.le_of_ble_eq_true rfl) rfl (fun _ g => g) dX9_copyFrom_27 ?_
  clear hP hS; intro H locs _ hP hS _
  replace h := q_cp_in h; generalize q_copy μ3 (oa + 2) (o + 2) 10 = μ4 at hP h
  refine lv_aload_n hx hb dX9_copyFrom_30 rfl (lv_at hl 1 rfl) ?_
  refine q_getR hx hb hts hown hK hP fd_RX9_18 (q_ltW0 hoa) (q_kdW_0 hoa) rfl (q_rhW_0_3 hoa) dX9_copyFrom_31 ?_
  refine lv_aload_n hx hb dX9_copyFrom_34 rfl (lv_at hl 0 rfl) ?_
  refine q_getR hx hb hts hown hK hP fd_RX9_18 (q_ltW0 ho) (q_kdW_0 ho) rfl (q_rhW_0_3 ho) dX9_copyFrom_35 ?_
  refine q_callN hx hb hml hts hown hK hP hS (As := [.ref (z + (oa + 3)), .ref (z + (o + 3))]) (rest := []) (st1 := []) cn_RX9_59 (c_CR_copyAll l D dA (q_ltW hoa rfl) (q_kdW_3 hoa) (q_ltW ho rfl) (q_kdW_3 ho) (Nat.le_of_ble_eq_true rfl) hA) ⟨rfl, rfl, Nat.le_of_ble_eq_true rfl, Nat.le_of_ble_eq_true rfl⟩ ⟨Nat.le_refl _, Nat.le_refl _⟩ rfl hl.1 rfl (Nat.le_of_ble_eq_true rfl) rfl (fun _ g => g) dX9_copyFrom_38 ?_
  clear hP hS; intro H locs _ hP hS _
  replace h := q_cp_in h; generalize q_copy μ4 (oa + 3) (o + 3) 5 = μ5 at hP h
  refine lv_aload_n hx hb dX9_copyFrom_41 rfl (lv_at hl 0 rfl) ?_
  refine q_getR hx hb hts hown hK hP fd_RX9_24 (q_ltW0 ho) (q_kdW_0 ho) rfl (q_rhW_0_4 ho) dX9_copyFrom_42 ?_
  refine lv_aload_n hx hb dX9_copyFrom_45 rfl (lv_at hl 1 rfl) ?_
  refine q_getR hx hb hts hown hK hP fd_RX9_24 (q_ltW0 hoa) (q_kdW_0 hoa) rfl (q_rhW_0_4 hoa) dX9_copyFrom_46 ?_
  obtain ⟨μ7, hv6, h⟩ := q_b_some h
  refine q_callV hx hb hml hts hown hK hP hS (As := [.ref (z + (oa + 4))]) (rest := []) (st1 := []) cv_RX9_63 (c_Hi_copyFrom l D dA (by omega) (by omega) hv6) (q_ltW ho rfl) (q_kdW_4 ho) rfl ⟨rfl, rfl, Nat.le_of_ble_eq_true rfl, Nat.le_of_ble_eq_true rfl⟩ ⟨Nat.le_refl _, Nat.le_refl _⟩ rfl hl.1 rfl (Nat.le_of_ble_eq_true rfl) rfl (fun _ g => g) dX9_copyFrom_49 ?_
  clear hP hS hv6; intro H locs _ hP hS _
  refine lv_aload_n hx hb dX9_copyFrom_52 rfl (lv_at hl 0 rfl) ?_
  refine q_getR hx hb hts hown hK hP fd_RX9_31 (q_ltW0 ho) (q_kdW_0 ho) rfl (q_rhW_0_5 ho) dX9_copyFrom_53 ?_
  refine lv_aload_n hx hb dX9_copyFrom_56 rfl (lv_at hl 1 rfl) ?_
  refine q_getR hx hb hts hown hK hP fd_RX9_31 (q_ltW0 hoa) (q_kdW_0 hoa) rfl (q_rhW_0_5 hoa) dX9_copyFrom_57 ?_
  obtain ⟨μ9, hv8, h⟩ := q_b_some h
  refine q_callV hx hb hml hts hown hK hP hS (As := [.ref (z + (oa + 14))]) (rest := []) (st1 := []) cv_RX9_67 (c_Ch_copyFrom l D dA (by omega) (by omega) hv8) (q_ltW ho rfl) (q_kdW_14 ho) rfl ⟨rfl, rfl, Nat.le_of_ble_eq_true rfl, Nat.le_of_ble_eq_true rfl⟩ ⟨Nat.le_refl _, Nat.le_refl _⟩ rfl hl.1 rfl (Nat.le_of_ble_eq_true rfl) rfl (fun _ g => g) dX9_copyFrom_60 ?_
  clear hP hS hv8; intro H locs _ hP hS _
  refine lv_aload_n hx hb dX9_copyFrom_63 rfl (lv_at hl 0 rfl) ?_
  refine q_getR hx hb hts hown hK hP fd_RX9_38 (q_ltW0 ho) (q_kdW_0 ho) rfl (q_rhW_0_6 ho) dX9_copyFrom_64 ?_
  refine lv_aload_n hx hb dX9_copyFrom_67 rfl (lv_at hl 1 rfl) ?_
  refine q_getR hx hb hts hown hK hP fd_RX9_38 (q_ltW0 hoa) (q_kdW_0 hoa) rfl (q_rhW_0_6 hoa) dX9_copyFrom_68 ?_
  obtain ⟨μ11, hv10, h⟩ := q_b_some h
  refine q_callV hx hb hml hts hown hK hP hS (As := [.ref (z + (oa + 21))]) (rest := []) (st1 := []) cv_RX9_70 (c_Sn_copyFrom l D dA (by omega) (by omega) hv10) (q_ltW ho rfl) (q_kdW_21 ho) rfl ⟨rfl, rfl, Nat.le_of_ble_eq_true rfl, Nat.le_of_ble_eq_true rfl⟩ ⟨Nat.le_refl _, Nat.le_refl _⟩ rfl hl.1 rfl (Nat.le_of_ble_eq_true rfl) rfl (fun _ g => g) dX9_copyFrom_71 ?_
  clear hP hS hv10; intro H locs _ hP hS _
  rw [← hQ]
  exact q_retv hx hb hr hlocks hP hS h dX9_copyFrom_74
set_option maxHeartbeats 4000000 in
set_option maxRecDepth 100000 in
theorem c_Wo_beginAfterCutOf (l : Launch) (D : va_G) (dA : Nat → ClassId) {z sz : Nat} {N : Nat} {o : Nat} (ho : o = 1 ∨ o = 24) {oa : Nat} (hoa : oa = 1 ∨ oa = 24) {μ : q_M} {μo : q_M} (h : f_Wo_beginAfterCutOf N o oa μ = some μo) : Met l yX9_beginAfterCutOf (q_wc yX9_beginAfterCutOf cX9_beginAfterCutOf 3 none) ({ frames := 4, cells := 0, slots := 0, locals := 85 } : Room) (va_Pc [.ref (z + o), .ref (z + oa)] (q_B (q_P D dA q_kdC q_rhoC 77 z sz μ) D dA)) (q_Q none True (q_P D dA q_kdC q_rhoC 77 z sz μo) (q_A z 77)) 0 0 (q_A z 77) := by
  refine Met.ofW (cc := cX9_beginAfterCutOf) (maxL := 3) (ret := none) (by decide) rfl ?_
  intro p e s m args below meth c s₁ B hml hv
  obtain ⟨hargs, hP, hK⟩ := hv
  have hx := B.exec
  have hb := B.bytes
  have hr := B.returns
  have hts : ∀ w ∈ q_W, w.before args s = true := fun w hw => atoms_spec (ws := q_wc yX9_beginAfterCutOf cX9_beginAfterCutOf 3 none) B.pre w (List.mem_cons_of_mem _ hw)
  have hown : s.vm.findClass RX9 = some m.cls := findClass_of_methodNamed B.named
  have hlocks := B.notSynchronized
  have hS : va_S (q_A z 77) s.heap s.heap [] := va_S.rf
  have hA : ∀ k, k < 77 → q_A z 77 (z + k) := fun k hk => ⟨Nat.le_add_right z k, Nat.add_lt_add_left hk z⟩
  have hl := lv_entry [.ref (z + o), .ref (z + oa)] (n := 3) (Nat.le_of_ble_eq_true rfl)
  refine W.eq (by rw [hargs, lg_entry_eq]) ?_
  generalize (lg_sl [.ref (z + o), .ref (z + oa)] ++ List.replicate (3 - (lg_sl [.ref (z + o), .ref (z + oa)]).length) Slot.unset).toArray = ls at hl ⊢
  have hl : lv_has ls 3 [(0, .ref (z + o)), (1, .ref (z + oa))] := hl
  generalize hQ : MQ below _ args s 0 0 _ = Qf
  change W p l e ({ frames := 4, cells := 0, slots := 0, locals := 85 } : Room) s m args below meth c s.heap [] 0 0 Qf (F0 m 0 ls [])
  unfold f_Wo_beginAfterCutOf at h
  refine lv_aload_n hx hb dX9_beginAfterCutOf_0 rfl (lv_at hl 0 rfl) ?_
  refine lv_aload_n hx hb dX9_beginAfterCutOf_1 rfl (lv_at hl 1 rfl) ?_
  refine q_getI hx hb hts hown hK hP fd_RX9_42 (q_ltW0 hoa) (q_kdW_0 hoa) rfl dX9_beginAfterCutOf_2 h ?_
  clear h; intro x1 r1 h
  obtain ⟨μ3, hv2, h⟩ := q_b_some h
  refine q_callV hx hb hml hts hown hK hP hS (As := [.int (q_I x1)]) (rest := []) (st1 := []) cv_RX9_73 (c_Wo_begin l D dA ho r1 hv2) (q_ltW0 ho) (q_kdW_0 ho) rfl ⟨rfl, rfl, Nat.le_of_ble_eq_true rfl, Nat.le_of_ble_eq_true rfl⟩ ⟨Nat.le_refl _, Nat.le_refl _⟩ rfl hl.1 rfl (Nat.le_of_ble_eq_true rfl) rfl (fun _ g => g) dX9_beginAfterCutOf_5 ?_
  clear hP hS hv2; intro H locs _ hP hS _
  refine lv_iconst (v := q_I 0) hx hb dX9_beginAfterCutOf_8 rfl ?_
  refine lv_istore_n (lv' := [(2, .int (q_I 0)), (0, .ref (z + o)), (1, .ref (z + oa))]) hx hb dX9_beginAfterCutOf_9 rfl hl (by decide) rfl ?_
  clear hl; intro ls hl
  have L10 : ∀ (k71 : q_M → Option q_M), (∀ (μ6 : q_M) (H : Heap) (locs : List Loc) (ls : Array Slot), q_P D dA q_kdC q_rhoC 77 z sz μ6 H → va_S (q_A z 77) s.heap H locs → lv_has ls 3 [] → k71 μ6 = some μo → W p l e ({ frames := 4, cells := 0, slots := 0, locals := 85 } : Room) s m args below meth c H locs 0 0 Qf (F0 m 71 ls [])) → ∀ (nf10 : Nat) (x4 : Int) (μ5 : q_M) (H : Heap) (locs : List Loc) (ls : Array Slot), q_R x4 → q_P D dA q_kdC q_rhoC 77 z sz μ5 H → va_S (q_A z 77) s.heap H locs → lv_has ls 3 [(0, .ref (z + o)), (1, .ref (z + oa)), (2, .int (q_I x4))] → f_Wo_beginAfterCutOf_L10 o oa k71 nf10 x4 μ5 = some μo → W p l e ({ frames := 4, cells := 0, slots := 0, locals := 85 } : Room) s m args below meth c H locs 0 0 Qf (F0 m 10 ls []) := by
    clear h hl hP hS
    intro k71 hk71 nf10
    induction nf10 with
    | zero =>
      intro x4 μ5 H locs ls r4 hP hS hl h
      rw [f_Wo_beginAfterCutOf_L10] at h
      cases h
    | succ nf10 ih10 =>
      intro x4 μ5 H locs ls r4 hP hS hl h
      rw [f_Wo_beginAfterCutOf_L10] at h
      refine lv_iload_n hx hb dX9_beginAfterCutOf_10 rfl (lv_at hl 2 rfl) ?_
      refine lv_aload_n hx hb dX9_beginAfterCutOf_11 rfl (lv_at hl 1 rfl) ?_
      refine q_getR hx hb hts hown hK hP fd_RX9_31 (q_ltW0 hoa) (q_kdW_0 hoa) rfl (q_rhW_0_5 hoa) dX9_beginAfterCutOf_12 ?_
      refine q_getI hx hb hts hown hK hP fd_RX9_77 (q_ltW hoa rfl) (q_kdW_14 hoa) rfl dX9_beginAfterCutOf_15 h ?_
      clear h; intro x7 r7 h
      refine q_cge hx hb r4 r7 (tgt := 71) dX9_beginAfterCutOf_18 (by decide) h ?_ ?_
      · clear h; intro g19 h
        exact hk71 μ5 _ _ _ hP hS (lv_sub hl [] rfl) h
      · clear h; intro g19 h
        refine lv_aload_n hx hb dX9_beginAfterCutOf_21 rfl (lv_at hl 1 rfl) ?_
        refine lv_iload_n hx hb dX9_beginAfterCutOf_22 rfl (lv_at hl 2 rfl) ?_
        obtain ⟨x9, hv8, h⟩ := q_b_some h
        refine q_callV hx hb hml hts hown hK hP hS (As := [.int (q_I x4)]) (rest := []) (st1 := [.int (q_I x9)]) cv_RX9_80 (c_Wo_crossesCut l D dA hoa r4 hv8) (q_ltW0 hoa) (q_kdW_0 hoa) rfl ⟨rfl, rfl, Nat.le_of_ble_eq_true rfl, Nat.le_of_ble_eq_true rfl⟩ ⟨Nat.le_refl _, Nat.le_refl _⟩ rfl hl.1 rfl (Nat.le_of_ble_eq_true rfl) rfl (fun _ g => g) dX9_beginAfterCutOf_23 ?_
        clear hP hS hv8; intro H locs r9 hP hS _
        refine q_jn_in h (fun J => ∀ (μ10 : q_M) (H : Heap) (locs : List Loc) (ls : Array Slot), q_P D dA q_kdC q_rhoC 77 z sz μ10 H → va_S (q_A z 77) s.heap H locs → lv_has ls 3 [(0, .ref (z + o)), (1, .ref (z + oa)), (2, .int (q_I x4))] → J μ10 = some μo → W p l e ({ frames := 4, cells := 0, slots := 0, locals := 85 } : Room) s m args below meth c H locs 0 0 Qf (F0 m 65 ls [])) ?_ ?_
        · clear h hl hP hS; intro μ10 H locs ls  hP hS hl h
          refine q_iinc (k := 2) (lv' := fun t => [(2, .int (q_I t)), (0, .ref (z + o)), (1, .ref (z + oa))]) hx hb dX9_beginAfterCutOf_65 hl rfl (by decide) (fun _ => rfl) h ?_
          clear h hl; intro x11 ls r11 hl h
          refine lv_goto (tgt := 10) hx hb dX9_beginAfterCutOf_68 (by decide) ?_
          exact ih10 x11 μ10 _ _ _ r11 hP hS (lv_sub hl [1, 2, 0] rfl) h
        · clear h; intro j65 hj65 h
          refine q_zeq hx hb r9 (tgt := 65) dX9_beginAfterCutOf_26 (by decide) h ?_ ?_
          · clear h; intro g18 h
            exact hj65 μ5 _ _ _ hP hS (lv_sub hl [0, 1, 2] rfl) h
          · clear h; intro g18 h
            refine lv_aload_n hx hb dX9_beginAfterCutOf_29 rfl (lv_at hl 0 rfl) ?_
            refine q_getR hx hb hts hown hK hP fd_RX9_31 (q_ltW0 ho) (q_kdW_0 ho) rfl (q_rhW_0_5 ho) dX9_beginAfterCutOf_30 ?_
            refine lv_aload_n hx hb dX9_beginAfterCutOf_33 rfl (lv_at hl 1 rfl) ?_
            refine q_getR hx hb hts hown hK hP fd_RX9_31 (q_ltW0 hoa) (q_kdW_0 hoa) rfl (q_rhW_0_5 hoa) dX9_beginAfterCutOf_34 ?_
            refine q_getR hx hb hts hown hK hP fd_RX9_84 (q_ltW hoa rfl) (q_kdW_14 hoa) rfl (q_rhW_14_1 hoa) dX9_beginAfterCutOf_37 ?_
            refine lv_iload_n hx hb dX9_beginAfterCutOf_40 rfl (lv_at hl 2 rfl) ?_
            refine q_iald hx hb hK hP (q_ltW hoa rfl) (q_kdW_15 hoa) r4 dX9_beginAfterCutOf_41 h ?_
            clear h; intro x12 r12 h
            refine lv_aload_n hx hb dX9_beginAfterCutOf_42 rfl (lv_at hl 1 rfl) ?_
            refine q_getR hx hb hts hown hK hP fd_RX9_31 (q_ltW0 hoa) (q_kdW_0 hoa) rfl (q_rhW_0_5 hoa) dX9_beginAfterCutOf_43 ?_
            refine q_getR hx hb hts hown hK hP fd_RX9_87 (q_ltW hoa rfl) (q_kdW_14 hoa) rfl (q_rhW_14_2 hoa) dX9_beginAfterCutOf_46 ?_
            refine lv_iload_n hx hb dX9_beginAfterCutOf_49 rfl (lv_at hl 2 rfl) ?_
            refine q_iald hx hb hK hP (q_ltW hoa rfl) (q_kdW_16 hoa) r4 dX9_beginAfterCutOf_50 h ?_
            clear h; intro x13 r13 h
            refine lv_aload_n hx hb dX9_beginAfterCutOf_51 rfl (lv_at hl 1 rfl) ?_
            refine q_getR hx hb hts hown hK hP fd_RX9_31 (q_ltW0 hoa) (q_kdW_0 hoa) rfl (q_rhW_0_5 hoa) dX9_beginAfterCutOf_52 ?_
            refine q_getR hx hb hts hown hK hP fd_RX9_90 (q_ltW hoa rfl) (q_kdW_14 hoa) rfl (q_rhW_14_3 hoa) dX9_beginAfterCutOf_55 ?_
            refine lv_iload_n hx hb dX9_beginAfterCutOf_58 rfl (lv_at hl 2 rfl) ?_
            refine q_iald hx hb hK hP (q_ltW hoa rfl) (q_kdW_17 hoa) r4 dX9_beginAfterCutOf_59 h ?_
            clear h; intro x14 r14 h
            refine lv_iconst (v := q_I (-1)) hx hb dX9_beginAfterCutOf_60 rfl ?_
            obtain ⟨x16, μ17, hv15, h⟩ := q_b2_some h
            refine q_callV hx hb hml hts hown hK hP hS (As := [.int (q_I x12), .int (q_I x13), .int (q_I x14), .int (q_I ((-1)))]) (rest := []) (st1 := [.int (q_I x16)]) cv_RX9_93 (c_Ch_put l D dA (by omega) r12 r13 r14 (q_r (-1) rfl) hv15) (q_ltW ho rfl) (q_kdW_14 ho) rfl ⟨rfl, rfl, Nat.le_of_ble_eq_true rfl, Nat.le_of_ble_eq_true rfl⟩ ⟨Nat.le_refl _, Nat.le_refl _⟩ rfl hl.1 rfl (Nat.le_of_ble_eq_true rfl) rfl (fun _ g => g) dX9_beginAfterCutOf_61 ?_
            clear hP hS hv15; intro H locs r16 hP hS _
            refine lv_pop hx hb dX9_beginAfterCutOf_64 rfl ?_
            exact hj65 μ17 _ _ _ hP hS (lv_sub hl [0, 1, 2] rfl) h
  refine L10 _ ?_  _ 0 μ3 _ _ _ (q_r 0 rfl) hP hS (lv_sub hl [1, 2, 0] rfl) h
  · clear h hl hP hS; intro μ6 H locs ls  hP hS hl h
    rw [← hQ]
    exact q_retv hx hb hr hlocks hP hS h dX9_beginAfterCutOf_71
set_option maxHeartbeats 4000000 in
set_option maxRecDepth 100000 in
theorem c_St_shift (l : Launch) (D : va_G) (dA : Nat → ClassId) {z sz : Nat} {a0 : Int} (ra0 : q_R a0) {a1 : Int} (ra1 : q_R a1) {a2 : Int} (ra2 : q_R a2) {a3 : Int} (ra3 : q_R a3) {μ : q_M} {μo : q_M} (h : f_St_shift a0 a1 a2 a3 μ = some μo) : Met l yX8_shift (q_wc yX8_shift cX8_shift 5 none) ({ frames := 1, cells := 0, slots := 0, locals := 21 } : Room) (va_Pc [.ref (z + 56), .int (q_I a0), .int (q_I a1), .int (q_I a2), .int (q_I a3)] (q_B (q_P D dA q_kdC q_rhoC 77 z sz μ) D dA)) (q_Q none True (q_P D dA q_kdC q_rhoC 77 z sz μo) (q_A z 77)) 0 0 (q_A z 77) := by
  refine Met.ofW (cc := cX8_shift) (maxL := 5) (ret := none) (by decide) rfl ?_
  intro p e s m args below meth c s₁ B hml hv
  obtain ⟨hargs, hP, hK⟩ := hv
  have hx := B.exec
  have hb := B.bytes
  have hr := B.returns
  have hts : ∀ w ∈ q_W, w.before args s = true := fun w hw => atoms_spec (ws := q_wc yX8_shift cX8_shift 5 none) B.pre w (List.mem_cons_of_mem _ hw)
  have hown : s.vm.findClass RX8 = some m.cls := findClass_of_methodNamed B.named
  have hlocks := B.notSynchronized
  have hS : va_S (q_A z 77) s.heap s.heap [] := va_S.rf
  have hA : ∀ k, k < 77 → q_A z 77 (z + k) := fun k hk => ⟨Nat.le_add_right z k, Nat.add_lt_add_left hk z⟩
  have hl := lv_entry [.ref (z + 56), .int (q_I a0), .int (q_I a1), .int (q_I a2), .int (q_I a3)] (n := 5) (Nat.le_of_ble_eq_true rfl)
  refine W.eq (by rw [hargs, lg_entry_eq]) ?_
  generalize (lg_sl [.ref (z + 56), .int (q_I a0), .int (q_I a1), .int (q_I a2), .int (q_I a3)] ++ List.replicate (5 - (lg_sl [.ref (z + 56), .int (q_I a0), .int (q_I a1), .int (q_I a2), .int (q_I a3)]).length) Slot.unset).toArray = ls at hl ⊢
  have hl : lv_has ls 5 [(0, .ref (z + 56)), (1, .int (q_I a0)), (2, .int (q_I a1)), (3, .int (q_I a2)), (4, .int (q_I a3))] := hl
  generalize hQ : MQ below _ args s 0 0 _ = Qf
  change W p l e ({ frames := 1, cells := 0, slots := 0, locals := 21 } : Room) s m args below meth c s.heap [] 0 0 Qf (F0 m 0 ls [])
  unfold f_St_shift at h
  refine lv_aload_n hx hb dX8_shift_0 rfl (lv_at hl 0 rfl) ?_
  refine q_getR hx hb hts hown hK hP fd_RX8_9 (Nat.le_of_ble_eq_true rfl) q_kdC_56 rfl q_rhC_56_1 dX8_shift_1 ?_
  refine lv_iload_n hx hb dX8_shift_4 rfl (lv_at hl 1 rfl) ?_
  refine lv_iload_n hx hb dX8_shift_5 rfl (lv_at hl 2 rfl) ?_
  obtain ⟨x2, hv1, h⟩ := q_b_some h
  refine q_callN hx hb hml hts hown hK hP hS (As := [.int (q_I a0), .int (q_I a1)]) (rest := [.ref (z + 57)]) (st1 := [.int (q_I x2), .ref (z + 57)]) cn_RX8_54 (c_CR_slot l D dA ra0 ra1 hv1) ⟨rfl, rfl, Nat.le_of_ble_eq_true rfl, Nat.le_of_ble_eq_true rfl⟩ ⟨Nat.le_refl _, Nat.le_refl _⟩ rfl hl.1 rfl (Nat.le_of_ble_eq_true rfl) rfl (fun _ g => g) dX8_shift_6 ?_
  clear hP hS hv1; intro H locs r2 hP hS _
  refine lv_dup2_11 hx hb dX8_shift_9 rfl rfl ?_
  refine q_iald hx hb hK hP (Nat.le_of_ble_eq_true rfl) q_kdC_57 r2 dX8_shift_10 h ?_
  clear h; intro x3 r3 h
  refine lv_iload_n hx hb dX8_shift_11 rfl (lv_at hl 3 rfl) ?_
  refine q_iadd hx hb dX8_shift_12 h ?_
  clear h; intro x4 r4 h
  refine q_iast hx hb hK hP hS hA (Nat.le_of_ble_eq_true rfl) q_kdC_57 r2 r4 dX8_shift_13 h ?_
  clear h hP hS; intro μ5 H locs hP hS h
  refine lv_aload_n hx hb dX8_shift_14 rfl (lv_at hl 0 rfl) ?_
  refine q_getR hx hb hts hown hK hP fd_RX8_15 (Nat.le_of_ble_eq_true rfl) q_kdC_56 rfl q_rhC_56_2 dX8_shift_15 ?_
  refine lv_iload_n hx hb dX8_shift_18 rfl (lv_at hl 2 rfl) ?_
  refine lv_dup2_11 hx hb dX8_shift_19 rfl rfl ?_
  refine q_iald hx hb hK hP (Nat.le_of_ble_eq_true rfl) q_kdC_58 ra1 dX8_shift_20 h ?_
  clear h; intro x6 r6 h
  refine lv_iload hx hb dX8_shift_21 (lv_at hl 4 rfl) ?_
  refine q_iadd hx hb dX8_shift_23 h ?_
  clear h; intro x7 r7 h
  refine q_iast hx hb hK hP hS hA (Nat.le_of_ble_eq_true rfl) q_kdC_58 ra1 r7 dX8_shift_24 h ?_
  clear h hP hS; intro μ8 H locs hP hS h
  rw [← hQ]
  exact q_retv hx hb hr hlocks hP hS h dX8_shift_25
set_option maxHeartbeats 4000000 in
set_option maxRecDepth 100000 in
theorem c_CR_shiftStanding (l : Launch) (D : va_G) (dA : Nat → ClassId) {z sz : Nat} {N : Nat} {a0 : Int} (ra0 : q_R a0) {μ : q_M} {μo : q_M} (h : f_CR_shiftStanding N a0 μ = some μo) : Met l yX10_shiftStanding (q_wc yX10_shiftStanding cX10_shiftStanding 8 none) ({ frames := 2, cells := 0, slots := 0, locals := 45 } : Room) (va_Pc [.ref (z + 0), .int (q_I a0)] (q_B (q_P D dA q_kdC q_rhoC 77 z sz μ) D dA)) (q_Q none True (q_P D dA q_kdC q_rhoC 77 z sz μo) (q_A z 77)) 0 0 (q_A z 77) := by
  refine Met.ofW (cc := cX10_shiftStanding) (maxL := 8) (ret := none) (by decide) rfl ?_
  intro p e s m args below meth c s₁ B hml hv
  obtain ⟨hargs, hP, hK⟩ := hv
  have hx := B.exec
  have hb := B.bytes
  have hr := B.returns
  have hts : ∀ w ∈ q_W, w.before args s = true := fun w hw => atoms_spec (ws := q_wc yX10_shiftStanding cX10_shiftStanding 8 none) B.pre w (List.mem_cons_of_mem _ hw)
  have hown : s.vm.findClass RX10 = some m.cls := findClass_of_methodNamed B.named
  have hlocks := B.notSynchronized
  have hS : va_S (q_A z 77) s.heap s.heap [] := va_S.rf
  have hA : ∀ k, k < 77 → q_A z 77 (z + k) := fun k hk => ⟨Nat.le_add_right z k, Nat.add_lt_add_left hk z⟩
  have hl := lv_entry [.ref (z + 0), .int (q_I a0)] (n := 8) (Nat.le_of_ble_eq_true rfl)
  refine W.eq (by rw [hargs, lg_entry_eq]) ?_
  generalize (lg_sl [.ref (z + 0), .int (q_I a0)] ++ List.replicate (8 - (lg_sl [.ref (z + 0), .int (q_I a0)]).length) Slot.unset).toArray = ls at hl ⊢
  have hl : lv_has ls 8 [(0, .ref (z + 0)), (1, .int (q_I a0))] := hl
  generalize hQ : MQ below _ args s 0 0 _ = Qf
  change W p l e ({ frames := 2, cells := 0, slots := 0, locals := 45 } : Room) s m args below meth c s.heap [] 0 0 Qf (F0 m 0 ls [])
  unfold f_CR_shiftStanding at h
  refine lv_aload_n hx hb dX10_shiftStanding_0 rfl (lv_at hl 0 rfl) ?_
  refine q_getR hx hb hts hown hK hP fd_RX10_16 (Nat.le_of_ble_eq_true rfl) q_kdC_0 rfl q_rhC_0_1 dX10_shiftStanding_1 ?_
  refine q_getR hx hb hts hown hK hP fd_RX10_75 (Nat.le_of_ble_eq_true rfl) q_kdC_24 rfl q_rhC_24_4 dX10_shiftStanding_4 ?_
  refine lv_astore_n (lv' := [(2, .ref (z + 28)), (0, .ref (z + 0)), (1, .int (q_I a0))]) hx hb dX10_shiftStanding_7 rfl hl (by decide) rfl ?_
  clear hl; intro ls hl
  refine lv_aload_n hx hb dX10_shiftStanding_8 rfl (lv_at hl 0 rfl) ?_
  refine q_getR hx hb hts hown hK hP fd_RX10_307 (Nat.le_of_ble_eq_true rfl) q_kdC_28 rfl q_rhC_28_1 dX10_shiftStanding_9 ?_
  refine lv_iload_n hx hb dX10_shiftStanding_12 rfl (lv_at hl 2 rfl) ?_
  refine q_iald hx hb hK hP (Nat.le_of_ble_eq_true rfl) q_kdC_29 ra0 dX10_shiftStanding_13 h ?_
  clear h; intro x1 r1 h
  refine lv_istore_n (lv' := [(3, .int (q_I x1)), (2, .ref (z + 28)), (0, .ref (z + 0)), (1, .int (q_I a0))]) hx hb dX10_shiftStanding_14 rfl hl (by decide) rfl ?_
  clear hl; intro ls hl
  refine lv_aload_n hx hb dX10_shiftStanding_15 rfl (lv_at hl 1 rfl) ?_
  refine q_getR hx hb hts hown hK hP fd_RX10_313 (Nat.le_of_ble_eq_true rfl) q_kdC_28 rfl q_rhC_28_3 dX10_shiftStanding_16 ?_
  refine lv_iload_n hx hb dX10_shiftStanding_19 rfl (lv_at hl 3 rfl) ?_
  refine q_iald hx hb hK hP (Nat.le_of_ble_eq_true rfl) q_kdC_31 ra0 dX10_shiftStanding_20 h ?_
  clear h; intro x2 r2 h
  refine lv_istore (lv' := [(4, .int (q_I x2)), (3, .int (q_I x1)), (2, .ref (z + 28)), (0, .ref (z + 0)), (1, .int (q_I a0))]) hx hb dX10_shiftStanding_21 hl (by decide) rfl ?_
  clear hl; intro ls hl
  refine lv_aload_n hx hb dX10_shiftStanding_23 rfl (lv_at hl 2 rfl) ?_
  refine q_getR hx hb hts hown hK hP fd_RX10_314 (Nat.le_of_ble_eq_true rfl) q_kdC_28 rfl q_rhC_28_4 dX10_shiftStanding_24 ?_
  refine lv_iload_n hx hb dX10_shiftStanding_27 rfl (lv_at hl 4 rfl) ?_
  refine q_iald hx hb hK hP (Nat.le_of_ble_eq_true rfl) q_kdC_32 ra0 dX10_shiftStanding_28 h ?_
  clear h; intro x3 r3 h
  refine lv_istore (lv' := [(5, .int (q_I x3)), (4, .int (q_I x2)), (3, .int (q_I x1)), (2, .ref (z + 28)), (0, .ref (z + 0)), (1, .int (q_I a0))]) hx hb dX10_shiftStanding_29 hl (by decide) rfl ?_
  clear hl; intro ls hl
  refine lv_aload_n hx hb dX10_shiftStanding_31 rfl (lv_at hl 3 rfl) ?_
  refine q_getR hx hb hts hown hK hP fd_RX10_310 (Nat.le_of_ble_eq_true rfl) q_kdC_28 rfl q_rhC_28_2 dX10_shiftStanding_32 ?_
  refine lv_iload_n hx hb dX10_shiftStanding_35 rfl (lv_at hl 5 rfl) ?_
  refine q_iald hx hb hK hP (Nat.le_of_ble_eq_true rfl) q_kdC_30 ra0 dX10_shiftStanding_36 h ?_
  clear h; intro x4 r4 h
  refine q_jn_in h (fun J => ∀ (μ5 : q_M) (H : Heap) (locs : List Loc) (ls : Array Slot), q_P D dA q_kdC q_rhoC 77 z sz μ5 H → va_S (q_A z 77) s.heap H locs → lv_has ls 8 [] → J μ5 = some μo → W p l e ({ frames := 2, cells := 0, slots := 0, locals := 45 } : Room) s m args below meth c H locs 0 0 Qf (F0 m 168 ls [])) ?_ ?_
  · clear h hl hP hS; intro μ5 H locs ls  hP hS hl h
    rw [← hQ]
    exact q_retv hx hb hr hlocks hP hS h dX10_shiftStanding_168
  · clear h; intro j168 hj168 h
    by_cases g8 : x4 = 0
    · rw [if_pos g8] at h
      refine q_look (off := 27) (tgt := 64) hx hb r4 dX10_shiftStanding_37 rfl (by simp [g8, Op.lookupswitch.offset_cons, Op.lookupswitch.offset_nil]) (by decide) ?_
      refine lv_aload_n hx hb dX10_shiftStanding_64 rfl (lv_at hl 4 rfl) ?_
      refine q_getR hx hb hts hown hK hP fd_RX10_43 (Nat.le_of_ble_eq_true rfl) q_kdC_0 rfl q_rhC_0_6 dX10_shiftStanding_65 ?_
      refine lv_iload_n hx hb dX10_shiftStanding_68 rfl (lv_at hl 2 rfl) ?_
      refine lv_iload hx hb dX10_shiftStanding_69 (lv_at hl 1 rfl) ?_
      refine lv_iload hx hb dX10_shiftStanding_71 (lv_at hl 0 rfl) ?_
      refine lv_iconst (v := q_I 0) hx hb dX10_shiftStanding_73 rfl ?_
      obtain ⟨μ7, hv6, h⟩ := q_b_some h
      refine q_callV hx hb hml hts hown hK hP hS (As := [.int (q_I x1), .int (q_I x2), .int (q_I x3), .int (q_I 0)]) (rest := []) (st1 := []) cv_RX10_321 (c_St_shift l D dA r1 r2 r3 (q_r 0 rfl) hv6) (Nat.le_of_ble_eq_true rfl) q_kdC_56 rfl ⟨rfl, rfl, Nat.le_of_ble_eq_true rfl, Nat.le_of_ble_eq_true rfl⟩ ⟨Nat.le_refl _, Nat.le_refl _⟩ rfl hl.1 rfl (Nat.le_of_ble_eq_true rfl) rfl (fun _ g => g) dX10_shiftStanding_74 ?_
      clear hP hS hv6; intro H locs _ hP hS _
      refine lv_goto (tgt := 168) hx hb dX10_shiftStanding_77 (by decide) ?_
      exact hj168 μ7 _ _ _ hP hS (lv_sub hl [] rfl) h
    · rw [if_neg g8] at h
      by_cases g12 : x4 = 1
      · rw [if_pos g12] at h
        refine q_look (off := 43) (tgt := 80) hx hb r4 dX10_shiftStanding_37 rfl (by simp [g12, Op.lookupswitch.offset_cons, Op.lookupswitch.offset_nil]) (by decide) ?_
        refine lv_aload_n hx hb dX10_shiftStanding_80 rfl (lv_at hl 4 rfl) ?_
        refine q_getR hx hb hts hown hK hP fd_RX10_43 (Nat.le_of_ble_eq_true rfl) q_kdC_0 rfl q_rhC_0_6 dX10_shiftStanding_81 ?_
        refine lv_iload_n hx hb dX10_shiftStanding_84 rfl (lv_at hl 2 rfl) ?_
        refine lv_iload hx hb dX10_shiftStanding_85 (lv_at hl 1 rfl) ?_
        refine lv_iload hx hb dX10_shiftStanding_87 (lv_at hl 0 rfl) ?_
        refine q_ineg hx hb dX10_shiftStanding_89 h ?_
        clear h; intro x9 r9 h
        refine lv_iload hx hb dX10_shiftStanding_90 (lv_at hl 0 rfl) ?_
        obtain ⟨μ11, hv10, h⟩ := q_b_some h
        refine q_callV hx hb hml hts hown hK hP hS (As := [.int (q_I x1), .int (q_I x2), .int (q_I x9), .int (q_I x3)]) (rest := []) (st1 := []) cv_RX10_321 (c_St_shift l D dA r1 r2 r9 r3 hv10) (Nat.le_of_ble_eq_true rfl) q_kdC_56 rfl ⟨rfl, rfl, Nat.le_of_ble_eq_true rfl, Nat.le_of_ble_eq_true rfl⟩ ⟨Nat.le_refl _, Nat.le_refl _⟩ rfl hl.1 rfl (Nat.le_of_ble_eq_true rfl) rfl (fun _ g => g) dX10_shiftStanding_92 ?_
        clear hP hS hv10; intro H locs _ hP hS _
        refine lv_goto (tgt := 168) hx hb dX10_shiftStanding_95 (by decide) ?_
        exact hj168 μ11 _ _ _ hP hS (lv_sub hl [] rfl) h
      · rw [if_neg g12] at h
        refine q_look (off := 61) (tgt := 98) hx hb r4 dX10_shiftStanding_37 rfl (by simp [Op.lookupswitch.offset_cons, Op.lookupswitch.offset_nil, Ne.symm g8, Ne.symm g12]) (by decide) ?_
        refine lv_aload_n hx hb dX10_shiftStanding_98 rfl (lv_at hl 4 rfl) ?_
        refine q_getR hx hb hts hown hK hP fd_RX10_10 (Nat.le_of_ble_eq_true rfl) q_kdC_0 rfl q_rhC_0_0 dX10_shiftStanding_99 ?_
        refine q_getR hx hb hts hown hK hP fd_RX10_111 (Nat.le_of_ble_eq_true rfl) q_kdC_1 rfl q_rhC_1_5 dX10_shiftStanding_102 ?_
        refine lv_aload_n hx hb dX10_shiftStanding_105 rfl (lv_at hl 3 rfl) ?_
        refine q_getR hx hb hts hown hK hP fd_RX10_315 (Nat.le_of_ble_eq_true rfl) q_kdC_28 rfl q_rhC_28_5 dX10_shiftStanding_106 ?_
        refine lv_iload_n hx hb dX10_shiftStanding_109 rfl (lv_at hl 5 rfl) ?_
        refine q_iald hx hb hK hP (Nat.le_of_ble_eq_true rfl) q_kdC_33 ra0 dX10_shiftStanding_110 h ?_
        clear h; intro x13 r13 h
        refine lv_iload_n hx hb dX10_shiftStanding_111 rfl (lv_at hl 2 rfl) ?_
        obtain ⟨x15, hv14, h⟩ := q_b_some h
        refine q_callS hx hb hml hts hown hK hP hS (As := [.int (q_I x13), .int (q_I x1)]) (rest := [.ref (z + 15)]) (st1 := [.int (q_I x15), .ref (z + 15)]) cs_RX10_115 (c_CR_channelOf l D dA r13 r1 hv14) ⟨rfl, rfl, Nat.le_of_ble_eq_true rfl, Nat.le_of_ble_eq_true rfl⟩ ⟨Nat.le_refl _, Nat.le_refl _⟩ rfl hl.1 rfl (Nat.le_of_ble_eq_true rfl) rfl (fun _ g => g) dX10_shiftStanding_112 ?_
        clear hP hS hv14; intro H locs r15 hP hS _
        refine lv_iconst (v := q_I 0) hx hb dX10_shiftStanding_115 rfl ?_
        obtain ⟨x17, hv16, h⟩ := q_b_some h
        refine q_callV hx hb hml hts hown hK hP hS (As := [.int (q_I x15), .int (q_I 0)]) (rest := []) (st1 := [.int (q_I x17)]) cv_RX10_325 (c_Ch_messageAt l D dA (Or.inl rfl) r15 (q_r 0 rfl) hv16) (Nat.le_of_ble_eq_true rfl) q_kdC_15 rfl ⟨rfl, rfl, Nat.le_of_ble_eq_true rfl, Nat.le_of_ble_eq_true rfl⟩ ⟨Nat.le_refl _, Nat.le_refl _⟩ rfl hl.1 rfl (Nat.le_of_ble_eq_true rfl) rfl (fun _ g => g) dX10_shiftStanding_116 ?_
        clear hP hS hv16; intro H locs r17 hP hS _
        refine lv_istore (lv' := [(6, .int (q_I x17)), (5, .int (q_I x3)), (4, .int (q_I x2)), (3, .int (q_I x1)), (2, .ref (z + 28)), (0, .ref (z + 0)), (1, .int (q_I a0))]) hx hb dX10_shiftStanding_119 hl (by decide) rfl ?_
        clear hl; intro ls hl
        refine lv_iload hx hb dX10_shiftStanding_121 (lv_at hl 0 rfl) ?_
        refine lv_iconst (v := q_I (-1)) hx hb dX10_shiftStanding_123 rfl ?_
        refine q_ceq hx hb r17 (q_r (-1) rfl) (tgt := 168) dX10_shiftStanding_124 (by decide) h ?_ ?_
        · clear h; intro g23 h
          exact hj168 μ _ _ _ hP hS (lv_sub hl [] rfl) h
        · clear h; intro g23 h
          refine lv_aload_n hx hb dX10_shiftStanding_127 rfl (lv_at hl 5 rfl) ?_
          refine q_getR hx hb hts hown hK hP fd_RX10_10 (Nat.le_of_ble_eq_true rfl) q_kdC_0 rfl q_rhC_0_0 dX10_shiftStanding_128 ?_
          refine q_getR hx hb hts hown hK hP fd_RX10_111 (Nat.le_of_ble_eq_true rfl) q_kdC_1 rfl q_rhC_1_5 dX10_shiftStanding_131 ?_
          refine q_getR hx hb hts hown hK hP fd_RX10_203 (Nat.le_of_ble_eq_true rfl) q_kdC_15 rfl q_rhC_15_3 dX10_shiftStanding_134 ?_
          refine lv_iload hx hb dX10_shiftStanding_137 (lv_at hl 0 rfl) ?_
          refine q_iald hx hb hK hP (Nat.le_of_ble_eq_true rfl) q_kdC_18 r17 dX10_shiftStanding_139 h ?_
          clear h; intro x18 r18 h
          refine lv_istore (lv' := [(7, .int (q_I x18)), (6, .int (q_I x17)), (5, .int (q_I x3)), (4, .int (q_I x2)), (3, .int (q_I x1)), (2, .ref (z + 28)), (0, .ref (z + 0)), (1, .int (q_I a0))]) hx hb dX10_shiftStanding_140 hl (by decide) rfl ?_
          clear hl; intro ls hl
          refine lv_aload_n hx hb dX10_shiftStanding_142 rfl (lv_at hl 6 rfl) ?_
          refine q_getR hx hb hts hown hK hP fd_RX10_43 (Nat.le_of_ble_eq_true rfl) q_kdC_0 rfl q_rhC_0_6 dX10_shiftStanding_143 ?_
          refine lv_iload_n hx hb dX10_shiftStanding_146 rfl (lv_at hl 4 rfl) ?_
          refine lv_aload_n hx hb dX10_shiftStanding_147 rfl (lv_at hl 6 rfl) ?_
          refine q_getR hx hb hts hown hK hP fd_RX10_10 (Nat.le_of_ble_eq_true rfl) q_kdC_0 rfl q_rhC_0_0 dX10_shiftStanding_148 ?_
          refine q_getR hx hb hts hown hK hP fd_RX10_111 (Nat.le_of_ble_eq_true rfl) q_kdC_1 rfl q_rhC_1_5 dX10_shiftStanding_151 ?_
          refine q_getR hx hb hts hown hK hP fd_RX10_200 (Nat.le_of_ble_eq_true rfl) q_kdC_15 rfl q_rhC_15_2 dX10_shiftStanding_154 ?_
          refine lv_iload hx hb dX10_shiftStanding_157 (lv_at hl 1 rfl) ?_
          refine q_iald hx hb hK hP (Nat.le_of_ble_eq_true rfl) q_kdC_17 r17 dX10_shiftStanding_159 h ?_
          clear h; intro x19 r19 h
          refine lv_iload hx hb dX10_shiftStanding_160 (lv_at hl 0 rfl) ?_
          refine lv_iload hx hb dX10_shiftStanding_162 (lv_at hl 0 rfl) ?_
          refine q_ineg hx hb dX10_shiftStanding_164 h ?_
          clear h; intro x20 r20 h
          obtain ⟨μ22, hv21, h⟩ := q_b_some h
          refine q_callV hx hb hml hts hown hK hP hS (As := [.int (q_I x1), .int (q_I x19), .int (q_I x18), .int (q_I x20)]) (rest := []) (st1 := []) cv_RX10_321 (c_St_shift l D dA r1 r19 r18 r20 hv21) (Nat.le_of_ble_eq_true rfl) q_kdC_56 rfl ⟨rfl, rfl, Nat.le_of_ble_eq_true rfl, Nat.le_of_ble_eq_true rfl⟩ ⟨Nat.le_refl _, Nat.le_refl _⟩ rfl hl.1 rfl (Nat.le_of_ble_eq_true rfl) rfl (fun _ g => g) dX10_shiftStanding_165 ?_
          clear hP hS hv21; intro H locs _ hP hS _
          exact hj168 μ22 _ _ _ hP hS (lv_sub hl [] rfl) h
set_option maxHeartbeats 4000000 in
set_option maxRecDepth 100000 in
theorem c_CR_wouldBreak (l : Launch) (D : va_G) (dA : Nat → ClassId) {z sz : Nat} {N : Nat} {a0 : Int} (ra0 : q_R a0) {μ : q_M} {xo : Int} {μo : q_M} (h : f_CR_wouldBreak N a0 μ = some (xo, μo)) : Met l yX10_wouldBreak (q_wc yX10_wouldBreak cX10_wouldBreak 3 (some .boolean)) ({ frames := 4, cells := 0, slots := 0, locals := 91 } : Room) (va_Pc [.ref (z + 0), .int (q_I a0)] (q_B (q_P D dA q_kdC q_rhoC 77 z sz μ) D dA)) (q_Q (some (.int (q_I xo))) (q_R xo) (q_P D dA q_kdC q_rhoC 77 z sz μo) (q_A z 77)) 0 0 (q_A z 77) := by
  refine Met.ofW (cc := cX10_wouldBreak) (maxL := 3) (ret := (some .boolean)) (by decide) rfl ?_
  intro p e s m args below meth c s₁ B hml hv
  obtain ⟨hargs, hP, hK⟩ := hv
  have hx := B.exec
  have hb := B.bytes
  have hr := B.returns
  have hts : ∀ w ∈ q_W, w.before args s = true := fun w hw => atoms_spec (ws := q_wc yX10_wouldBreak cX10_wouldBreak 3 (some .boolean)) B.pre w (List.mem_cons_of_mem _ hw)
  have hown : s.vm.findClass RX10 = some m.cls := findClass_of_methodNamed B.named
  have hlocks := B.notSynchronized
  have hS : va_S (q_A z 77) s.heap s.heap [] := va_S.rf
  have hA : ∀ k, k < 77 → q_A z 77 (z + k) := fun k hk => ⟨Nat.le_add_right z k, Nat.add_lt_add_left hk z⟩
  have hl := lv_entry [.ref (z + 0), .int (q_I a0)] (n := 3) (Nat.le_of_ble_eq_true rfl)
  refine W.eq (by rw [hargs, lg_entry_eq]) ?_
  generalize (lg_sl [.ref (z + 0), .int (q_I a0)] ++ List.replicate (3 - (lg_sl [.ref (z + 0), .int (q_I a0)]).length) Slot.unset).toArray = ls at hl ⊢
  have hl : lv_has ls 3 [(0, .ref (z + 0)), (1, .int (q_I a0))] := hl
  generalize hQ : MQ below _ args s 0 0 _ = Qf
  change W p l e ({ frames := 4, cells := 0, slots := 0, locals := 91 } : Room) s m args below meth c s.heap [] 0 0 Qf (F0 m 0 ls [])
  unfold f_CR_wouldBreak at h
  refine lv_aload_n hx hb dX10_wouldBreak_0 rfl (lv_at hl 0 rfl) ?_
  refine q_getR hx hb hts hown hK hP fd_RX10_43 (Nat.le_of_ble_eq_true rfl) q_kdC_0 rfl q_rhC_0_6 dX10_wouldBreak_1 ?_
  refine lv_aload_n hx hb dX10_wouldBreak_4 rfl (lv_at hl 0 rfl) ?_
  refine q_getR hx hb hts hown hK hP fd_RX10_10 (Nat.le_of_ble_eq_true rfl) q_kdC_0 rfl q_rhC_0_0 dX10_wouldBreak_5 ?_
  obtain ⟨μ2, hv1, h⟩ := q_b_some h
  refine q_callV hx hb hml hts hown hK hP hS (As := [.ref (z + 1)]) (rest := []) (st1 := []) cv_RX10_231 (c_St_readPresent l D dA (Or.inl rfl) hv1) (Nat.le_of_ble_eq_true rfl) q_kdC_56 rfl ⟨rfl, rfl, Nat.le_of_ble_eq_true rfl, Nat.le_of_ble_eq_true rfl⟩ ⟨Nat.le_refl _, Nat.le_refl _⟩ rfl hl.1 rfl (Nat.le_of_ble_eq_true rfl) rfl (fun _ g => g) dX10_wouldBreak_8 ?_
  clear hP hS hv1; intro H locs _ hP hS _
  refine lv_aload_n hx hb dX10_wouldBreak_11 rfl (lv_at hl 0 rfl) ?_
  refine q_getR hx hb hts hown hK hP fd_RX10_29 (Nat.le_of_ble_eq_true rfl) q_kdC_0 rfl q_rhC_0_4 dX10_wouldBreak_12 ?_
  refine lv_aload_n hx hb dX10_wouldBreak_15 rfl (lv_at hl 0 rfl) ?_
  refine q_getR hx hb hts hown hK hP fd_RX10_43 (Nat.le_of_ble_eq_true rfl) q_kdC_0 rfl q_rhC_0_6 dX10_wouldBreak_16 ?_
  obtain ⟨x4, hv3, h⟩ := q_b_some h
  refine q_callV hx hb hml hts hown hK hP hS (As := [.ref (z + 56)]) (rest := []) (st1 := [.int (q_I x4)]) cv_RX10_235 (c_RB_brokenIn l D dA hv3) (Nat.le_of_ble_eq_true rfl) q_kdC_49 rfl ⟨rfl, rfl, Nat.le_of_ble_eq_true rfl, Nat.le_of_ble_eq_true rfl⟩ ⟨Nat.le_refl _, Nat.le_refl _⟩ rfl hl.1 rfl (Nat.le_of_ble_eq_true rfl) rfl (fun _ g => g) dX10_wouldBreak_19 ?_
  clear hP hS hv3; intro H locs r4 hP hS _
  refine lv_istore_n (lv' := [(2, .int (q_I x4)), (0, .ref (z + 0)), (1, .int (q_I a0))]) hx hb dX10_wouldBreak_22 rfl hl (by decide) rfl ?_
  clear hl; intro ls hl
  refine lv_aload_n hx hb dX10_wouldBreak_23 rfl (lv_at hl 1 rfl) ?_
  refine lv_iload_n hx hb dX10_wouldBreak_24 rfl (lv_at hl 2 rfl) ?_
  obtain ⟨μ6, hv5, h⟩ := q_b_some h
  refine q_callV hx hb hml hts hown hK hP hS (As := [.int (q_I a0)]) (rest := []) (st1 := []) cv_RX10_318 (c_CR_shiftStanding l D dA ra0 hv5) (Nat.le_of_ble_eq_true rfl) q_kdC_0 rfl ⟨rfl, rfl, Nat.le_of_ble_eq_true rfl, Nat.le_of_ble_eq_true rfl⟩ ⟨Nat.le_refl _, Nat.le_refl _⟩ rfl hl.1 rfl (Nat.le_of_ble_eq_true rfl) rfl (fun _ g => g) dX10_wouldBreak_25 ?_
  clear hP hS hv5; intro H locs _ hP hS _
  refine lv_aload_n hx hb dX10_wouldBreak_28 rfl (lv_at hl 1 rfl) ?_
  refine q_getR hx hb hts hown hK hP fd_RX10_29 (Nat.le_of_ble_eq_true rfl) q_kdC_0 rfl q_rhC_0_4 dX10_wouldBreak_29 ?_
  refine lv_aload_n hx hb dX10_wouldBreak_32 rfl (lv_at hl 1 rfl) ?_
  refine q_getR hx hb hts hown hK hP fd_RX10_43 (Nat.le_of_ble_eq_true rfl) q_kdC_0 rfl q_rhC_0_6 dX10_wouldBreak_33 ?_
  obtain ⟨x8, hv7, h⟩ := q_b_some h
  refine q_callV hx hb hml hts hown hK hP hS (As := [.ref (z + 56)]) (rest := []) (st1 := [.int (q_I x8)]) cv_RX10_235 (c_RB_brokenIn l D dA hv7) (Nat.le_of_ble_eq_true rfl) q_kdC_49 rfl ⟨rfl, rfl, Nat.le_of_ble_eq_true rfl, Nat.le_of_ble_eq_true rfl⟩ ⟨Nat.le_refl _, Nat.le_refl _⟩ rfl hl.1 rfl (Nat.le_of_ble_eq_true rfl) rfl (fun _ g => g) dX10_wouldBreak_36 ?_
  clear hP hS hv7; intro H locs r8 hP hS _
  refine lv_iload_n hx hb dX10_wouldBreak_39 rfl (lv_at hl 0 rfl) ?_
  refine lv_iconst (v := q_I (-1)) hx hb dX10_wouldBreak_40 rfl ?_
  refine q_ixor hx hb dX10_wouldBreak_41 h ?_
  clear h; intro x9 r9 h
  refine q_iand hx hb dX10_wouldBreak_42 h ?_
  clear h; intro x10 r10 h
  refine q_jn_in h (fun J => ∀ (x11 : Int) (H : Heap) (locs : List Loc) (ls : Array Slot), q_R x11 → q_P D dA q_kdC q_rhoC 77 z sz μ6 H → va_S (q_A z 77) s.heap H locs → lv_has ls 3 [] → J x11 = some (xo, μo) → W p l e ({ frames := 4, cells := 0, slots := 0, locals := 91 } : Room) s m args below meth c H locs 0 0 Qf (F0 m 51 ls [.int (q_I x11)])) ?_ ?_
  · clear h hl hP hS; intro x11 H locs ls r11 hP hS hl h
    rw [← hQ]
    obtain ⟨hz, h⟩ := q_rz_some h
    exact q_retz2 hx hb hr hlocks hP hS hz h dX10_wouldBreak_51
  · clear h; intro j51 hj51 h
    refine q_zeq hx hb r10 (tgt := 50) dX10_wouldBreak_43 (by decide) h ?_ ?_
    · clear h; intro g12 h
      refine lv_iconst (v := q_I 0) hx hb dX10_wouldBreak_50 rfl ?_
      exact hj51 0 _ _ _ (q_r 0 rfl) hP hS (lv_sub hl [] rfl) h
    · clear h; intro g12 h
      refine lv_iconst (v := q_I 1) hx hb dX10_wouldBreak_46 rfl ?_
      refine lv_goto (tgt := 51) hx hb dX10_wouldBreak_47 (by decide) ?_
      exact hj51 1 _ _ _ (q_r 1 rfl) hP hS (lv_sub hl [] rfl) h
set_option maxHeartbeats 4000000 in
set_option maxRecDepth 100000 in
theorem c_CR_tryAgain (l : Launch) (D : va_G) (dA : Nat → ClassId) {z sz : Nat} {N : Nat} {a0 : Int} (ra0 : q_R a0) {μ : q_M} {xo : Int} {μo : q_M} (h : f_CR_tryAgain N a0 μ = some (xo, μo)) : Met l yX10_tryAgain (q_wc yX10_tryAgain cX10_tryAgain 4 (some .int)) ({ frames := 4, cells := 0, slots := 0, locals := 92 } : Room) (va_Pc [.ref (z + 0), .int (q_I a0)] (q_B (q_P D dA q_kdC q_rhoC 77 z sz μ) D dA)) (q_Q (some (.int (q_I xo))) (q_R xo) (q_P D dA q_kdC q_rhoC 77 z sz μo) (q_A z 77)) 0 0 (q_A z 77) := by
  refine Met.ofW (cc := cX10_tryAgain) (maxL := 4) (ret := (some .int)) (by decide) rfl ?_
  intro p e s m args below meth c s₁ B hml hv
  obtain ⟨hargs, hP, hK⟩ := hv
  have hx := B.exec
  have hb := B.bytes
  have hr := B.returns
  have hts : ∀ w ∈ q_W, w.before args s = true := fun w hw => atoms_spec (ws := q_wc yX10_tryAgain cX10_tryAgain 4 (some .int)) B.pre w (List.mem_cons_of_mem _ hw)
  have hown : s.vm.findClass RX10 = some m.cls := findClass_of_methodNamed B.named
  have hlocks := B.notSynchronized
  have hS : va_S (q_A z 77) s.heap s.heap [] := va_S.rf
  have hA : ∀ k, k < 77 → q_A z 77 (z + k) := fun k hk => ⟨Nat.le_add_right z k, Nat.add_lt_add_left hk z⟩
  have hl := lv_entry [.ref (z + 0), .int (q_I a0)] (n := 4) (Nat.le_of_ble_eq_true rfl)
  refine W.eq (by rw [hargs, lg_entry_eq]) ?_
  generalize (lg_sl [.ref (z + 0), .int (q_I a0)] ++ List.replicate (4 - (lg_sl [.ref (z + 0), .int (q_I a0)]).length) Slot.unset).toArray = ls at hl ⊢
  have hl : lv_has ls 4 [(0, .ref (z + 0)), (1, .int (q_I a0))] := hl
  generalize hQ : MQ below _ args s 0 0 _ = Qf
  change W p l e ({ frames := 4, cells := 0, slots := 0, locals := 92 } : Room) s m args below meth c s.heap [] 0 0 Qf (F0 m 0 ls [])
  unfold f_CR_tryAgain at h
  refine lv_aload_n hx hb dX10_tryAgain_0 rfl (lv_at hl 0 rfl) ?_
  refine q_getR hx hb hts hown hK hP fd_RX10_16 (Nat.le_of_ble_eq_true rfl) q_kdC_0 rfl q_rhC_0_1 dX10_tryAgain_1 ?_
  refine q_getR hx hb hts hown hK hP fd_RX10_75 (Nat.le_of_ble_eq_true rfl) q_kdC_24 rfl q_rhC_24_4 dX10_tryAgain_4 ?_
  refine lv_astore_n (lv' := [(2, .ref (z + 28)), (0, .ref (z + 0)), (1, .int (q_I a0))]) hx hb dX10_tryAgain_7 rfl hl (by decide) rfl ?_
  clear hl; intro ls hl
  refine lv_aload_n hx hb dX10_tryAgain_8 rfl (lv_at hl 0 rfl) ?_
  refine q_getR hx hb hts hown hK hP fd_RX10_307 (Nat.le_of_ble_eq_true rfl) q_kdC_28 rfl q_rhC_28_1 dX10_tryAgain_9 ?_
  refine lv_iload_n hx hb dX10_tryAgain_12 rfl (lv_at hl 2 rfl) ?_
  refine q_iald hx hb hK hP (Nat.le_of_ble_eq_true rfl) q_kdC_29 ra0 dX10_tryAgain_13 h ?_
  clear h; intro x1 r1 h
  refine lv_istore_n (lv' := [(3, .int (q_I x1)), (2, .ref (z + 28)), (0, .ref (z + 0)), (1, .int (q_I a0))]) hx hb dX10_tryAgain_14 rfl hl (by decide) rfl ?_
  clear hl; intro ls hl
  refine lv_aload_n hx hb dX10_tryAgain_15 rfl (lv_at hl 1 rfl) ?_
  refine q_getR hx hb hts hown hK hP fd_RX10_310 (Nat.le_of_ble_eq_true rfl) q_kdC_28 rfl q_rhC_28_2 dX10_tryAgain_16 ?_
  refine lv_iload_n hx hb dX10_tryAgain_19 rfl (lv_at hl 3 rfl) ?_
  refine q_iald hx hb hK hP (Nat.le_of_ble_eq_true rfl) q_kdC_30 ra0 dX10_tryAgain_20 h ?_
  clear h; intro x2 r2 h
  by_cases g8 : x2 = 0
  · rw [if_pos g8] at h
    refine q_look (off := 27) (tgt := 48) hx hb r2 dX10_tryAgain_21 rfl (by simp [g8, Op.lookupswitch.offset_cons, Op.lookupswitch.offset_nil]) (by decide) ?_
    refine lv_aload_n hx hb dX10_tryAgain_48 rfl (lv_at hl 2 rfl) ?_
    refine q_getR hx hb hts hown hK hP fd_RX10_10 (Nat.le_of_ble_eq_true rfl) q_kdC_0 rfl q_rhC_0_0 dX10_tryAgain_49 ?_
    refine lv_iload_n hx hb dX10_tryAgain_52 rfl (lv_at hl 0 rfl) ?_
    refine lv_aload_n hx hb dX10_tryAgain_53 rfl (lv_at hl 1 rfl) ?_
    refine q_getR hx hb hts hown hK hP fd_RX10_313 (Nat.le_of_ble_eq_true rfl) q_kdC_28 rfl q_rhC_28_3 dX10_tryAgain_54 ?_
    refine lv_iload_n hx hb dX10_tryAgain_57 rfl (lv_at hl 3 rfl) ?_
    refine q_iald hx hb hK hP (Nat.le_of_ble_eq_true rfl) q_kdC_31 ra0 dX10_tryAgain_58 h ?_
    clear h; intro x3 r3 h
    refine lv_aload_n hx hb dX10_tryAgain_59 rfl (lv_at hl 1 rfl) ?_
    refine q_getR hx hb hts hown hK hP fd_RX10_314 (Nat.le_of_ble_eq_true rfl) q_kdC_28 rfl q_rhC_28_4 dX10_tryAgain_60 ?_
    refine lv_iload_n hx hb dX10_tryAgain_63 rfl (lv_at hl 3 rfl) ?_
    refine q_iald hx hb hK hP (Nat.le_of_ble_eq_true rfl) q_kdC_32 ra0 dX10_tryAgain_64 h ?_
    clear h; intro x4 r4 h
    obtain ⟨x6, μ7, hv5, h⟩ := q_b2_some h
    refine q_callV hx hb hml hts hown hK hP hS (As := [.int (q_I x1), .int (q_I x3), .int (q_I x4)]) (rest := []) (st1 := [.int (q_I x6)]) cv_RX10_96 (c_Wo_tryChange l D dA (Or.inl rfl) r1 r3 r4 hv5) (Nat.le_of_ble_eq_true rfl) q_kdC_1 rfl ⟨rfl, rfl, Nat.le_of_ble_eq_true rfl, Nat.le_of_ble_eq_true rfl⟩ ⟨Nat.le_refl _, Nat.le_refl _⟩ rfl hl.1 rfl (Nat.le_of_ble_eq_true rfl) rfl (fun _ g => g) dX10_tryAgain_65 ?_
    clear hP hS hv5; intro H locs r6 hP hS _
    rw [← hQ]
    exact q_ret2 hx hb hr hlocks hP hS r6 h dX10_tryAgain_68
  · rw [if_neg g8] at h
    by_cases g15 : x2 = 1
    · rw [if_pos g15] at h
      refine q_look (off := 48) (tgt := 69) hx hb r2 dX10_tryAgain_21 rfl (by simp [g15, Op.lookupswitch.offset_cons, Op.lookupswitch.offset_nil]) (by decide) ?_
      refine lv_aload_n hx hb dX10_tryAgain_69 rfl (lv_at hl 2 rfl) ?_
      refine q_getR hx hb hts hown hK hP fd_RX10_10 (Nat.le_of_ble_eq_true rfl) q_kdC_0 rfl q_rhC_0_0 dX10_tryAgain_70 ?_
      refine lv_iload_n hx hb dX10_tryAgain_73 rfl (lv_at hl 0 rfl) ?_
      refine lv_aload_n hx hb dX10_tryAgain_74 rfl (lv_at hl 1 rfl) ?_
      refine q_getR hx hb hts hown hK hP fd_RX10_315 (Nat.le_of_ble_eq_true rfl) q_kdC_28 rfl q_rhC_28_5 dX10_tryAgain_75 ?_
      refine lv_iload_n hx hb dX10_tryAgain_78 rfl (lv_at hl 3 rfl) ?_
      refine q_iald hx hb hK hP (Nat.le_of_ble_eq_true rfl) q_kdC_33 ra0 dX10_tryAgain_79 h ?_
      clear h; intro x9 r9 h
      refine lv_aload_n hx hb dX10_tryAgain_80 rfl (lv_at hl 1 rfl) ?_
      refine q_getR hx hb hts hown hK hP fd_RX10_313 (Nat.le_of_ble_eq_true rfl) q_kdC_28 rfl q_rhC_28_3 dX10_tryAgain_81 ?_
      refine lv_iload_n hx hb dX10_tryAgain_84 rfl (lv_at hl 3 rfl) ?_
      refine q_iald hx hb hK hP (Nat.le_of_ble_eq_true rfl) q_kdC_31 ra0 dX10_tryAgain_85 h ?_
      clear h; intro x10 r10 h
      refine lv_aload_n hx hb dX10_tryAgain_86 rfl (lv_at hl 1 rfl) ?_
      refine q_getR hx hb hts hown hK hP fd_RX10_314 (Nat.le_of_ble_eq_true rfl) q_kdC_28 rfl q_rhC_28_4 dX10_tryAgain_87 ?_
      refine lv_iload_n hx hb dX10_tryAgain_90 rfl (lv_at hl 3 rfl) ?_
      refine q_iald hx hb hK hP (Nat.le_of_ble_eq_true rfl) q_kdC_32 ra0 dX10_tryAgain_91 h ?_
      clear h; intro x11 r11 h
      obtain ⟨x13, μ14, hv12, h⟩ := q_b2_some h
      refine q_callV hx hb hml hts hown hK hP hS (As := [.int (q_I x1), .int (q_I x9), .int (q_I x10), .int (q_I x11)]) (rest := []) (st1 := [.int (q_I x13)]) cv_RX10_104 (c_Wo_trySend l D dA (Or.inl rfl) r1 r9 r10 r11 hv12) (Nat.le_of_ble_eq_true rfl) q_kdC_1 rfl ⟨rfl, rfl, Nat.le_of_ble_eq_true rfl, Nat.le_of_ble_eq_true rfl⟩ ⟨Nat.le_refl _, Nat.le_refl _⟩ rfl hl.1 rfl (Nat.le_of_ble_eq_true rfl) rfl (fun _ g => g) dX10_tryAgain_92 ?_
      clear hP hS hv12; intro H locs r13 hP hS _
      rw [← hQ]
      exact q_ret2 hx hb hr hlocks hP hS r13 h dX10_tryAgain_95
    · rw [if_neg g15] at h
      refine q_look (off := 75) (tgt := 96) hx hb r2 dX10_tryAgain_21 rfl (by simp [Op.lookupswitch.offset_cons, Op.lookupswitch.offset_nil, Ne.symm g8, Ne.symm g15]) (by decide) ?_
      refine lv_aload_n hx hb dX10_tryAgain_96 rfl (lv_at hl 2 rfl) ?_
      refine q_getR hx hb hts hown hK hP fd_RX10_10 (Nat.le_of_ble_eq_true rfl) q_kdC_0 rfl q_rhC_0_0 dX10_tryAgain_97 ?_
      refine lv_iload_n hx hb dX10_tryAgain_100 rfl (lv_at hl 0 rfl) ?_
      refine lv_aload_n hx hb dX10_tryAgain_101 rfl (lv_at hl 1 rfl) ?_
      refine q_getR hx hb hts hown hK hP fd_RX10_315 (Nat.le_of_ble_eq_true rfl) q_kdC_28 rfl q_rhC_28_5 dX10_tryAgain_102 ?_
      refine lv_iload_n hx hb dX10_tryAgain_105 rfl (lv_at hl 3 rfl) ?_
      refine q_iald hx hb hK hP (Nat.le_of_ble_eq_true rfl) q_kdC_33 ra0 dX10_tryAgain_106 h ?_
      clear h; intro x16 r16 h
      obtain ⟨x18, μ19, hv17, h⟩ := q_b2_some h
      refine q_callV hx hb hml hts hown hK hP hS (As := [.int (q_I x1), .int (q_I x16)]) (rest := []) (st1 := [.int (q_I x18)]) cv_RX10_108 (c_Wo_tryReceive l D dA (Or.inl rfl) r1 r16 hv17) (Nat.le_of_ble_eq_true rfl) q_kdC_1 rfl ⟨rfl, rfl, Nat.le_of_ble_eq_true rfl, Nat.le_of_ble_eq_true rfl⟩ ⟨Nat.le_refl _, Nat.le_refl _⟩ rfl hl.1 rfl (Nat.le_of_ble_eq_true rfl) rfl (fun _ g => g) dX10_tryAgain_107 ?_
      clear hP hS hv17; intro H locs r18 hP hS _
      rw [← hQ]
      exact q_ret2 hx hb hr hlocks hP hS r18 h dX10_tryAgain_110
set_option maxHeartbeats 4000000 in
set_option maxRecDepth 100000 in
theorem c_CR_replay (l : Launch) (D : va_G) (dA : Nat → ClassId) {z sz : Nat} {N : Nat} {a0 : Int} (ra0 : q_R a0) {μ : q_M} {xo : Int} {μo : q_M} (h : f_CR_replay N a0 μ = some (xo, μo)) : Met l yX10_replay (q_wc yX10_replay cX10_replay 4 (some .int)) ({ frames := 5, cells := 0, slots := 0, locals := 115 } : Room) (va_Pc [.ref (z + 0), .int (q_I a0)] (q_B (q_P D dA q_kdC q_rhoC 77 z sz μ) D dA)) (q_Q (some (.int (q_I xo))) (q_R xo) (q_P D dA q_kdC q_rhoC 77 z sz μo) (q_A z 77)) 0 0 (q_A z 77) := by
  refine Met.ofW (cc := cX10_replay) (maxL := 4) (ret := (some .int)) (by decide) rfl ?_
  intro p e s m args below meth c s₁ B hml hv
  obtain ⟨hargs, hP, hK⟩ := hv
  have hx := B.exec
  have hb := B.bytes
  have hr := B.returns
  have hts : ∀ w ∈ q_W, w.before args s = true := fun w hw => atoms_spec (ws := q_wc yX10_replay cX10_replay 4 (some .int)) B.pre w (List.mem_cons_of_mem _ hw)
  have hown : s.vm.findClass RX10 = some m.cls := findClass_of_methodNamed B.named
  have hlocks := B.notSynchronized
  have hS : va_S (q_A z 77) s.heap s.heap [] := va_S.rf
  have hA : ∀ k, k < 77 → q_A z 77 (z + k) := fun k hk => ⟨Nat.le_add_right z k, Nat.add_lt_add_left hk z⟩
  have hl := lv_entry [.ref (z + 0), .int (q_I a0)] (n := 4) (Nat.le_of_ble_eq_true rfl)
  refine W.eq (by rw [hargs, lg_entry_eq]) ?_
  generalize (lg_sl [.ref (z + 0), .int (q_I a0)] ++ List.replicate (4 - (lg_sl [.ref (z + 0), .int (q_I a0)]).length) Slot.unset).toArray = ls at hl ⊢
  have hl : lv_has ls 4 [(0, .ref (z + 0)), (1, .int (q_I a0))] := hl
  generalize hQ : MQ below _ args s 0 0 _ = Qf
  change W p l e ({ frames := 5, cells := 0, slots := 0, locals := 115 } : Room) s m args below meth c s.heap [] 0 0 Qf (F0 m 0 ls [])
  unfold f_CR_replay at h
  refine lv_iconst (v := q_I 0) hx hb dX10_replay_0 rfl ?_
  refine lv_istore_n (lv' := [(2, .int (q_I 0)), (0, .ref (z + 0)), (1, .int (q_I a0))]) hx hb dX10_replay_1 rfl hl (by decide) rfl ?_
  clear hl; intro ls hl
  refine lv_iconst (v := q_I 0) hx hb dX10_replay_2 rfl ?_
  refine lv_istore_n (lv' := [(3, .int (q_I 0)), (2, .int (q_I 0)), (0, .ref (z + 0)), (1, .int (q_I a0))]) hx hb dX10_replay_3 rfl hl (by decide) rfl ?_
  clear hl; intro ls hl
  have L4 : ∀ (k58 : Int → q_M → Option (Int × q_M)), (∀ (x4 : Int) (μ5 : q_M) (H : Heap) (locs : List Loc) (ls : Array Slot), q_R x4 → q_P D dA q_kdC q_rhoC 77 z sz μ5 H → va_S (q_A z 77) s.heap H locs → lv_has ls 4 [(2, .int (q_I x4))] → k58 x4 μ5 = some (xo, μo) → W p l e ({ frames := 5, cells := 0, slots := 0, locals := 115 } : Room) s m args below meth c H locs 0 0 Qf (F0 m 58 ls [])) → ∀ (nf4 : Nat) (x1 : Int) (x2 : Int) (μ3 : q_M) (H : Heap) (locs : List Loc) (ls : Array Slot), q_R x1 → q_R x2 → q_P D dA q_kdC q_rhoC 77 z sz μ3 H → va_S (q_A z 77) s.heap H locs → lv_has ls 4 [(0, .ref (z + 0)), (1, .int (q_I a0)), (2, .int (q_I x1)), (3, .int (q_I x2))] → f_CR_replay_L4 N a0 k58 nf4 x1 x2 μ3 = some (xo, μo) → W p l e ({ frames := 5, cells := 0, slots := 0, locals := 115 } : Room) s m args below meth c H locs 0 0 Qf (F0 m 4 ls []) := by
    clear h hl hP hS
    intro k58 hk58 nf4
    induction nf4 with
    | zero =>
      intro x1 x2 μ3 H locs ls r1 r2 hP hS hl h
      rw [f_CR_replay_L4] at h
      cases h
    | succ nf4 ih4 =>
      intro x1 x2 μ3 H locs ls r1 r2 hP hS hl h
      rw [f_CR_replay_L4] at h
      refine lv_iload_n hx hb dX10_replay_4 rfl (lv_at hl 3 rfl) ?_
      refine lv_aload_n hx hb dX10_replay_5 rfl (lv_at hl 0 rfl) ?_
      refine q_getR hx hb hts hown hK hP fd_RX10_16 (Nat.le_of_ble_eq_true rfl) q_kdC_0 rfl q_rhC_0_1 dX10_replay_6 ?_
      refine q_getR hx hb hts hown hK hP fd_RX10_75 (Nat.le_of_ble_eq_true rfl) q_kdC_24 rfl q_rhC_24_4 dX10_replay_9 ?_
      refine q_getI hx hb hts hown hK hP fd_RX10_79 (Nat.le_of_ble_eq_true rfl) q_kdC_28 rfl dX10_replay_12 h ?_
      clear h; intro x6 r6 h
      refine q_cge hx hb r2 r6 (tgt := 58) dX10_replay_15 (by decide) h ?_ ?_
      · clear h; intro g24 h
        exact hk58 x1 μ3 _ _ _ r1 hP hS (lv_sub hl [2] rfl) h
      · clear h; intro g24 h
        refine lv_aload_n hx hb dX10_replay_18 rfl (lv_at hl 0 rfl) ?_
        refine q_getR hx hb hts hown hK hP fd_RX10_16 (Nat.le_of_ble_eq_true rfl) q_kdC_0 rfl q_rhC_0_1 dX10_replay_19 ?_
        refine lv_iload_n hx hb dX10_replay_22 rfl (lv_at hl 3 rfl) ?_
        obtain ⟨x8, hv7, h⟩ := q_b_some h
        refine q_callV hx hb hml hts hown hK hP hS (As := [.int (q_I x2)]) (rest := []) (st1 := [.int (q_I x8)]) cv_RX10_298 (c_Wo_inCut l D dA (Or.inr rfl) r2 hv7) (Nat.le_of_ble_eq_true rfl) q_kdC_24 rfl ⟨rfl, rfl, Nat.le_of_ble_eq_true rfl, Nat.le_of_ble_eq_true rfl⟩ ⟨Nat.le_refl _, Nat.le_refl _⟩ rfl hl.1 rfl (Nat.le_of_ble_eq_true rfl) rfl (fun _ g => g) dX10_replay_23 ?_
        clear hP hS hv7; intro H locs r8 hP hS _
        refine q_jn_in h (fun J => ∀ (x9 : Int) (μ10 : q_M) (H : Heap) (locs : List Loc) (ls : Array Slot), q_R x9 → q_P D dA q_kdC q_rhoC 77 z sz μ10 H → va_S (q_A z 77) s.heap H locs → lv_has ls 4 [(0, .ref (z + 0)), (1, .int (q_I a0)), (2, .int (q_I x9)), (3, .int (q_I x2))] → J x9 μ10 = some (xo, μo) → W p l e ({ frames := 5, cells := 0, slots := 0, locals := 115 } : Room) s m args below meth c H locs 0 0 Qf (F0 m 52 ls [])) ?_ ?_
        · clear h hl hP hS; intro x9 μ10 H locs ls r9 hP hS hl h
          refine q_iinc (k := 3) (lv' := fun t => [(3, .int (q_I t)), (0, .ref (z + 0)), (1, .int (q_I a0)), (2, .int (q_I x9))]) hx hb dX10_replay_52 hl rfl (by decide) (fun _ => rfl) h ?_
          clear h hl; intro x11 ls r11 hl h
          refine lv_goto (tgt := 4) hx hb dX10_replay_55 (by decide) ?_
          exact ih4 x9 x11 μ10 _ _ _ r9 r11 hP hS (lv_sub hl [1, 2, 3, 0] rfl) h
        · clear h; intro j52 hj52 h
          refine q_zne hx hb r8 (tgt := 52) dX10_replay_26 (by decide) h ?_ ?_
          · clear h; intro g23 h
            refine lv_iload_n hx hb dX10_replay_29 rfl (lv_at hl 1 rfl) ?_
            refine q_jn_in h (fun J => ∀ (μ12 : q_M) (H : Heap) (locs : List Loc) (ls : Array Slot), q_P D dA q_kdC q_rhoC 77 z sz μ12 H → va_S (q_A z 77) s.heap H locs → lv_has ls 4 [(0, .ref (z + 0)), (1, .int (q_I a0)), (2, .int (q_I x1)), (3, .int (q_I x2))] → J μ12 = some (xo, μo) → W p l e ({ frames := 5, cells := 0, slots := 0, locals := 115 } : Room) s m args below meth c H locs 0 0 Qf (F0 m 41 ls [])) ?_ ?_
            · clear h hl hP hS; intro μ12 H locs ls  hP hS hl h
              refine lv_aload_n hx hb dX10_replay_41 rfl (lv_at hl 0 rfl) ?_
              refine lv_iload_n hx hb dX10_replay_42 rfl (lv_at hl 3 rfl) ?_
              obtain ⟨x14, μ15, hv13, h⟩ := q_b2_some h
              refine q_callV hx hb hml hts hown hK hP hS (As := [.int (q_I x2)]) (rest := []) (st1 := [.int (q_I x14)]) cv_RX10_304 (c_CR_tryAgain l D dA r2 hv13) (Nat.le_of_ble_eq_true rfl) q_kdC_0 rfl ⟨rfl, rfl, Nat.le_of_ble_eq_true rfl, Nat.le_of_ble_eq_true rfl⟩ ⟨Nat.le_refl _, Nat.le_refl _⟩ rfl hl.1 rfl (Nat.le_of_ble_eq_true rfl) rfl (fun _ g => g) dX10_replay_43 ?_
              clear hP hS hv13; intro H locs r14 hP hS _
              refine q_zlt hx hb r14 (tgt := 52) dX10_replay_46 (by decide) h ?_ ?_
              · clear h; intro g17 h
                exact hj52 x1 μ15 _ _ _ r1 hP hS (lv_sub hl [0, 1, 2, 3] rfl) h
              · clear h; intro g17 h
                refine q_iinc (k := 2) (lv' := fun t => [(2, .int (q_I t)), (0, .ref (z + 0)), (1, .int (q_I a0)), (3, .int (q_I x2))]) hx hb dX10_replay_49 hl rfl (by decide) (fun _ => rfl) h ?_
                clear h hl; intro x16 ls r16 hl h
                exact hj52 x16 μ15 _ _ _ r16 hP hS (lv_sub hl [1, 2, 0, 3] rfl) h
            · clear h; intro j41 hj41 h
              refine q_zeq hx hb ra0 (tgt := 41) dX10_replay_30 (by decide) h ?_ ?_
              · clear h; intro g22 h
                exact hj41 μ3 _ _ _ hP hS (lv_sub hl [0, 1, 2, 3] rfl) h
              · clear h; intro g22 h
                refine lv_aload_n hx hb dX10_replay_33 rfl (lv_at hl 0 rfl) ?_
                refine lv_iload_n hx hb dX10_replay_34 rfl (lv_at hl 3 rfl) ?_
                obtain ⟨x19, μ20, hv18, h⟩ := q_b2_some h
                refine q_callV hx hb hml hts hown hK hP hS (As := [.int (q_I x2)]) (rest := []) (st1 := [.int (q_I x19)]) cv_RX10_301 (c_CR_wouldBreak l D dA r2 hv18) (Nat.le_of_ble_eq_true rfl) q_kdC_0 rfl ⟨rfl, rfl, Nat.le_of_ble_eq_true rfl, Nat.le_of_ble_eq_true rfl⟩ ⟨Nat.le_refl _, Nat.le_refl _⟩ rfl hl.1 rfl (Nat.le_of_ble_eq_true rfl) rfl (fun _ g => g) dX10_replay_35 ?_
                clear hP hS hv18; intro H locs r19 hP hS _
                refine q_zne hx hb r19 (tgt := 52) dX10_replay_38 (by decide) h ?_ ?_
                · clear h; intro g21 h
                  exact hj41 μ20 _ _ _ hP hS (lv_sub hl [0, 1, 2, 3] rfl) h
                · clear h; intro g21 h
                  exact hj52 x1 μ20 _ _ _ r1 hP hS (lv_sub hl [0, 1, 2, 3] rfl) h
          · clear h; intro g23 h
            exact hj52 x1 μ3 _ _ _ r1 hP hS (lv_sub hl [0, 1, 2, 3] rfl) h
  refine L4 _ ?_  _ 0 0 μ _ _ _ (q_r 0 rfl) (q_r 0 rfl) hP hS (lv_sub hl [2, 3, 1, 0] rfl) h
  · clear h hl hP hS; intro x4 μ5 H locs ls r4 hP hS hl h
    refine lv_iload_n hx hb dX10_replay_58 rfl (lv_at hl 0 rfl) ?_
    rw [← hQ]
    exact q_ret2 hx hb hr hlocks hP hS r4 h dX10_replay_59
set_option maxHeartbeats 4000000 in
set_option maxRecDepth 100000 in
theorem c_CR_apply (l : Launch) (D : va_G) (dA : Nat → ClassId) {z sz : Nat} {N : Nat} {a0 : Int} (ra0 : q_R a0) {μ : q_M} {xo : Int} {μo : q_M} (h : f_CR_apply N a0 μ = some (xo, μo)) : Met l yX10_apply (q_wc yX10_apply cX10_apply 5 (some .int)) ({ frames := 6, cells := 0, slots := 0, locals := 142 } : Room) (va_Pc [.ref (z + 0), .int (q_I a0)] (q_B (q_P D dA q_kdC q_rhoC 77 z sz μ) D dA)) (q_Q (some (.int (q_I xo))) (q_R xo) (q_P D dA q_kdC q_rhoC 77 z sz μo) (q_A z 77)) 0 0 (q_A z 77) := by
  refine Met.ofW (cc := cX10_apply) (maxL := 5) (ret := (some .int)) (by decide) rfl ?_
  intro p e s m args below meth c s₁ B hml hv
  obtain ⟨hargs, hP, hK⟩ := hv
  have hx := B.exec
  have hb := B.bytes
  have hr := B.returns
  have hts : ∀ w ∈ q_W, w.before args s = true := fun w hw => atoms_spec (ws := q_wc yX10_apply cX10_apply 5 (some .int)) B.pre w (List.mem_cons_of_mem _ hw)
  have hown : s.vm.findClass RX10 = some m.cls := findClass_of_methodNamed B.named
  have hlocks := B.notSynchronized
  have hS : va_S (q_A z 77) s.heap s.heap [] := va_S.rf
  have hA : ∀ k, k < 77 → q_A z 77 (z + k) := fun k hk => ⟨Nat.le_add_right z k, Nat.add_lt_add_left hk z⟩
  have hl := lv_entry [.ref (z + 0), .int (q_I a0)] (n := 5) (Nat.le_of_ble_eq_true rfl)
  refine W.eq (by rw [hargs, lg_entry_eq]) ?_
  generalize (lg_sl [.ref (z + 0), .int (q_I a0)] ++ List.replicate (5 - (lg_sl [.ref (z + 0), .int (q_I a0)]).length) Slot.unset).toArray = ls at hl ⊢
  have hl : lv_has ls 5 [(0, .ref (z + 0)), (1, .int (q_I a0))] := hl
  generalize hQ : MQ below _ args s 0 0 _ = Qf
  change W p l e ({ frames := 6, cells := 0, slots := 0, locals := 142 } : Room) s m args below meth c s.heap [] 0 0 Qf (F0 m 0 ls [])
  unfold f_CR_apply at h
  refine lv_aload_n hx hb dX10_apply_0 rfl (lv_at hl 0 rfl) ?_
  obtain ⟨x2, μ3, hv1, h⟩ := q_b2_some h
  refine q_callV hx hb hml hts hown hK hP hS (As := []) (rest := []) (st1 := [.int (q_I x2)]) cv_RX10_251 (c_CR_findRepair l D dA hv1) (Nat.le_of_ble_eq_true rfl) q_kdC_0 rfl ⟨rfl, rfl, Nat.le_of_ble_eq_true rfl, Nat.le_of_ble_eq_true rfl⟩ ⟨Nat.le_refl _, Nat.le_refl _⟩ rfl hl.1 rfl (Nat.le_of_ble_eq_true rfl) rfl (fun _ g => g) dX10_apply_1 ?_
  clear hP hS hv1; intro H locs r2 hP hS _
  refine lv_istore_n (lv' := [(2, .int (q_I x2)), (0, .ref (z + 0)), (1, .int (q_I a0))]) hx hb dX10_apply_4 rfl hl (by decide) rfl ?_
  clear hl; intro ls hl
  refine lv_iload_n hx hb dX10_apply_5 rfl (lv_at hl 0 rfl) ?_
  refine q_zeq hx hb r2 (tgt := 11) dX10_apply_6 (by decide) h ?_ ?_
  · clear h; intro g33 h
    refine lv_aload_n hx hb dX10_apply_11 rfl (lv_at hl 1 rfl) ?_
    refine q_getR hx hb hts hown hK hP fd_RX10_16 (Nat.le_of_ble_eq_true rfl) q_kdC_0 rfl q_rhC_0_1 dX10_apply_12 ?_
    refine lv_aload_n hx hb dX10_apply_15 rfl (lv_at hl 1 rfl) ?_
    refine q_getR hx hb hts hown hK hP fd_RX10_10 (Nat.le_of_ble_eq_true rfl) q_kdC_0 rfl q_rhC_0_0 dX10_apply_16 ?_
    obtain ⟨μ5, hv4, h⟩ := q_b_some h
    refine q_callV hx hb hml hts hown hK hP hS (As := [.ref (z + 1)]) (rest := []) (st1 := []) cv_RX10_269 (c_Wo_copyFrom l D dA (Or.inr rfl) (Or.inl rfl) hv4) (Nat.le_of_ble_eq_true rfl) q_kdC_24 rfl ⟨rfl, rfl, Nat.le_of_ble_eq_true rfl, Nat.le_of_ble_eq_true rfl⟩ ⟨Nat.le_refl _, Nat.le_refl _⟩ rfl hl.1 rfl (Nat.le_of_ble_eq_true rfl) rfl (fun _ g => g) dX10_apply_19 ?_
    clear hP hS hv4; intro H locs _ hP hS _
    refine lv_aload_n hx hb dX10_apply_22 rfl (lv_at hl 1 rfl) ?_
    refine lv_iconst (v := q_I 1) hx hb dX10_apply_23 rfl ?_
    refine q_putZ hx hb hts hown hK hP hS hA fd_RX10_157 (Nat.le_of_ble_eq_true rfl) q_kdC_0 rfl (q_r 1 rfl) dX10_apply_24 h ?_
    clear h hP hS; intro μ6 H locs hP hS h
    refine lv_aload_n hx hb dX10_apply_27 rfl (lv_at hl 1 rfl) ?_
    refine q_getR hx hb hts hown hK hP fd_RX10_10 (Nat.le_of_ble_eq_true rfl) q_kdC_0 rfl q_rhC_0_0 dX10_apply_28 ?_
    refine lv_aload_n hx hb dX10_apply_31 rfl (lv_at hl 1 rfl) ?_
    refine q_getR hx hb hts hown hK hP fd_RX10_16 (Nat.le_of_ble_eq_true rfl) q_kdC_0 rfl q_rhC_0_1 dX10_apply_32 ?_
    obtain ⟨μ8, hv7, h⟩ := q_b_some h
    refine q_callV hx hb hml hts hown hK hP hS (As := [.ref (z + 24)]) (rest := []) (st1 := []) cv_RX10_272 (c_Wo_beginAfterCutOf l D dA (Or.inl rfl) (Or.inr rfl) hv7) (Nat.le_of_ble_eq_true rfl) q_kdC_1 rfl ⟨rfl, rfl, Nat.le_of_ble_eq_true rfl, Nat.le_of_ble_eq_true rfl⟩ ⟨Nat.le_refl _, Nat.le_refl _⟩ rfl hl.1 rfl (Nat.le_of_ble_eq_true rfl) rfl (fun _ g => g) dX10_apply_35 ?_
    clear hP hS hv7; intro H locs _ hP hS _
    refine lv_iconst (v := q_I 0) hx hb dX10_apply_38 rfl ?_
    refine lv_istore_n (lv' := [(3, .int (q_I 0)), (2, .int (q_I x2)), (0, .ref (z + 0)), (1, .int (q_I a0))]) hx hb dX10_apply_39 rfl hl (by decide) rfl ?_
    clear hl; intro ls hl
    have L40 : ∀ (k120 : q_M → Option (Int × q_M)), (∀ (μ11 : q_M) (H : Heap) (locs : List Loc) (ls : Array Slot), q_P D dA q_kdC q_rhoC 77 z sz μ11 H → va_S (q_A z 77) s.heap H locs → lv_has ls 5 [(0, .ref (z + 0)), (1, .int (q_I a0))] → k120 μ11 = some (xo, μo) → W p l e ({ frames := 6, cells := 0, slots := 0, locals := 142 } : Room) s m args below meth c H locs 0 0 Qf (F0 m 120 ls [])) → ∀ (nf40 : Nat) (x9 : Int) (μ10 : q_M) (H : Heap) (locs : List Loc) (ls : Array Slot), q_R x9 → q_P D dA q_kdC q_rhoC 77 z sz μ10 H → va_S (q_A z 77) s.heap H locs → lv_has ls 5 [(0, .ref (z + 0)), (1, .int (q_I a0)), (3, .int (q_I x9))] → f_CR_apply_L40 N k120 nf40 x9 μ10 = some (xo, μo) → W p l e ({ frames := 6, cells := 0, slots := 0, locals := 142 } : Room) s m args below meth c H locs 0 0 Qf (F0 m 40 ls []) := by
      clear h hl hP hS
      intro k120 hk120 nf40
      induction nf40 with
      | zero =>
        intro x9 μ10 H locs ls r9 hP hS hl h
        rw [f_CR_apply_L40] at h
        cases h
      | succ nf40 ih40 =>
        intro x9 μ10 H locs ls r9 hP hS hl h
        rw [f_CR_apply_L40] at h
        refine lv_iload_n hx hb dX10_apply_40 rfl (lv_at hl 2 rfl) ?_
        refine lv_aload_n hx hb dX10_apply_41 rfl (lv_at hl 0 rfl) ?_
        refine q_getR hx hb hts hown hK hP fd_RX10_10 (Nat.le_of_ble_eq_true rfl) q_kdC_0 rfl q_rhC_0_0 dX10_apply_42 ?_
        refine q_getI hx hb hts hown hK hP fd_RX10_63 (Nat.le_of_ble_eq_true rfl) q_kdC_1 rfl dX10_apply_45 h ?_
        clear h; intro x12 r12 h
        refine q_cge hx hb r9 r12 (tgt := 120) dX10_apply_48 (by decide) h ?_ ?_
        · clear h; intro g29 h
          exact hk120 μ10 _ _ _ hP hS (lv_sub hl [0, 1] rfl) h
        · clear h; intro g29 h
          refine lv_iconst (v := q_I 0) hx hb dX10_apply_51 rfl ?_
          refine lv_istore (lv' := [(4, .int (q_I 0)), (0, .ref (z + 0)), (1, .int (q_I a0)), (3, .int (q_I x9))]) hx hb dX10_apply_52 hl (by decide) rfl ?_
          clear hl; intro ls hl
          have L54 : ∀ (k114 : q_M → Option (Int × q_M)), (∀ (μ15 : q_M) (H : Heap) (locs : List Loc) (ls : Array Slot), q_P D dA q_kdC q_rhoC 77 z sz μ15 H → va_S (q_A z 77) s.heap H locs → lv_has ls 5 [(0, .ref (z + 0)), (1, .int (q_I a0)), (3, .int (q_I x9))] → k114 μ15 = some (xo, μo) → W p l e ({ frames := 6, cells := 0, slots := 0, locals := 142 } : Room) s m args below meth c H locs 0 0 Qf (F0 m 114 ls [])) → ∀ (nf54 : Nat) (x13 : Int) (μ14 : q_M) (H : Heap) (locs : List Loc) (ls : Array Slot), q_R x13 → q_P D dA q_kdC q_rhoC 77 z sz μ14 H → va_S (q_A z 77) s.heap H locs → lv_has ls 5 [(0, .ref (z + 0)), (1, .int (q_I a0)), (3, .int (q_I x9)), (4, .int (q_I x13))] → f_CR_apply_L54 x9 k114 nf54 x13 μ14 = some (xo, μo) → W p l e ({ frames := 6, cells := 0, slots := 0, locals := 142 } : Room) s m args below meth c H locs 0 0 Qf (F0 m 54 ls []) := by
            clear h hl hP hS
            intro k114 hk114 nf54
            induction nf54 with
            | zero =>
              intro x13 μ14 H locs ls r13 hP hS hl h
              rw [f_CR_apply_L54] at h
              cases h
            | succ nf54 ih54 =>
              intro x13 μ14 H locs ls r13 hP hS hl h
              rw [f_CR_apply_L54] at h
              refine lv_iload hx hb dX10_apply_54 (lv_at hl 3 rfl) ?_
              refine lv_iconst (v := q_I 2) hx hb dX10_apply_56 rfl ?_
              refine q_cge hx hb r13 (q_r 2 rfl) (tgt := 114) dX10_apply_57 (by decide) h ?_ ?_
              · clear h; intro g27 h
                exact hk114 μ14 _ _ _ hP hS (lv_sub hl [0, 1, 2] rfl) h
              · clear h; intro g27 h
                refine lv_aload_n hx hb dX10_apply_60 rfl (lv_at hl 0 rfl) ?_
                refine q_getR hx hb hts hown hK hP fd_RX10_10 (Nat.le_of_ble_eq_true rfl) q_kdC_0 rfl q_rhC_0_0 dX10_apply_61 ?_
                refine q_getR hx hb hts hown hK hP fd_RX10_85 (Nat.le_of_ble_eq_true rfl) q_kdC_1 rfl q_rhC_1_1 dX10_apply_64 ?_
                refine lv_iload_n hx hb dX10_apply_67 rfl (lv_at hl 2 rfl) ?_
                refine lv_iload hx hb dX10_apply_68 (lv_at hl 3 rfl) ?_
                obtain ⟨x17, hv16, h⟩ := q_b_some h
                refine q_callS hx hb hml hts hown hK hP hS (As := [.int (q_I x9), .int (q_I x13)]) (rest := [.ref (z + 2)]) (st1 := [.int (q_I x17), .ref (z + 2)]) cs_RX10_89 (c_CR_slot l D dA r9 r13 hv16) ⟨rfl, rfl, Nat.le_of_ble_eq_true rfl, Nat.le_of_ble_eq_true rfl⟩ ⟨Nat.le_refl _, Nat.le_refl _⟩ rfl hl.1 rfl (Nat.le_of_ble_eq_true rfl) rfl (fun _ g => g) dX10_apply_70 ?_
                clear hP hS hv16; intro H locs r17 hP hS _
                refine lv_aload_n hx hb dX10_apply_73 rfl (lv_at hl 0 rfl) ?_
                refine q_getR hx hb hts hown hK hP fd_RX10_50 (Nat.le_of_ble_eq_true rfl) q_kdC_0 rfl q_rhC_0_7 dX10_apply_74 ?_
                refine lv_iload_n hx hb dX10_apply_77 rfl (lv_at hl 2 rfl) ?_
                refine lv_iload hx hb dX10_apply_78 (lv_at hl 3 rfl) ?_
                obtain ⟨x19, hv18, h⟩ := q_b_some h
                refine q_callV hx hb hml hts hown hK hP hS (As := [.int (q_I x9), .int (q_I x13)]) (rest := [.int (q_I x17), .ref (z + 2)]) (st1 := [.int (q_I x19), .int (q_I x17), .ref (z + 2)]) cv_RX10_266 (c_Re_stockAfter l D dA r9 r13 hv18) (Nat.le_of_ble_eq_true rfl) q_kdC_59 rfl ⟨rfl, rfl, Nat.le_of_ble_eq_true rfl, Nat.le_of_ble_eq_true rfl⟩ ⟨Nat.le_refl _, Nat.le_refl _⟩ rfl hl.1 rfl (Nat.le_of_ble_eq_true rfl) rfl (fun _ g => g) dX10_apply_80 ?_
                clear hP hS hv18; intro H locs r19 hP hS _
                refine q_iast hx hb hK hP hS hA (Nat.le_of_ble_eq_true rfl) q_kdC_2 r17 r19 dX10_apply_83 h ?_
                clear h hP hS; intro μ20 H locs hP hS h
                refine lv_aload_n hx hb dX10_apply_84 rfl (lv_at hl 0 rfl) ?_
                refine q_getR hx hb hts hown hK hP fd_RX10_10 (Nat.le_of_ble_eq_true rfl) q_kdC_0 rfl q_rhC_0_0 dX10_apply_85 ?_
                refine q_getR hx hb hts hown hK hP fd_RX10_93 (Nat.le_of_ble_eq_true rfl) q_kdC_1 rfl q_rhC_1_2 dX10_apply_88 ?_
                refine lv_iload_n hx hb dX10_apply_91 rfl (lv_at hl 2 rfl) ?_
                refine lv_iload hx hb dX10_apply_92 (lv_at hl 3 rfl) ?_
                obtain ⟨x22, hv21, h⟩ := q_b_some h
                refine q_callS hx hb hml hts hown hK hP hS (As := [.int (q_I x9), .int (q_I x13)]) (rest := [.ref (z + 3)]) (st1 := [.int (q_I x22), .ref (z + 3)]) cs_RX10_89 (c_CR_slot l D dA r9 r13 hv21) ⟨rfl, rfl, Nat.le_of_ble_eq_true rfl, Nat.le_of_ble_eq_true rfl⟩ ⟨Nat.le_refl _, Nat.le_refl _⟩ rfl hl.1 rfl (Nat.le_of_ble_eq_true rfl) rfl (fun _ g => g) dX10_apply_94 ?_
                clear hP hS hv21; intro H locs r22 hP hS _
                refine lv_aload_n hx hb dX10_apply_97 rfl (lv_at hl 0 rfl) ?_
                refine q_getR hx hb hts hown hK hP fd_RX10_50 (Nat.le_of_ble_eq_true rfl) q_kdC_0 rfl q_rhC_0_7 dX10_apply_98 ?_
                refine lv_iload_n hx hb dX10_apply_101 rfl (lv_at hl 2 rfl) ?_
                refine lv_iload hx hb dX10_apply_102 (lv_at hl 3 rfl) ?_
                obtain ⟨x24, hv23, h⟩ := q_b_some h
                refine q_callV hx hb hml hts hown hK hP hS (As := [.int (q_I x9), .int (q_I x13)]) (rest := [.int (q_I x22), .ref (z + 3)]) (st1 := [.int (q_I x24), .int (q_I x22), .ref (z + 3)]) cv_RX10_266 (c_Re_stockAfter l D dA r9 r13 hv23) (Nat.le_of_ble_eq_true rfl) q_kdC_59 rfl ⟨rfl, rfl, Nat.le_of_ble_eq_true rfl, Nat.le_of_ble_eq_true rfl⟩ ⟨Nat.le_refl _, Nat.le_refl _⟩ rfl hl.1 rfl (Nat.le_of_ble_eq_true rfl) rfl (fun _ g => g) dX10_apply_104 ?_
                clear hP hS hv23; intro H locs r24 hP hS _
                refine q_iast hx hb hK hP hS hA (Nat.le_of_ble_eq_true rfl) q_kdC_3 r22 r24 dX10_apply_107 h ?_
                clear h hP hS; intro μ25 H locs hP hS h
                refine q_iinc (k := 3) (lv' := fun t => [(4, .int (q_I t)), (0, .ref (z + 0)), (1, .int (q_I a0)), (3, .int (q_I x9))]) hx hb dX10_apply_108 hl rfl (by decide) (fun _ => rfl) h ?_
                clear h hl; intro x26 ls r26 hl h
                refine lv_goto (tgt := 54) hx hb dX10_apply_111 (by decide) ?_
                exact ih54 x26 μ25 _ _ _ r26 hP hS (lv_sub hl [1, 2, 3, 0] rfl) h
          refine L54 _ ?_  _ 0 μ10 _ _ _ (q_r 0 rfl) hP hS (lv_sub hl [1, 2, 3, 0] rfl) h
          · clear h hl hP hS; intro μ15 H locs ls  hP hS hl h
            refine q_iinc (k := 2) (lv' := fun t => [(3, .int (q_I t)), (0, .ref (z + 0)), (1, .int (q_I a0))]) hx hb dX10_apply_114 hl rfl (by decide) (fun _ => rfl) h ?_
            clear h hl; intro x28 ls r28 hl h
            refine lv_goto (tgt := 40) hx hb dX10_apply_117 (by decide) ?_
            exact ih40 x28 μ15 _ _ _ r28 hP hS (lv_sub hl [1, 2, 0] rfl) h
    refine L40 _ ?_  _ 0 μ8 _ _ _ (q_r 0 rfl) hP hS (lv_sub hl [2, 3, 0] rfl) h
    · clear h hl hP hS; intro μ11 H locs ls  hP hS hl h
      refine lv_aload_n hx hb dX10_apply_120 rfl (lv_at hl 0 rfl) ?_
      refine lv_iload_n hx hb dX10_apply_121 rfl (lv_at hl 1 rfl) ?_
      obtain ⟨x31, μ32, hv30, h⟩ := q_b2_some h
      refine q_callV hx hb hml hts hown hK hP hS (As := [.int (q_I a0)]) (rest := []) (st1 := [.int (q_I x31)]) cv_RX10_275 (c_CR_replay l D dA ra0 hv30) (Nat.le_of_ble_eq_true rfl) q_kdC_0 rfl ⟨rfl, rfl, Nat.le_of_ble_eq_true rfl, Nat.le_of_ble_eq_true rfl⟩ ⟨Nat.le_refl _, Nat.le_refl _⟩ rfl hl.1 rfl (Nat.le_of_ble_eq_true rfl) rfl (fun _ g => g) dX10_apply_122 ?_
      clear hP hS hv30; intro H locs r31 hP hS _
      rw [← hQ]
      exact q_ret2 hx hb hr hlocks hP hS r31 h dX10_apply_125
  · clear h; intro g33 h
    refine lv_iload_n hx hb dX10_apply_9 rfl (lv_at hl 0 rfl) ?_
    rw [← hQ]
    exact q_ret2 hx hb hr hlocks hP hS r2 h dX10_apply_10
set_option maxHeartbeats 4000000 in
set_option maxRecDepth 100000 in
theorem c_CR_restore (l : Launch) (D : va_G) (dA : Nat → ClassId) {z sz : Nat} {μ : q_M} {xo : Int} {μo : q_M} (h : f_CR_restore μ = some (xo, μo)) : Met l yX10_restore (q_wc yX10_restore cX10_restore 1 (some .int)) ({ frames := 4, cells := 0, slots := 0, locals := 111 } : Room) (va_Pc [.ref (z + 0)] (q_B (q_P D dA q_kdC q_rhoC 77 z sz μ) D dA)) (q_Q (some (.int (q_I xo))) (q_R xo) (q_P D dA q_kdC q_rhoC 77 z sz μo) (q_A z 77)) 0 0 (q_A z 77) := by
  refine Met.ofW (cc := cX10_restore) (maxL := 1) (ret := (some .int)) (by decide) rfl ?_
  intro p e s m args below meth c s₁ B hml hv
  obtain ⟨hargs, hP, hK⟩ := hv
  have hx := B.exec
  have hb := B.bytes
  have hr := B.returns
  have hts : ∀ w ∈ q_W, w.before args s = true := fun w hw => atoms_spec (ws := q_wc yX10_restore cX10_restore 1 (some .int)) B.pre w (List.mem_cons_of_mem _ hw)
  have hown : s.vm.findClass RX10 = some m.cls := findClass_of_methodNamed B.named
  have hlocks := B.notSynchronized
  have hS : va_S (q_A z 77) s.heap s.heap [] := va_S.rf
  have hA : ∀ k, k < 77 → q_A z 77 (z + k) := fun k hk => ⟨Nat.le_add_right z k, Nat.add_lt_add_left hk z⟩
  have hl := lv_entry [.ref (z + 0)] (n := 1) (Nat.le_of_ble_eq_true rfl)
  refine W.eq (by rw [hargs, lg_entry_eq]) ?_
  generalize (lg_sl [.ref (z + 0)] ++ List.replicate (1 - (lg_sl [.ref (z + 0)]).length) Slot.unset).toArray = ls at hl ⊢
  have hl : lv_has ls 1 [(0, .ref (z + 0))] := hl
  generalize hQ : MQ below _ args s 0 0 _ = Qf
  change W p l e ({ frames := 4, cells := 0, slots := 0, locals := 111 } : Room) s m args below meth c s.heap [] 0 0 Qf (F0 m 0 ls [])
  unfold f_CR_restore at h
  refine lv_aload_n hx hb dX10_restore_0 rfl (lv_at hl 0 rfl) ?_
  refine q_getI hx hb hts hown hK hP fd_RX10_157 (Nat.le_of_ble_eq_true rfl) q_kdC_0 rfl dX10_restore_1 h ?_
  clear h; intro x1 r1 h
  refine q_zne hx hb r1 (tgt := 10) dX10_restore_4 (by decide) h ?_ ?_
  · clear h; intro g6 h
    refine lv_ldc hx hb hown (hts _ ck_RX10_176) dX10_restore_7 ?_
    rw [← hQ]
    exact q_ret2 hx hb hr hlocks hP hS (q_r (-100006) rfl) h dX10_restore_9
  · clear h; intro g6 h
    refine lv_aload_n hx hb dX10_restore_10 rfl (lv_at hl 0 rfl) ?_
    refine q_getR hx hb hts hown hK hP fd_RX10_10 (Nat.le_of_ble_eq_true rfl) q_kdC_0 rfl q_rhC_0_0 dX10_restore_11 ?_
    refine lv_aload_n hx hb dX10_restore_14 rfl (lv_at hl 0 rfl) ?_
    refine q_getR hx hb hts hown hK hP fd_RX10_16 (Nat.le_of_ble_eq_true rfl) q_kdC_0 rfl q_rhC_0_1 dX10_restore_15 ?_
    obtain ⟨μ3, hv2, h⟩ := q_b_some h
    refine q_callV hx hb hml hts hown hK hP hS (As := [.ref (z + 24)]) (rest := []) (st1 := []) cv_RX10_269 (c_Wo_copyFrom l D dA (Or.inl rfl) (Or.inr rfl) hv2) (Nat.le_of_ble_eq_true rfl) q_kdC_1 rfl ⟨rfl, rfl, Nat.le_of_ble_eq_true rfl, Nat.le_of_ble_eq_true rfl⟩ ⟨Nat.le_refl _, Nat.le_refl _⟩ rfl hl.1 rfl (Nat.le_of_ble_eq_true rfl) rfl (fun _ g => g) dX10_restore_18 ?_
    clear hP hS hv2; intro H locs _ hP hS _
    refine lv_aload_n hx hb dX10_restore_21 rfl (lv_at hl 0 rfl) ?_
    refine lv_iconst (v := q_I 0) hx hb dX10_restore_22 rfl ?_
    refine q_putZ hx hb hts hown hK hP hS hA fd_RX10_157 (Nat.le_of_ble_eq_true rfl) q_kdC_0 rfl (q_r 0 rfl) dX10_restore_23 h ?_
    clear h hP hS; intro μ4 H locs hP hS h
    refine lv_aload_n hx hb dX10_restore_26 rfl (lv_at hl 0 rfl) ?_
    refine q_getR hx hb hts hown hK hP fd_RX10_10 (Nat.le_of_ble_eq_true rfl) q_kdC_0 rfl q_rhC_0_0 dX10_restore_27 ?_
    refine q_getR hx hb hts hown hK hP fd_RX10_75 (Nat.le_of_ble_eq_true rfl) q_kdC_1 rfl q_rhC_1_4 dX10_restore_30 ?_
    refine q_getI hx hb hts hown hK hP fd_RX10_79 (Nat.le_of_ble_eq_true rfl) q_kdC_5 rfl dX10_restore_33 h ?_
    clear h; intro x5 r5 h
    rw [← hQ]
    exact q_ret2 hx hb hr hlocks hP hS r5 h dX10_restore_36
set_option maxHeartbeats 4000000 in
set_option maxRecDepth 100000 in
theorem c_M_clearSnapshot (l : Launch) (D : va_G) (dA : Nat → ClassId) {z sz : Nat} {N : Nat} {μ : q_M} {μo : q_M} (h : f_M_clearSnapshot N μ = some μo) : Met l yX11_clearSnapshot (q_wc yX11_clearSnapshot cX11_clearSnapshot 2 none) ({ frames := 0, cells := 0, slots := 0, locals := 0 } : Room) (va_Pc [.ref (z + 0)] (q_B (q_P D dA q_kdM q_rhoM 22 z sz μ) D dA)) (q_Q none True (q_P D dA q_kdM q_rhoM 22 z sz μo) (q_A z 22)) 0 0 (q_A z 22) := by
  refine Met.ofW (cc := cX11_clearSnapshot) (maxL := 2) (ret := none) (by decide) rfl ?_
  intro p e s m args below meth c s₁ B hml hv
  obtain ⟨hargs, hP, hK⟩ := hv
  have hx := B.exec
  have hb := B.bytes
  have hr := B.returns
  have hts : ∀ w ∈ q_W, w.before args s = true := fun w hw => atoms_spec (ws := q_wc yX11_clearSnapshot cX11_clearSnapshot 2 none) B.pre w (List.mem_cons_of_mem _ hw)
  have hown : s.vm.findClass RX11 = some m.cls := findClass_of_methodNamed B.named
  have hlocks := B.notSynchronized
  have hS : va_S (q_A z 22) s.heap s.heap [] := va_S.rf
  have hA : ∀ k, k < 22 → q_A z 22 (z + k) := fun k hk => ⟨Nat.le_add_right z k, Nat.add_lt_add_left hk z⟩
  have hl := lv_entry [.ref (z + 0)] (n := 2) (Nat.le_of_ble_eq_true rfl)
  refine W.eq (by rw [hargs, lg_entry_eq]) ?_
  generalize (lg_sl [.ref (z + 0)] ++ List.replicate (2 - (lg_sl [.ref (z + 0)]).length) Slot.unset).toArray = ls at hl ⊢
  have hl : lv_has ls 2 [(0, .ref (z + 0))] := hl
  generalize hQ : MQ below _ args s 0 0 _ = Qf
  change W p l e ({ frames := 0, cells := 0, slots := 0, locals := 0 } : Room) s m args below meth c s.heap [] 0 0 Qf (F0 m 0 ls [])
  unfold f_M_clearSnapshot at h
  refine lv_aload_n hx hb dX11_clearSnapshot_0 rfl (lv_at hl 0 rfl) ?_
  refine q_getR hx hb hts hown hK hP fd_RX11_7 (Nat.le_of_ble_eq_true rfl) q_kdM_0 rfl q_rhM_0_1 dX11_clearSnapshot_1 ?_
  refine lv_bipush (v := q_I 35) hx hb dX11_clearSnapshot_4 (by decide) ?_
  refine lv_iconst (v := q_I 0) hx hb dX11_clearSnapshot_6 rfl ?_
  refine q_iast hx hb hK hP hS hA (Nat.le_of_ble_eq_true rfl) q_kdM_1 (q_r 35 rfl) (q_r 0 rfl) dX11_clearSnapshot_7 h ?_
  clear h hP hS; intro μ1 H locs hP hS h
  refine lv_iconst (v := q_I 0) hx hb dX11_clearSnapshot_8 rfl ?_
  refine lv_istore_n (lv' := [(1, .int (q_I 0)), (0, .ref (z + 0))]) hx hb dX11_clearSnapshot_9 rfl hl (by decide) rfl ?_
  clear hl; intro ls hl
  have L10 : ∀ (k31 : q_M → Option q_M), (∀ (μ4 : q_M) (H : Heap) (locs : List Loc) (ls : Array Slot), q_P D dA q_kdM q_rhoM 22 z sz μ4 H → va_S (q_A z 22) s.heap H locs → lv_has ls 2 [(0, .ref (z + 0))] → k31 μ4 = some μo → W p l e ({ frames := 0, cells := 0, slots := 0, locals := 0 } : Room) s m args below meth c H locs 0 0 Qf (F0 m 31 ls [])) → ∀ (nf10 : Nat) (x2 : Int) (μ3 : q_M) (H : Heap) (locs : List Loc) (ls : Array Slot), q_R x2 → q_P D dA q_kdM q_rhoM 22 z sz μ3 H → va_S (q_A z 22) s.heap H locs → lv_has ls 2 [(0, .ref (z + 0)), (1, .int (q_I x2))] → f_M_clearSnapshot_L10  k31 nf10 x2 μ3 = some μo → W p l e ({ frames := 0, cells := 0, slots := 0, locals := 0 } : Room) s m args below meth c H locs 0 0 Qf (F0 m 10 ls []) := by
    clear h hl hP hS
    intro k31 hk31 nf10
    induction nf10 with
    | zero =>
      intro x2 μ3 H locs ls r2 hP hS hl h
      rw [f_M_clearSnapshot_L10] at h
      cases h
    | succ nf10 ih10 =>
      intro x2 μ3 H locs ls r2 hP hS hl h
      rw [f_M_clearSnapshot_L10] at h
      refine lv_iload_n hx hb dX11_clearSnapshot_10 rfl (lv_at hl 1 rfl) ?_
      refine lv_iconst (v := q_I 5) hx hb dX11_clearSnapshot_11 rfl ?_
      refine q_cge hx hb r2 (q_r 5 rfl) (tgt := 31) dX11_clearSnapshot_12 (by decide) h ?_ ?_
      · clear h; intro g8 h
        exact hk31 μ3 _ _ _ hP hS (lv_sub hl [0] rfl) h
      · clear h; intro g8 h
        refine lv_aload_n hx hb dX11_clearSnapshot_15 rfl (lv_at hl 0 rfl) ?_
        refine q_getR hx hb hts hown hK hP fd_RX11_7 (Nat.le_of_ble_eq_true rfl) q_kdM_0 rfl q_rhM_0_1 dX11_clearSnapshot_16 ?_
        refine lv_bipush (v := q_I 30) hx hb dX11_clearSnapshot_19 (by decide) ?_
        refine lv_iload_n hx hb dX11_clearSnapshot_21 rfl (lv_at hl 1 rfl) ?_
        refine q_iadd hx hb dX11_clearSnapshot_22 h ?_
        clear h; intro x5 r5 h
        refine lv_iconst (v := q_I (-1)) hx hb dX11_clearSnapshot_23 rfl ?_
        refine q_iast hx hb hK hP hS hA (Nat.le_of_ble_eq_true rfl) q_kdM_1 r5 (q_r (-1) rfl) dX11_clearSnapshot_24 h ?_
        clear h hP hS; intro μ6 H locs hP hS h
        refine q_iinc (k := 1) (lv' := fun t => [(1, .int (q_I t)), (0, .ref (z + 0))]) hx hb dX11_clearSnapshot_25 hl rfl (by decide) (fun _ => rfl) h ?_
        clear h hl; intro x7 ls r7 hl h
        refine lv_goto (tgt := 10) hx hb dX11_clearSnapshot_28 (by decide) ?_
        exact ih10 x7 μ6 _ _ _ r7 hP hS (lv_sub hl [1, 0] rfl) h
  refine L10 _ ?_  _ 0 μ1 _ _ _ (q_r 0 rfl) hP hS (lv_sub hl [1, 0] rfl) h
  · clear h hl hP hS; intro μ4 H locs ls  hP hS hl h
    refine lv_iconst (v := q_I 0) hx hb dX11_clearSnapshot_31 rfl ?_
    refine lv_istore_n (lv' := [(1, .int (q_I 0)), (0, .ref (z + 0))]) hx hb dX11_clearSnapshot_32 rfl hl (by decide) rfl ?_
    clear hl; intro ls hl
    have L33 : ∀ (k55 : q_M → Option q_M), (∀ (μ11 : q_M) (H : Heap) (locs : List Loc) (ls : Array Slot), q_P D dA q_kdM q_rhoM 22 z sz μ11 H → va_S (q_A z 22) s.heap H locs → lv_has ls 2 [] → k55 μ11 = some μo → W p l e ({ frames := 0, cells := 0, slots := 0, locals := 0 } : Room) s m args below meth c H locs 0 0 Qf (F0 m 55 ls [])) → ∀ (nf33 : Nat) (x9 : Int) (μ10 : q_M) (H : Heap) (locs : List Loc) (ls : Array Slot), q_R x9 → q_P D dA q_kdM q_rhoM 22 z sz μ10 H → va_S (q_A z 22) s.heap H locs → lv_has ls 2 [(0, .ref (z + 0)), (1, .int (q_I x9))] → f_M_clearSnapshot_L33  k55 nf33 x9 μ10 = some μo → W p l e ({ frames := 0, cells := 0, slots := 0, locals := 0 } : Room) s m args below meth c H locs 0 0 Qf (F0 m 33 ls []) := by
      clear h hl hP hS
      intro k55 hk55 nf33
      induction nf33 with
      | zero =>
        intro x9 μ10 H locs ls r9 hP hS hl h
        rw [f_M_clearSnapshot_L33] at h
        cases h
      | succ nf33 ih33 =>
        intro x9 μ10 H locs ls r9 hP hS hl h
        rw [f_M_clearSnapshot_L33] at h
        refine lv_iload_n hx hb dX11_clearSnapshot_33 rfl (lv_at hl 1 rfl) ?_
        refine lv_bipush (v := q_I 25) hx hb dX11_clearSnapshot_34 (by decide) ?_
        refine q_cge hx hb r9 (q_r 25 rfl) (tgt := 55) dX11_clearSnapshot_36 (by decide) h ?_ ?_
        · clear h; intro g15 h
          exact hk55 μ10 _ _ _ hP hS (lv_sub hl [] rfl) h
        · clear h; intro g15 h
          refine lv_aload_n hx hb dX11_clearSnapshot_39 rfl (lv_at hl 0 rfl) ?_
          refine q_getR hx hb hts hown hK hP fd_RX11_7 (Nat.le_of_ble_eq_true rfl) q_kdM_0 rfl q_rhM_0_1 dX11_clearSnapshot_40 ?_
          refine lv_bipush (v := q_I 38) hx hb dX11_clearSnapshot_43 (by decide) ?_
          refine lv_iload_n hx hb dX11_clearSnapshot_45 rfl (lv_at hl 1 rfl) ?_
          refine q_iadd hx hb dX11_clearSnapshot_46 h ?_
          clear h; intro x12 r12 h
          refine lv_iconst (v := q_I (-1)) hx hb dX11_clearSnapshot_47 rfl ?_
          refine q_iast hx hb hK hP hS hA (Nat.le_of_ble_eq_true rfl) q_kdM_1 r12 (q_r (-1) rfl) dX11_clearSnapshot_48 h ?_
          clear h hP hS; intro μ13 H locs hP hS h
          refine q_iinc (k := 1) (lv' := fun t => [(1, .int (q_I t)), (0, .ref (z + 0))]) hx hb dX11_clearSnapshot_49 hl rfl (by decide) (fun _ => rfl) h ?_
          clear h hl; intro x14 ls r14 hl h
          refine lv_goto (tgt := 33) hx hb dX11_clearSnapshot_52 (by decide) ?_
          exact ih33 x14 μ13 _ _ _ r14 hP hS (lv_sub hl [1, 0] rfl) h
    refine L33 _ ?_  _ 0 μ4 _ _ _ (q_r 0 rfl) hP hS (lv_sub hl [1, 0] rfl) h
    · clear h hl hP hS; intro μ11 H locs ls  hP hS hl h
      rw [← hQ]
      exact q_retv hx hb hr hlocks hP hS h dX11_clearSnapshot_55
set_option maxHeartbeats 4000000 in
set_option maxRecDepth 100000 in
theorem c_M_begin (l : Launch) (D : va_G) (dA : Nat → ClassId) {z sz : Nat} {N : Nat} {a0 : Int} (ra0 : q_R a0) {μ : q_M} {μo : q_M} (h : f_M_begin N a0 μ = some μo) : Met l yX11_begin (q_wc yX11_begin cX11_begin 3 none) ({ frames := 1, cells := 0, slots := 0, locals := 21 } : Room) (va_Pc [.ref (z + 0), .int (q_I a0)] (q_B (q_P D dA q_kdM q_rhoM 22 z sz μ) D dA)) (q_Q none True (q_P D dA q_kdM q_rhoM 22 z sz μo) (q_A z 22)) 0 0 (q_A z 22) := by
  refine Met.ofW (cc := cX11_begin) (maxL := 3) (ret := none) (by decide) rfl ?_
  intro p e s m args below meth c s₁ B hml hv
  obtain ⟨hargs, hP, hK⟩ := hv
  have hx := B.exec
  have hb := B.bytes
  have hr := B.returns
  have hts : ∀ w ∈ q_W, w.before args s = true := fun w hw => atoms_spec (ws := q_wc yX11_begin cX11_begin 3 none) B.pre w (List.mem_cons_of_mem _ hw)
  have hown : s.vm.findClass RX11 = some m.cls := findClass_of_methodNamed B.named
  have hlocks := B.notSynchronized
  have hS : va_S (q_A z 22) s.heap s.heap [] := va_S.rf
  have hA : ∀ k, k < 22 → q_A z 22 (z + k) := fun k hk => ⟨Nat.le_add_right z k, Nat.add_lt_add_left hk z⟩
  have hl := lv_entry [.ref (z + 0), .int (q_I a0)] (n := 3) (Nat.le_of_ble_eq_true rfl)
  refine W.eq (by rw [hargs, lg_entry_eq]) ?_
  generalize (lg_sl [.ref (z + 0), .int (q_I a0)] ++ List.replicate (3 - (lg_sl [.ref (z + 0), .int (q_I a0)]).length) Slot.unset).toArray = ls at hl ⊢
  have hl : lv_has ls 3 [(0, .ref (z + 0)), (1, .int (q_I a0))] := hl
  generalize hQ : MQ below _ args s 0 0 _ = Qf
  change W p l e ({ frames := 1, cells := 0, slots := 0, locals := 21 } : Room) s m args below meth c s.heap [] 0 0 Qf (F0 m 0 ls [])
  unfold f_M_begin at h
  refine lv_aload_n hx hb dX11_begin_0 rfl (lv_at hl 0 rfl) ?_
  refine lv_iload_n hx hb dX11_begin_1 rfl (lv_at hl 1 rfl) ?_
  refine q_putI hx hb hts hown hK hP hS hA fd_RX11_79 (Nat.le_of_ble_eq_true rfl) q_kdM_0 rfl ra0 dX11_begin_2 h ?_
  clear h hP hS; intro μ1 H locs hP hS h
  refine lv_iconst (v := q_I 0) hx hb dX11_begin_5 rfl ?_
  refine lv_istore_n (lv' := [(2, .int (q_I 0)), (0, .ref (z + 0)), (1, .int (q_I a0))]) hx hb dX11_begin_6 rfl hl (by decide) rfl ?_
  clear hl; intro ls hl
  have L7 : ∀ (k27 : q_M → Option q_M), (∀ (μ4 : q_M) (H : Heap) (locs : List Loc) (ls : Array Slot), q_P D dA q_kdM q_rhoM 22 z sz μ4 H → va_S (q_A z 22) s.heap H locs → lv_has ls 3 [(0, .ref (z + 0))] → k27 μ4 = some μo → W p l e ({ frames := 1, cells := 0, slots := 0, locals := 21 } : Room) s m args below meth c H locs 0 0 Qf (F0 m 27 ls [])) → ∀ (nf7 : Nat) (x2 : Int) (μ3 : q_M) (H : Heap) (locs : List Loc) (ls : Array Slot), q_R x2 → q_P D dA q_kdM q_rhoM 22 z sz μ3 H → va_S (q_A z 22) s.heap H locs → lv_has ls 3 [(0, .ref (z + 0)), (2, .int (q_I x2))] → f_M_begin_L7  k27 nf7 x2 μ3 = some μo → W p l e ({ frames := 1, cells := 0, slots := 0, locals := 21 } : Room) s m args below meth c H locs 0 0 Qf (F0 m 7 ls []) := by
    clear h hl hP hS
    intro k27 hk27 nf7
    induction nf7 with
    | zero =>
      intro x2 μ3 H locs ls r2 hP hS hl h
      rw [f_M_begin_L7] at h
      cases h
    | succ nf7 ih7 =>
      intro x2 μ3 H locs ls r2 hP hS hl h
      rw [f_M_begin_L7] at h
      refine lv_iload_n hx hb dX11_begin_7 rfl (lv_at hl 1 rfl) ?_
      refine lv_sipush (v := q_I 5104) hx hb dX11_begin_8 (by decide) ?_
      refine q_cge hx hb r2 (q_r 5104 rfl) (tgt := 27) dX11_begin_11 (by decide) h ?_ ?_
      · clear h; intro g7 h
        exact hk27 μ3 _ _ _ hP hS (lv_sub hl [0] rfl) h
      · clear h; intro g7 h
        refine lv_aload_n hx hb dX11_begin_14 rfl (lv_at hl 0 rfl) ?_
        refine q_getR hx hb hts hown hK hP fd_RX11_7 (Nat.le_of_ble_eq_true rfl) q_kdM_0 rfl q_rhM_0_1 dX11_begin_15 ?_
        refine lv_iload_n hx hb dX11_begin_18 rfl (lv_at hl 1 rfl) ?_
        refine lv_iconst (v := q_I 0) hx hb dX11_begin_19 rfl ?_
        refine q_iast hx hb hK hP hS hA (Nat.le_of_ble_eq_true rfl) q_kdM_1 r2 (q_r 0 rfl) dX11_begin_20 h ?_
        clear h hP hS; intro μ5 H locs hP hS h
        refine q_iinc (k := 1) (lv' := fun t => [(2, .int (q_I t)), (0, .ref (z + 0))]) hx hb dX11_begin_21 hl rfl (by decide) (fun _ => rfl) h ?_
        clear h hl; intro x6 ls r6 hl h
        refine lv_goto (tgt := 7) hx hb dX11_begin_24 (by decide) ?_
        exact ih7 x6 μ5 _ _ _ r6 hP hS (lv_sub hl [1, 0] rfl) h
  refine L7 _ ?_  _ 0 μ1 _ _ _ (q_r 0 rfl) hP hS (lv_sub hl [1, 0] rfl) h
  · clear h hl hP hS; intro μ4 H locs ls  hP hS hl h
    refine lv_aload_n hx hb dX11_begin_27 rfl (lv_at hl 0 rfl) ?_
    obtain ⟨μ9, hv8, h⟩ := q_b_some h
    refine q_callV hx hb hml hts hown hK hP hS (As := []) (rest := []) (st1 := []) cv_RX11_83 (c_M_clearSnapshot l D dA hv8) (Nat.le_of_ble_eq_true rfl) q_kdM_0 rfl ⟨rfl, rfl, Nat.le_of_ble_eq_true rfl, Nat.le_of_ble_eq_true rfl⟩ ⟨Nat.le_refl _, Nat.le_refl _⟩ rfl hl.1 rfl (Nat.le_of_ble_eq_true rfl) rfl (fun _ g => g) dX11_begin_28 ?_
    clear hP hS hv8; intro H locs _ hP hS _
    refine lv_aload_n hx hb dX11_begin_31 rfl (lv_at hl 0 rfl) ?_
    refine lv_iconst (v := q_I 0) hx hb dX11_begin_32 rfl ?_
    refine q_putZ hx hb hts hown hK hP hS hA fd_RX11_86 (Nat.le_of_ble_eq_true rfl) q_kdM_0 rfl (q_r 0 rfl) dX11_begin_33 h ?_
    clear h hP hS; intro μ10 H locs hP hS h
    refine lv_aload_n hx hb dX11_begin_36 rfl (lv_at hl 0 rfl) ?_
    refine lv_iconst (v := q_I 0) hx hb dX11_begin_37 rfl ?_
    refine q_putI hx hb hts hown hK hP hS hA fd_RX11_90 (Nat.le_of_ble_eq_true rfl) q_kdM_0 rfl (q_r 0 rfl) dX11_begin_38 h ?_
    clear h hP hS; intro μ11 H locs hP hS h
    refine lv_aload_n hx hb dX11_begin_41 rfl (lv_at hl 0 rfl) ?_
    refine lv_bipush (v := q_I 100) hx hb dX11_begin_42 (by decide) ?_
    refine q_putI hx hb hts hown hK hP hS hA fd_RX11_93 (Nat.le_of_ble_eq_true rfl) q_kdM_0 rfl (q_r 100 rfl) dX11_begin_44 h ?_
    clear h hP hS; intro μ12 H locs hP hS h
    refine lv_aload_n hx hb dX11_begin_47 rfl (lv_at hl 0 rfl) ?_
    refine lv_bipush (v := q_I 100) hx hb dX11_begin_48 (by decide) ?_
    refine q_putI hx hb hts hown hK hP hS hA fd_RX11_96 (Nat.le_of_ble_eq_true rfl) q_kdM_0 rfl (q_r 100 rfl) dX11_begin_50 h ?_
    clear h hP hS; intro μ13 H locs hP hS h
    refine lv_iconst (v := q_I 0) hx hb dX11_begin_53 rfl ?_
    refine lv_istore_n (lv' := [(2, .int (q_I 0)), (0, .ref (z + 0))]) hx hb dX11_begin_54 rfl hl (by decide) rfl ?_
    clear hl; intro ls hl
    have L55 : ∀ (k74 : q_M → Option q_M), (∀ (μ16 : q_M) (H : Heap) (locs : List Loc) (ls : Array Slot), q_P D dA q_kdM q_rhoM 22 z sz μ16 H → va_S (q_A z 22) s.heap H locs → lv_has ls 3 [] → k74 μ16 = some μo → W p l e ({ frames := 1, cells := 0, slots := 0, locals := 21 } : Room) s m args below meth c H locs 0 0 Qf (F0 m 74 ls [])) → ∀ (nf55 : Nat) (x14 : Int) (μ15 : q_M) (H : Heap) (locs : List Loc) (ls : Array Slot), q_R x14 → q_P D dA q_kdM q_rhoM 22 z sz μ15 H → va_S (q_A z 22) s.heap H locs → lv_has ls 3 [(0, .ref (z + 0)), (2, .int (q_I x14))] → f_M_begin_L55  k74 nf55 x14 μ15 = some μo → W p l e ({ frames := 1, cells := 0, slots := 0, locals := 21 } : Room) s m args below meth c H locs 0 0 Qf (F0 m 55 ls []) := by
      clear h hl hP hS
      intro k74 hk74 nf55
      induction nf55 with
      | zero =>
        intro x14 μ15 H locs ls r14 hP hS hl h
        rw [f_M_begin_L55] at h
        cases h
      | succ nf55 ih55 =>
        intro x14 μ15 H locs ls r14 hP hS hl h
        rw [f_M_begin_L55] at h
        refine lv_iload_n hx hb dX11_begin_55 rfl (lv_at hl 1 rfl) ?_
        refine lv_bipush (v := q_I 25) hx hb dX11_begin_56 (by decide) ?_
        refine q_cge hx hb r14 (q_r 25 rfl) (tgt := 74) dX11_begin_58 (by decide) h ?_ ?_
        · clear h; intro g19 h
          exact hk74 μ15 _ _ _ hP hS (lv_sub hl [] rfl) h
        · clear h; intro g19 h
          refine lv_aload_n hx hb dX11_begin_61 rfl (lv_at hl 0 rfl) ?_
          refine q_getR hx hb hts hown hK hP fd_RX11_32 (Nat.le_of_ble_eq_true rfl) q_kdM_0 rfl q_rhM_0_11 dX11_begin_62 ?_
          refine lv_iload_n hx hb dX11_begin_65 rfl (lv_at hl 1 rfl) ?_
          refine lv_iconst (v := q_I 1) hx hb dX11_begin_66 rfl ?_
          refine q_iast hx hb hK hP hS hA (Nat.le_of_ble_eq_true rfl) q_kdM_8 r14 (q_r 1 rfl) dX11_begin_67 h ?_
          clear h hP hS; intro μ17 H locs hP hS h
          refine q_iinc (k := 1) (lv' := fun t => [(2, .int (q_I t)), (0, .ref (z + 0))]) hx hb dX11_begin_68 hl rfl (by decide) (fun _ => rfl) h ?_
          clear h hl; intro x18 ls r18 hl h
          refine lv_goto (tgt := 55) hx hb dX11_begin_71 (by decide) ?_
          exact ih55 x18 μ17 _ _ _ r18 hP hS (lv_sub hl [1, 0] rfl) h
    refine L55 _ ?_  _ 0 μ13 _ _ _ (q_r 0 rfl) hP hS (lv_sub hl [1, 0] rfl) h
    · clear h hl hP hS; intro μ16 H locs ls  hP hS hl h
      rw [← hQ]
      exact q_retv hx hb hr hlocks hP hS h dX11_begin_74
set_option maxHeartbeats 4000000 in
set_option maxRecDepth 100000 in
theorem c_M_in (l : Launch) (D : va_G) (dA : Nat → ClassId) {z sz : Nat} {a0 : Int} (ra0 : q_R a0) {a1 : Int} (ra1 : q_R a1) {a2 : Int} (ra2 : q_R a2) {μ : q_M} {xo : Int} (h : f_M_in a0 a1 a2 μ = some xo) : Met l yX11_in (q_wc yX11_in cX11_in 3 (some .boolean)) ({ frames := 0, cells := 0, slots := 0, locals := 0 } : Room) (va_Pc [.int (q_I a0), .int (q_I a1), .int (q_I a2)] (q_B (q_P D dA q_kdM q_rhoM 22 z sz μ) D dA)) (q_Q (some (.int (q_I xo))) (q_R xo) (q_P D dA q_kdM q_rhoM 22 z sz μ) (q_A z 22)) 0 0 (q_A z 22) := by
  refine Met.ofW (cc := cX11_in) (maxL := 3) (ret := (some .boolean)) (by decide) rfl ?_
  intro p e s m args below meth c s₁ B hml hv
  obtain ⟨hargs, hP, hK⟩ := hv
  have hx := B.exec
  have hb := B.bytes
  have hr := B.returns
  have hts : ∀ w ∈ q_W, w.before args s = true := fun w hw => atoms_spec (ws := q_wc yX11_in cX11_in 3 (some .boolean)) B.pre w (List.mem_cons_of_mem _ hw)
  have hown : s.vm.findClass RX11 = some m.cls := findClass_of_methodNamed B.named
  have hlocks := B.notSynchronized
  have hS : va_S (q_A z 22) s.heap s.heap [] := va_S.rf
  have hA : ∀ k, k < 22 → q_A z 22 (z + k) := fun k hk => ⟨Nat.le_add_right z k, Nat.add_lt_add_left hk z⟩
  have hl := lv_entry [.int (q_I a0), .int (q_I a1), .int (q_I a2)] (n := 3) (Nat.le_of_ble_eq_true rfl)
  refine W.eq (by rw [hargs, lg_entry_eq]) ?_
  generalize (lg_sl [.int (q_I a0), .int (q_I a1), .int (q_I a2)] ++ List.replicate (3 - (lg_sl [.int (q_I a0), .int (q_I a1), .int (q_I a2)]).length) Slot.unset).toArray = ls at hl ⊢
  have hl : lv_has ls 3 [(0, .int (q_I a0)), (1, .int (q_I a1)), (2, .int (q_I a2))] := hl
  generalize hQ : MQ below _ args s 0 0 _ = Qf
  change W p l e ({ frames := 0, cells := 0, slots := 0, locals := 0 } : Room) s m args below meth c s.heap [] 0 0 Qf (F0 m 0 ls [])
  unfold f_M_in at h
  refine lv_iload_n hx hb dX11_in_0 rfl (lv_at hl 0 rfl) ?_
  refine lv_iload_n hx hb dX11_in_1 rfl (lv_at hl 1 rfl) ?_
  refine q_jn_in h (fun J => ∀ (x1 : Int) (H : Heap) (locs : List Loc) (ls : Array Slot), q_R x1 → q_P D dA q_kdM q_rhoM 22 z sz μ H → va_S (q_A z 22) s.heap H locs → lv_has ls 3 [] → J x1 = some xo → W p l e ({ frames := 0, cells := 0, slots := 0, locals := 0 } : Room) s m args below meth c H locs 0 0 Qf (F0 m 15 ls [.int (q_I x1)])) ?_ ?_
  · clear h hl hP hS; intro x1 H locs ls r1 hP hS hl h
    rw [← hQ]
    obtain ⟨hz, h⟩ := q_rz_some h
    exact q_retz1 hx hb hr hlocks hP hS hz h dX11_in_15
  · clear h; intro j15 hj15 h
    refine q_jn_in h (fun J => ∀ (H : Heap) (locs : List Loc) (ls : Array Slot), q_P D dA q_kdM q_rhoM 22 z sz μ H → va_S (q_A z 22) s.heap H locs → lv_has ls 3 [] → J = some xo → W p l e ({ frames := 0, cells := 0, slots := 0, locals := 0 } : Room) s m args below meth c H locs 0 0 Qf (F0 m 14 ls [])) ?_ ?_
    · clear h hl hP hS; intro  H locs ls  hP hS hl h
      refine lv_iconst (v := q_I 0) hx hb dX11_in_14 rfl ?_
      exact hj15 0 _ _ _ (q_r 0 rfl) hP hS (lv_sub hl [] rfl) h
    · clear h; intro j14 hj14 h
      refine q_clt hx hb ra0 ra1 (tgt := 14) dX11_in_2 (by decide) h ?_ ?_
      · clear h; intro g3 h
        exact hj14  _ _ _ hP hS (lv_sub hl [] rfl) h
      · clear h; intro g3 h
        refine lv_iload_n hx hb dX11_in_5 rfl (lv_at hl 0 rfl) ?_
        refine lv_iload_n hx hb dX11_in_6 rfl (lv_at hl 2 rfl) ?_
        refine q_cgt hx hb ra0 ra2 (tgt := 14) dX11_in_7 (by decide) h ?_ ?_
        · clear h; intro g2 h
          exact hj14  _ _ _ hP hS (lv_sub hl [] rfl) h
        · clear h; intro g2 h
          refine lv_iconst (v := q_I 1) hx hb dX11_in_10 rfl ?_
          refine lv_goto (tgt := 15) hx hb dX11_in_11 (by decide) ?_
          exact hj15 1 _ _ _ (q_r 1 rfl) hP hS (lv_sub hl [] rfl) h
set_option maxHeartbeats 4000000 in
set_option maxRecDepth 100000 in
theorem c_M_reset (l : Launch) (D : va_G) (dA : Nat → ClassId) {z sz : Nat} {N : Nat} {a0 : Int} (ra0 : q_R a0) {μ : q_M} {xo : Int} {μo : q_M} (h : f_M_reset N a0 μ = some (xo, μo)) : Met l yX11_reset (q_wc yX11_reset cX11_reset 3 (some .int)) ({ frames := 2, cells := 0, slots := 0, locals := 43 } : Room) (va_Pc [.ref (z + 0), .int (q_I a0)] (q_B (q_P D dA q_kdM q_rhoM 22 z sz μ) D dA)) (q_Q (some (.int (q_I xo))) (q_R xo) (q_P D dA q_kdM q_rhoM 22 z sz μo) (q_A z 22)) 0 0 (q_A z 22) := by
  refine Met.ofW (cc := cX11_reset) (maxL := 3) (ret := (some .int)) (by decide) rfl ?_
  intro p e s m args below meth c s₁ B hml hv
  obtain ⟨hargs, hP, hK⟩ := hv
  have hx := B.exec
  have hb := B.bytes
  have hr := B.returns
  have hts : ∀ w ∈ q_W, w.before args s = true := fun w hw => atoms_spec (ws := q_wc yX11_reset cX11_reset 3 (some .int)) B.pre w (List.mem_cons_of_mem _ hw)
  have hown : s.vm.findClass RX11 = some m.cls := findClass_of_methodNamed B.named
  have hlocks := B.notSynchronized
  have hS : va_S (q_A z 22) s.heap s.heap [] := va_S.rf
  have hA : ∀ k, k < 22 → q_A z 22 (z + k) := fun k hk => ⟨Nat.le_add_right z k, Nat.add_lt_add_left hk z⟩
  have hl := lv_entry [.ref (z + 0), .int (q_I a0)] (n := 3) (Nat.le_of_ble_eq_true rfl)
  refine W.eq (by rw [hargs, lg_entry_eq]) ?_
  generalize (lg_sl [.ref (z + 0), .int (q_I a0)] ++ List.replicate (3 - (lg_sl [.ref (z + 0), .int (q_I a0)]).length) Slot.unset).toArray = ls at hl ⊢
  have hl : lv_has ls 3 [(0, .ref (z + 0)), (1, .int (q_I a0))] := hl
  generalize hQ : MQ below _ args s 0 0 _ = Qf
  change W p l e ({ frames := 2, cells := 0, slots := 0, locals := 43 } : Room) s m args below meth c s.heap [] 0 0 Qf (F0 m 0 ls [])
  unfold f_M_reset at h
  refine lv_iload_n hx hb dX11_reset_0 rfl (lv_at hl 1 rfl) ?_
  refine lv_iconst (v := q_I 2) hx hb dX11_reset_1 rfl ?_
  refine lv_iconst (v := q_I 5) hx hb dX11_reset_2 rfl ?_
  obtain ⟨x2, hv1, h⟩ := q_b_some h
  refine q_callS hx hb hml hts hown hK hP hS (As := [.int (q_I a0), .int (q_I 2), .int (q_I 5)]) (rest := []) (st1 := [.int (q_I x2)]) cs_RX11_99 (c_M_in l D dA ra0 (q_r 2 rfl) (q_r 5 rfl) hv1) ⟨rfl, rfl, Nat.le_of_ble_eq_true rfl, Nat.le_of_ble_eq_true rfl⟩ ⟨Nat.le_refl _, Nat.le_refl _⟩ rfl hl.1 rfl (Nat.le_of_ble_eq_true rfl) rfl (fun _ g => g) dX11_reset_3 ?_
  clear hP hS hv1; intro H locs r2 hP hS _
  refine q_zne hx hb r2 (tgt := 12) dX11_reset_6 (by decide) h ?_ ?_
  · clear h; intro g6 h
    refine lv_ldc hx hb hown (hts _ ck_RX11_103) dX11_reset_9 ?_
    rw [← hQ]
    exact q_ret2 hx hb hr hlocks hP hS (q_r (-100002) rfl) h dX11_reset_11
  · clear h; intro g6 h
    refine lv_aload_n hx hb dX11_reset_12 rfl (lv_at hl 0 rfl) ?_
    refine q_getI hx hb hts hown hK hP fd_RX11_79 (Nat.le_of_ble_eq_true rfl) q_kdM_0 rfl dX11_reset_13 h ?_
    clear h; intro x3 r3 h
    refine lv_istore_n (lv' := [(2, .int (q_I x3)), (0, .ref (z + 0)), (1, .int (q_I a0))]) hx hb dX11_reset_16 rfl hl (by decide) rfl ?_
    clear hl; intro ls hl
    refine lv_aload_n hx hb dX11_reset_17 rfl (lv_at hl 1 rfl) ?_
    refine lv_iload_n hx hb dX11_reset_18 rfl (lv_at hl 2 rfl) ?_
    obtain ⟨μ5, hv4, h⟩ := q_b_some h
    refine q_callV hx hb hml hts hown hK hP hS (As := [.int (q_I a0)]) (rest := []) (st1 := []) cv_RX11_75 (c_M_begin l D dA ra0 hv4) (Nat.le_of_ble_eq_true rfl) q_kdM_0 rfl ⟨rfl, rfl, Nat.le_of_ble_eq_true rfl, Nat.le_of_ble_eq_true rfl⟩ ⟨Nat.le_refl _, Nat.le_refl _⟩ rfl hl.1 rfl (Nat.le_of_ble_eq_true rfl) rfl (fun _ g => g) dX11_reset_19 ?_
    clear hP hS hv4; intro H locs _ hP hS _
    refine lv_iload_n hx hb dX11_reset_22 rfl (lv_at hl 0 rfl) ?_
    rw [← hQ]
    exact q_ret2 hx hb hr hlocks hP hS r3 h dX11_reset_23
set_option maxHeartbeats 4000000 in
set_option maxRecDepth 100000 in
theorem c_M_noProcess (l : Launch) (D : va_G) (dA : Nat → ClassId) {z sz : Nat} {a0 : Int} (ra0 : q_R a0) {μ : q_M} {xo : Int} (h : f_M_noProcess a0 μ = some xo) : Met l yX11_noProcess (q_wc yX11_noProcess cX11_noProcess 2 (some .boolean)) ({ frames := 1, cells := 0, slots := 0, locals := 22 } : Room) (va_Pc [.ref (z + 0), .int (q_I a0)] (q_B (q_P D dA q_kdM q_rhoM 22 z sz μ) D dA)) (q_Q (some (.int (q_I xo))) (q_R xo) (q_P D dA q_kdM q_rhoM 22 z sz μ) (q_A z 22)) 0 0 (q_A z 22) := by
  refine Met.ofW (cc := cX11_noProcess) (maxL := 2) (ret := (some .boolean)) (by decide) rfl ?_
  intro p e s m args below meth c s₁ B hml hv
  obtain ⟨hargs, hP, hK⟩ := hv
  have hx := B.exec
  have hb := B.bytes
  have hr := B.returns
  have hts : ∀ w ∈ q_W, w.before args s = true := fun w hw => atoms_spec (ws := q_wc yX11_noProcess cX11_noProcess 2 (some .boolean)) B.pre w (List.mem_cons_of_mem _ hw)
  have hown : s.vm.findClass RX11 = some m.cls := findClass_of_methodNamed B.named
  have hlocks := B.notSynchronized
  have hS : va_S (q_A z 22) s.heap s.heap [] := va_S.rf
  have hA : ∀ k, k < 22 → q_A z 22 (z + k) := fun k hk => ⟨Nat.le_add_right z k, Nat.add_lt_add_left hk z⟩
  have hl := lv_entry [.ref (z + 0), .int (q_I a0)] (n := 2) (Nat.le_of_ble_eq_true rfl)
  refine W.eq (by rw [hargs, lg_entry_eq]) ?_
  generalize (lg_sl [.ref (z + 0), .int (q_I a0)] ++ List.replicate (2 - (lg_sl [.ref (z + 0), .int (q_I a0)]).length) Slot.unset).toArray = ls at hl ⊢
  have hl : lv_has ls 2 [(0, .ref (z + 0)), (1, .int (q_I a0))] := hl
  generalize hQ : MQ below _ args s 0 0 _ = Qf
  change W p l e ({ frames := 1, cells := 0, slots := 0, locals := 22 } : Room) s m args below meth c s.heap [] 0 0 Qf (F0 m 0 ls [])
  unfold f_M_noProcess at h
  refine lv_iload_n hx hb dX11_noProcess_0 rfl (lv_at hl 1 rfl) ?_
  refine lv_iconst (v := q_I 0) hx hb dX11_noProcess_1 rfl ?_
  refine lv_aload_n hx hb dX11_noProcess_2 rfl (lv_at hl 0 rfl) ?_
  refine q_getI hx hb hts hown hK hP fd_RX11_79 (Nat.le_of_ble_eq_true rfl) q_kdM_0 rfl dX11_noProcess_3 h ?_
  clear h; intro x1 r1 h
  refine lv_iconst (v := q_I 1) hx hb dX11_noProcess_6 rfl ?_
  refine q_isub hx hb dX11_noProcess_7 h ?_
  clear h; intro x2 r2 h
  obtain ⟨x4, hv3, h⟩ := q_b_some h
  refine q_callS hx hb hml hts hown hK hP hS (As := [.int (q_I a0), .int (q_I 0), .int (q_I x2)]) (rest := []) (st1 := [.int (q_I x4)]) cs_RX11_99 (c_M_in l D dA ra0 (q_r 0 rfl) r2 hv3) ⟨rfl, rfl, Nat.le_of_ble_eq_true rfl, Nat.le_of_ble_eq_true rfl⟩ ⟨Nat.le_refl _, Nat.le_refl _⟩ rfl hl.1 rfl (Nat.le_of_ble_eq_true rfl) rfl (fun _ g => g) dX11_noProcess_8 ?_
  clear hP hS hv3; intro H locs r4 hP hS _
  refine q_jn_in h (fun J => ∀ (x5 : Int) (H : Heap) (locs : List Loc) (ls : Array Slot), q_R x5 → q_P D dA q_kdM q_rhoM 22 z sz μ H → va_S (q_A z 22) s.heap H locs → lv_has ls 2 [] → J x5 = some xo → W p l e ({ frames := 1, cells := 0, slots := 0, locals := 22 } : Room) s m args below meth c H locs 0 0 Qf (F0 m 19 ls [.int (q_I x5)])) ?_ ?_
  · clear h hl hP hS; intro x5 H locs ls r5 hP hS hl h
    rw [← hQ]
    obtain ⟨hz, h⟩ := q_rz_some h
    exact q_retz1 hx hb hr hlocks hP hS hz h dX11_noProcess_19
  · clear h; intro j19 hj19 h
    refine q_zne hx hb r4 (tgt := 18) dX11_noProcess_11 (by decide) h ?_ ?_
    · clear h; intro g6 h
      refine lv_iconst (v := q_I 1) hx hb dX11_noProcess_14 rfl ?_
      refine lv_goto (tgt := 19) hx hb dX11_noProcess_15 (by decide) ?_
      exact hj19 1 _ _ _ (q_r 1 rfl) hP hS (lv_sub hl [] rfl) h
    · clear h; intro g6 h
      refine lv_iconst (v := q_I 0) hx hb dX11_noProcess_18 rfl ?_
      exact hj19 0 _ _ _ (q_r 0 rfl) hP hS (lv_sub hl [] rfl) h
set_option maxHeartbeats 4000000 in
set_option maxRecDepth 100000 in
theorem c_M_noStock (l : Launch) (D : va_G) (dA : Nat → ClassId) {z sz : Nat} {a0 : Int} (ra0 : q_R a0) {a1 : Int} (ra1 : q_R a1) {μ : q_M} {xo : Int} (h : f_M_noStock a0 a1 μ = some xo) : Met l yX11_noStock (q_wc yX11_noStock cX11_noStock 3 (some .boolean)) ({ frames := 2, cells := 0, slots := 0, locals := 43 } : Room) (va_Pc [.ref (z + 0), .int (q_I a0), .int (q_I a1)] (q_B (q_P D dA q_kdM q_rhoM 22 z sz μ) D dA)) (q_Q (some (.int (q_I xo))) (q_R xo) (q_P D dA q_kdM q_rhoM 22 z sz μ) (q_A z 22)) 0 0 (q_A z 22) := by
  refine Met.ofW (cc := cX11_noStock) (maxL := 3) (ret := (some .boolean)) (by decide) rfl ?_
  intro p e s m args below meth c s₁ B hml hv
  obtain ⟨hargs, hP, hK⟩ := hv
  have hx := B.exec
  have hb := B.bytes
  have hr := B.returns
  have hts : ∀ w ∈ q_W, w.before args s = true := fun w hw => atoms_spec (ws := q_wc yX11_noStock cX11_noStock 3 (some .boolean)) B.pre w (List.mem_cons_of_mem _ hw)
  have hown : s.vm.findClass RX11 = some m.cls := findClass_of_methodNamed B.named
  have hlocks := B.notSynchronized
  have hS : va_S (q_A z 22) s.heap s.heap [] := va_S.rf
  have hA : ∀ k, k < 22 → q_A z 22 (z + k) := fun k hk => ⟨Nat.le_add_right z k, Nat.add_lt_add_left hk z⟩
  have hl := lv_entry [.ref (z + 0), .int (q_I a0), .int (q_I a1)] (n := 3) (Nat.le_of_ble_eq_true rfl)
  refine W.eq (by rw [hargs, lg_entry_eq]) ?_
  generalize (lg_sl [.ref (z + 0), .int (q_I a0), .int (q_I a1)] ++ List.replicate (3 - (lg_sl [.ref (z + 0), .int (q_I a0), .int (q_I a1)]).length) Slot.unset).toArray = ls at hl ⊢
  have hl : lv_has ls 3 [(0, .ref (z + 0)), (1, .int (q_I a0)), (2, .int (q_I a1))] := hl
  generalize hQ : MQ below _ args s 0 0 _ = Qf
  change W p l e ({ frames := 2, cells := 0, slots := 0, locals := 43 } : Room) s m args below meth c s.heap [] 0 0 Qf (F0 m 0 ls [])
  unfold f_M_noStock at h
  refine lv_aload_n hx hb dX11_noStock_0 rfl (lv_at hl 0 rfl) ?_
  refine lv_iload_n hx hb dX11_noStock_1 rfl (lv_at hl 1 rfl) ?_
  obtain ⟨x2, hv1, h⟩ := q_b_some h
  refine q_callV hx hb hml hts hown hK hP hS (As := [.int (q_I a0)]) (rest := []) (st1 := [.int (q_I x2)]) cv_RX11_104 (c_M_noProcess l D dA ra0 hv1) (Nat.le_of_ble_eq_true rfl) q_kdM_0 rfl ⟨rfl, rfl, Nat.le_of_ble_eq_true rfl, Nat.le_of_ble_eq_true rfl⟩ ⟨Nat.le_refl _, Nat.le_refl _⟩ rfl hl.1 rfl (Nat.le_of_ble_eq_true rfl) rfl (fun _ g => g) dX11_noStock_2 ?_
  clear hP hS hv1; intro H locs r2 hP hS _
  refine q_jn_in h (fun J => ∀ (x3 : Int) (H : Heap) (locs : List Loc) (ls : Array Slot), q_R x3 → q_P D dA q_kdM q_rhoM 22 z sz μ H → va_S (q_A z 22) s.heap H locs → lv_has ls 3 [] → J x3 = some xo → W p l e ({ frames := 2, cells := 0, slots := 0, locals := 43 } : Room) s m args below meth c H locs 0 0 Qf (F0 m 22 ls [.int (q_I x3)])) ?_ ?_
  · clear h hl hP hS; intro x3 H locs ls r3 hP hS hl h
    rw [← hQ]
    obtain ⟨hz, h⟩ := q_rz_some h
    exact q_retz1 hx hb hr hlocks hP hS hz h dX11_noStock_22
  · clear h; intro j22 hj22 h
    refine q_jn_in h (fun J => ∀ (H : Heap) (locs : List Loc) (ls : Array Slot), q_P D dA q_kdM q_rhoM 22 z sz μ H → va_S (q_A z 22) s.heap H locs → lv_has ls 3 [] → J = some xo → W p l e ({ frames := 2, cells := 0, slots := 0, locals := 43 } : Room) s m args below meth c H locs 0 0 Qf (F0 m 17 ls [])) ?_ ?_
    · clear h hl hP hS; intro  H locs ls  hP hS hl h
      refine lv_iconst (v := q_I 1) hx hb dX11_noStock_17 rfl ?_
      refine lv_goto (tgt := 22) hx hb dX11_noStock_18 (by decide) ?_
      exact hj22 1 _ _ _ (q_r 1 rfl) hP hS (lv_sub hl [] rfl) h
    · clear h; intro j17 hj17 h
      refine q_zne hx hb r2 (tgt := 17) dX11_noStock_5 (by decide) h ?_ ?_
      · clear h; intro g7 h
        refine lv_iload_n hx hb dX11_noStock_8 rfl (lv_at hl 2 rfl) ?_
        refine lv_iconst (v := q_I 0) hx hb dX11_noStock_9 rfl ?_
        refine lv_iconst (v := q_I 1) hx hb dX11_noStock_10 rfl ?_
        obtain ⟨x5, hv4, h⟩ := q_b_some h
        refine q_callS hx hb hml hts hown hK hP hS (As := [.int (q_I a1), .int (q_I 0), .int (q_I 1)]) (rest := []) (st1 := [.int (q_I x5)]) cs_RX11_99 (c_M_in l D dA ra1 (q_r 0 rfl) (q_r 1 rfl) hv4) ⟨rfl, rfl, Nat.le_of_ble_eq_true rfl, Nat.le_of_ble_eq_true rfl⟩ ⟨Nat.le_refl _, Nat.le_refl _⟩ rfl hl.1 rfl (Nat.le_of_ble_eq_true rfl) rfl (fun _ g => g) dX11_noStock_11 ?_
        clear hP hS hv4; intro H locs r5 hP hS _
        refine q_zne hx hb r5 (tgt := 21) dX11_noStock_14 (by decide) h ?_ ?_
        · clear h; intro g6 h
          exact hj17  _ _ _ hP hS (lv_sub hl [] rfl) h
        · clear h; intro g6 h
          refine lv_iconst (v := q_I 0) hx hb dX11_noStock_21 rfl ?_
          exact hj22 0 _ _ _ (q_r 0 rfl) hP hS (lv_sub hl [] rfl) h
      · clear h; intro g7 h
        exact hj17  _ _ _ hP hS (lv_sub hl [] rfl) h
set_option maxHeartbeats 4000000 in
set_option maxRecDepth 100000 in
theorem c_M_noChannel (l : Launch) (D : va_G) (dA : Nat → ClassId) {z sz : Nat} {a0 : Int} (ra0 : q_R a0) {a1 : Int} (ra1 : q_R a1) {μ : q_M} {xo : Int} (h : f_M_noChannel a0 a1 μ = some xo) : Met l yX11_noChannel (q_wc yX11_noChannel cX11_noChannel 3 (some .boolean)) ({ frames := 2, cells := 0, slots := 0, locals := 43 } : Room) (va_Pc [.ref (z + 0), .int (q_I a0), .int (q_I a1)] (q_B (q_P D dA q_kdM q_rhoM 22 z sz μ) D dA)) (q_Q (some (.int (q_I xo))) (q_R xo) (q_P D dA q_kdM q_rhoM 22 z sz μ) (q_A z 22)) 0 0 (q_A z 22) := by
  refine Met.ofW (cc := cX11_noChannel) (maxL := 3) (ret := (some .boolean)) (by decide) rfl ?_
  intro p e s m args below meth c s₁ B hml hv
  obtain ⟨hargs, hP, hK⟩ := hv
  have hx := B.exec
  have hb := B.bytes
  have hr := B.returns
  have hts : ∀ w ∈ q_W, w.before args s = true := fun w hw => atoms_spec (ws := q_wc yX11_noChannel cX11_noChannel 3 (some .boolean)) B.pre w (List.mem_cons_of_mem _ hw)
  have hown : s.vm.findClass RX11 = some m.cls := findClass_of_methodNamed B.named
  have hlocks := B.notSynchronized
  have hS : va_S (q_A z 22) s.heap s.heap [] := va_S.rf
  have hA : ∀ k, k < 22 → q_A z 22 (z + k) := fun k hk => ⟨Nat.le_add_right z k, Nat.add_lt_add_left hk z⟩
  have hl := lv_entry [.ref (z + 0), .int (q_I a0), .int (q_I a1)] (n := 3) (Nat.le_of_ble_eq_true rfl)
  refine W.eq (by rw [hargs, lg_entry_eq]) ?_
  generalize (lg_sl [.ref (z + 0), .int (q_I a0), .int (q_I a1)] ++ List.replicate (3 - (lg_sl [.ref (z + 0), .int (q_I a0), .int (q_I a1)]).length) Slot.unset).toArray = ls at hl ⊢
  have hl : lv_has ls 3 [(0, .ref (z + 0)), (1, .int (q_I a0)), (2, .int (q_I a1))] := hl
  generalize hQ : MQ below _ args s 0 0 _ = Qf
  change W p l e ({ frames := 2, cells := 0, slots := 0, locals := 43 } : Room) s m args below meth c s.heap [] 0 0 Qf (F0 m 0 ls [])
  unfold f_M_noChannel at h
  refine lv_aload_n hx hb dX11_noChannel_0 rfl (lv_at hl 0 rfl) ?_
  refine lv_iload_n hx hb dX11_noChannel_1 rfl (lv_at hl 1 rfl) ?_
  obtain ⟨x2, hv1, h⟩ := q_b_some h
  refine q_callV hx hb hml hts hown hK hP hS (As := [.int (q_I a0)]) (rest := []) (st1 := [.int (q_I x2)]) cv_RX11_104 (c_M_noProcess l D dA ra0 hv1) (Nat.le_of_ble_eq_true rfl) q_kdM_0 rfl ⟨rfl, rfl, Nat.le_of_ble_eq_true rfl, Nat.le_of_ble_eq_true rfl⟩ ⟨Nat.le_refl _, Nat.le_refl _⟩ rfl hl.1 rfl (Nat.le_of_ble_eq_true rfl) rfl (fun _ g => g) dX11_noChannel_2 ?_
  clear hP hS hv1; intro H locs r2 hP hS _
  refine q_jn_in h (fun J => ∀ (x3 : Int) (H : Heap) (locs : List Loc) (ls : Array Slot), q_R x3 → q_P D dA q_kdM q_rhoM 22 z sz μ H → va_S (q_A z 22) s.heap H locs → lv_has ls 3 [] → J x3 = some xo → W p l e ({ frames := 2, cells := 0, slots := 0, locals := 43 } : Room) s m args below meth c H locs 0 0 Qf (F0 m 26 ls [.int (q_I x3)])) ?_ ?_
  · clear h hl hP hS; intro x3 H locs ls r3 hP hS hl h
    rw [← hQ]
    obtain ⟨hz, h⟩ := q_rz_some h
    exact q_retz1 hx hb hr hlocks hP hS hz h dX11_noChannel_26
  · clear h; intro j26 hj26 h
    refine q_jn_in h (fun J => ∀ (H : Heap) (locs : List Loc) (ls : Array Slot), q_P D dA q_kdM q_rhoM 22 z sz μ H → va_S (q_A z 22) s.heap H locs → lv_has ls 3 [] → J = some xo → W p l e ({ frames := 2, cells := 0, slots := 0, locals := 43 } : Room) s m args below meth c H locs 0 0 Qf (F0 m 21 ls [])) ?_ ?_
    · clear h hl hP hS; intro  H locs ls  hP hS hl h
      refine lv_iconst (v := q_I 1) hx hb dX11_noChannel_21 rfl ?_
      refine lv_goto (tgt := 26) hx hb dX11_noChannel_22 (by decide) ?_
      exact hj26 1 _ _ _ (q_r 1 rfl) hP hS (lv_sub hl [] rfl) h
    · clear h; intro j21 hj21 h
      refine q_zne hx hb r2 (tgt := 21) dX11_noChannel_5 (by decide) h ?_ ?_
      · clear h; intro g8 h
        refine lv_aload_n hx hb dX11_noChannel_8 rfl (lv_at hl 0 rfl) ?_
        refine lv_iload_n hx hb dX11_noChannel_9 rfl (lv_at hl 2 rfl) ?_
        obtain ⟨x5, hv4, h⟩ := q_b_some h
        refine q_callV hx hb hml hts hown hK hP hS (As := [.int (q_I a1)]) (rest := []) (st1 := [.int (q_I x5)]) cv_RX11_104 (c_M_noProcess l D dA ra1 hv4) (Nat.le_of_ble_eq_true rfl) q_kdM_0 rfl ⟨rfl, rfl, Nat.le_of_ble_eq_true rfl, Nat.le_of_ble_eq_true rfl⟩ ⟨Nat.le_refl _, Nat.le_refl _⟩ rfl hl.1 rfl (Nat.le_of_ble_eq_true rfl) rfl (fun _ g => g) dX11_noChannel_10 ?_
        clear hP hS hv4; intro H locs r5 hP hS _
        refine q_zne hx hb r5 (tgt := 21) dX11_noChannel_13 (by decide) h ?_ ?_
        · clear h; intro g7 h
          refine lv_iload_n hx hb dX11_noChannel_16 rfl (lv_at hl 1 rfl) ?_
          refine lv_iload_n hx hb dX11_noChannel_17 rfl (lv_at hl 2 rfl) ?_
          refine q_cne hx hb ra0 ra1 (tgt := 25) dX11_noChannel_18 (by decide) h ?_ ?_
          · clear h; intro g6 h
            exact hj21  _ _ _ hP hS (lv_sub hl [] rfl) h
          · clear h; intro g6 h
            refine lv_iconst (v := q_I 0) hx hb dX11_noChannel_25 rfl ?_
            exact hj26 0 _ _ _ (q_r 0 rfl) hP hS (lv_sub hl [] rfl) h
        · clear h; intro g7 h
          exact hj21  _ _ _ hP hS (lv_sub hl [] rfl) h
      · clear h; intro g8 h
        exact hj21  _ _ _ hP hS (lv_sub hl [] rfl) h
set_option maxHeartbeats 4000000 in
set_option maxRecDepth 100000 in
theorem c_M_setStock (l : Launch) (D : va_G) (dA : Nat → ClassId) {z sz : Nat} {a0 : Int} (ra0 : q_R a0) {a1 : Int} (ra1 : q_R a1) {a2 : Int} (ra2 : q_R a2) {μ : q_M} {xo : Int} {μo : q_M} (h : f_M_setStock a0 a1 a2 μ = some (xo, μo)) : Met l yX11_setStock (q_wc yX11_setStock cX11_setStock 5 (some .int)) ({ frames := 3, cells := 0, slots := 0, locals := 65 } : Room) (va_Pc [.ref (z + 0), .int (q_I a0), .int (q_I a1), .int (q_I a2)] (q_B (q_P D dA q_kdM q_rhoM 22 z sz μ) D dA)) (q_Q (some (.int (q_I xo))) (q_R xo) (q_P D dA q_kdM q_rhoM 22 z sz μo) (q_A z 22)) 0 0 (q_A z 22) := by
  refine Met.ofW (cc := cX11_setStock) (maxL := 5) (ret := (some .int)) (by decide) rfl ?_
  intro p e s m args below meth c s₁ B hml hv
  obtain ⟨hargs, hP, hK⟩ := hv
  have hx := B.exec
  have hb := B.bytes
  have hr := B.returns
  have hts : ∀ w ∈ q_W, w.before args s = true := fun w hw => atoms_spec (ws := q_wc yX11_setStock cX11_setStock 5 (some .int)) B.pre w (List.mem_cons_of_mem _ hw)
  have hown : s.vm.findClass RX11 = some m.cls := findClass_of_methodNamed B.named
  have hlocks := B.notSynchronized
  have hS : va_S (q_A z 22) s.heap s.heap [] := va_S.rf
  have hA : ∀ k, k < 22 → q_A z 22 (z + k) := fun k hk => ⟨Nat.le_add_right z k, Nat.add_lt_add_left hk z⟩
  have hl := lv_entry [.ref (z + 0), .int (q_I a0), .int (q_I a1), .int (q_I a2)] (n := 5) (Nat.le_of_ble_eq_true rfl)
  refine W.eq (by rw [hargs, lg_entry_eq]) ?_
  generalize (lg_sl [.ref (z + 0), .int (q_I a0), .int (q_I a1), .int (q_I a2)] ++ List.replicate (5 - (lg_sl [.ref (z + 0), .int (q_I a0), .int (q_I a1), .int (q_I a2)]).length) Slot.unset).toArray = ls at hl ⊢
  have hl : lv_has ls 5 [(0, .ref (z + 0)), (1, .int (q_I a0)), (2, .int (q_I a1)), (3, .int (q_I a2))] := hl
  generalize hQ : MQ below _ args s 0 0 _ = Qf
  change W p l e ({ frames := 3, cells := 0, slots := 0, locals := 65 } : Room) s m args below meth c s.heap [] 0 0 Qf (F0 m 0 ls [])
  unfold f_M_setStock at h
  refine lv_aload_n hx hb dX11_setStock_0 rfl (lv_at hl 0 rfl) ?_
  refine lv_iload_n hx hb dX11_setStock_1 rfl (lv_at hl 1 rfl) ?_
  refine lv_iload_n hx hb dX11_setStock_2 rfl (lv_at hl 2 rfl) ?_
  obtain ⟨x2, hv1, h⟩ := q_b_some h
  refine q_callV hx hb hml hts hown hK hP hS (As := [.int (q_I a0), .int (q_I a1)]) (rest := []) (st1 := [.int (q_I x2)]) cv_RX11_108 (c_M_noStock l D dA ra0 ra1 hv1) (Nat.le_of_ble_eq_true rfl) q_kdM_0 rfl ⟨rfl, rfl, Nat.le_of_ble_eq_true rfl, Nat.le_of_ble_eq_true rfl⟩ ⟨Nat.le_refl _, Nat.le_refl _⟩ rfl hl.1 rfl (Nat.le_of_ble_eq_true rfl) rfl (fun _ g => g) dX11_setStock_3 ?_
  clear hP hS hv1; intro H locs r2 hP hS _
  refine q_zeq hx hb r2 (tgt := 12) dX11_setStock_6 (by decide) h ?_ ?_
  · clear h; intro g20 h
    refine lv_iload_n hx hb dX11_setStock_12 rfl (lv_at hl 3 rfl) ?_
    refine lv_iconst (v := q_I 0) hx hb dX11_setStock_13 rfl ?_
    refine lv_sipush (v := q_I 1000) hx hb dX11_setStock_14 (by decide) ?_
    obtain ⟨x4, hv3, h⟩ := q_b_some h
    refine q_callS hx hb hml hts hown hK hP hS (As := [.int (q_I a2), .int (q_I 0), .int (q_I 1000)]) (rest := []) (st1 := [.int (q_I x4)]) cs_RX11_99 (c_M_in l D dA ra2 (q_r 0 rfl) (q_r 1000 rfl) hv3) ⟨rfl, rfl, Nat.le_of_ble_eq_true rfl, Nat.le_of_ble_eq_true rfl⟩ ⟨Nat.le_refl _, Nat.le_refl _⟩ rfl hl.1 rfl (Nat.le_of_ble_eq_true rfl) rfl (fun _ g => g) dX11_setStock_17 ?_
    clear hP hS hv3; intro H locs r4 hP hS _
    refine q_zne hx hb r4 (tgt := 26) dX11_setStock_20 (by decide) h ?_ ?_
    · clear h; intro g19 h
      refine lv_ldc hx hb hown (hts _ ck_RX11_103) dX11_setStock_23 ?_
      rw [← hQ]
      exact q_ret2 hx hb hr hlocks hP hS (q_r (-100002) rfl) h dX11_setStock_25
    · clear h; intro g19 h
      refine lv_aload_n hx hb dX11_setStock_26 rfl (lv_at hl 0 rfl) ?_
      refine q_getR hx hb hts hown hK hP fd_RX11_7 (Nat.le_of_ble_eq_true rfl) q_kdM_0 rfl q_rhM_0_1 dX11_setStock_27 ?_
      refine lv_bipush (v := q_I 36) hx hb dX11_setStock_30 (by decide) ?_
      refine q_iald hx hb hK hP (Nat.le_of_ble_eq_true rfl) q_kdM_1 (q_r 36 rfl) dX11_setStock_32 h ?_
      clear h; intro x5 r5 h
      refine q_zle hx hb r5 (tgt := 39) dX11_setStock_33 (by decide) h ?_ ?_
      · clear h; intro g18 h
        refine lv_aload_n hx hb dX11_setStock_39 rfl (lv_at hl 0 rfl) ?_
        refine q_getR hx hb hts hown hK hP fd_RX11_7 (Nat.le_of_ble_eq_true rfl) q_kdM_0 rfl q_rhM_0_1 dX11_setStock_40 ?_
        refine lv_iconst (v := q_I 0) hx hb dX11_setStock_43 rfl ?_
        refine lv_iconst (v := q_I 2) hx hb dX11_setStock_44 rfl ?_
        refine lv_iload_n hx hb dX11_setStock_45 rfl (lv_at hl 1 rfl) ?_
        refine q_imul hx hb dX11_setStock_46 h ?_
        clear h; intro x6 r6 h
        refine q_iadd hx hb dX11_setStock_47 h ?_
        clear h; intro x7 r7 h
        refine lv_iload_n hx hb dX11_setStock_48 rfl (lv_at hl 2 rfl) ?_
        refine q_iadd hx hb dX11_setStock_49 h ?_
        clear h; intro x8 r8 h
        refine q_iald hx hb hK hP (Nat.le_of_ble_eq_true rfl) q_kdM_1 r8 dX11_setStock_50 h ?_
        clear h; intro x9 r9 h
        refine lv_istore (lv' := [(4, .int (q_I x9)), (0, .ref (z + 0)), (1, .int (q_I a0)), (2, .int (q_I a1)), (3, .int (q_I a2))]) hx hb dX11_setStock_51 hl (by decide) rfl ?_
        clear hl; intro ls hl
        refine lv_aload_n hx hb dX11_setStock_53 rfl (lv_at hl 1 rfl) ?_
        refine q_getR hx hb hts hown hK hP fd_RX11_7 (Nat.le_of_ble_eq_true rfl) q_kdM_0 rfl q_rhM_0_1 dX11_setStock_54 ?_
        refine lv_iconst (v := q_I 0) hx hb dX11_setStock_57 rfl ?_
        refine lv_iconst (v := q_I 2) hx hb dX11_setStock_58 rfl ?_
        refine lv_iload_n hx hb dX11_setStock_59 rfl (lv_at hl 2 rfl) ?_
        refine q_imul hx hb dX11_setStock_60 h ?_
        clear h; intro x10 r10 h
        refine q_iadd hx hb dX11_setStock_61 h ?_
        clear h; intro x11 r11 h
        refine lv_iload_n hx hb dX11_setStock_62 rfl (lv_at hl 3 rfl) ?_
        refine q_iadd hx hb dX11_setStock_63 h ?_
        clear h; intro x12 r12 h
        refine lv_iload_n hx hb dX11_setStock_64 rfl (lv_at hl 4 rfl) ?_
        refine q_iast hx hb hK hP hS hA (Nat.le_of_ble_eq_true rfl) q_kdM_1 r12 ra2 dX11_setStock_65 h ?_
        clear h hP hS; intro μ13 H locs hP hS h
        refine lv_aload_n hx hb dX11_setStock_66 rfl (lv_at hl 1 rfl) ?_
        refine q_getR hx hb hts hown hK hP fd_RX11_7 (Nat.le_of_ble_eq_true rfl) q_kdM_0 rfl q_rhM_0_1 dX11_setStock_67 ?_
        refine lv_bipush (v := q_I 10) hx hb dX11_setStock_70 (by decide) ?_
        refine lv_iconst (v := q_I 2) hx hb dX11_setStock_72 rfl ?_
        refine lv_iload_n hx hb dX11_setStock_73 rfl (lv_at hl 2 rfl) ?_
        refine q_imul hx hb dX11_setStock_74 h ?_
        clear h; intro x14 r14 h
        refine q_iadd hx hb dX11_setStock_75 h ?_
        clear h; intro x15 r15 h
        refine lv_iload_n hx hb dX11_setStock_76 rfl (lv_at hl 3 rfl) ?_
        refine q_iadd hx hb dX11_setStock_77 h ?_
        clear h; intro x16 r16 h
        refine lv_iload_n hx hb dX11_setStock_78 rfl (lv_at hl 4 rfl) ?_
        refine q_iast hx hb hK hP hS hA (Nat.le_of_ble_eq_true rfl) q_kdM_1 r16 ra2 dX11_setStock_79 h ?_
        clear h hP hS; intro μ17 H locs hP hS h
        refine lv_iload hx hb dX11_setStock_80 (lv_at hl 0 rfl) ?_
        rw [← hQ]
        exact q_ret2 hx hb hr hlocks hP hS r9 h dX11_setStock_82
      · clear h; intro g18 h
        refine lv_ldc hx hb hown (hts _ ck_RX11_113) dX11_setStock_36 ?_
        rw [← hQ]
        exact q_ret2 hx hb hr hlocks hP hS (q_r (-100003) rfl) h dX11_setStock_38
  · clear h; intro g20 h
    refine lv_ldc hx hb hown (hts _ ck_RX11_112) dX11_setStock_9 ?_
    rw [← hQ]
    exact q_ret2 hx hb hr hlocks hP hS (q_r (-100001) rfl) h dX11_setStock_11
set_option maxHeartbeats 4000000 in
set_option maxRecDepth 100000 in
theorem c_M_ofEvent (l : Launch) (D : va_G) (dA : Nat → ClassId) {z sz : Nat} {a0 : Int} (ra0 : q_R a0) {a1 : Int} (ra1 : q_R a1) {μ : q_M} {xo : Int} (h : f_M_ofEvent a0 a1 μ = some xo) : Met l yX11_ofEvent (q_wc yX11_ofEvent cX11_ofEvent 3 (some .int)) ({ frames := 0, cells := 0, slots := 0, locals := 0 } : Room) (va_Pc [.ref (z + 0), .int (q_I a0), .int (q_I a1)] (q_B (q_P D dA q_kdM q_rhoM 22 z sz μ) D dA)) (q_Q (some (.int (q_I xo))) (q_R xo) (q_P D dA q_kdM q_rhoM 22 z sz μ) (q_A z 22)) 0 0 (q_A z 22) := by
  refine Met.ofW (cc := cX11_ofEvent) (maxL := 3) (ret := (some .int)) (by decide) rfl ?_
  intro p e s m args below meth c s₁ B hml hv
  obtain ⟨hargs, hP, hK⟩ := hv
  have hx := B.exec
  have hb := B.bytes
  have hr := B.returns
  have hts : ∀ w ∈ q_W, w.before args s = true := fun w hw => atoms_spec (ws := q_wc yX11_ofEvent cX11_ofEvent 3 (some .int)) B.pre w (List.mem_cons_of_mem _ hw)
  have hown : s.vm.findClass RX11 = some m.cls := findClass_of_methodNamed B.named
  have hlocks := B.notSynchronized
  have hS : va_S (q_A z 22) s.heap s.heap [] := va_S.rf
  have hA : ∀ k, k < 22 → q_A z 22 (z + k) := fun k hk => ⟨Nat.le_add_right z k, Nat.add_lt_add_left hk z⟩
  have hl := lv_entry [.ref (z + 0), .int (q_I a0), .int (q_I a1)] (n := 3) (Nat.le_of_ble_eq_true rfl)
  refine W.eq (by rw [hargs, lg_entry_eq]) ?_
  generalize (lg_sl [.ref (z + 0), .int (q_I a0), .int (q_I a1)] ++ List.replicate (3 - (lg_sl [.ref (z + 0), .int (q_I a0), .int (q_I a1)]).length) Slot.unset).toArray = ls at hl ⊢
  have hl : lv_has ls 3 [(0, .ref (z + 0)), (1, .int (q_I a0)), (2, .int (q_I a1))] := hl
  generalize hQ : MQ below _ args s 0 0 _ = Qf
  change W p l e ({ frames := 0, cells := 0, slots := 0, locals := 0 } : Room) s m args below meth c s.heap [] 0 0 Qf (F0 m 0 ls [])
  unfold f_M_ofEvent at h
  refine lv_aload_n hx hb dX11_ofEvent_0 rfl (lv_at hl 0 rfl) ?_
  refine q_getR hx hb hts hown hK hP fd_RX11_7 (Nat.le_of_ble_eq_true rfl) q_kdM_0 rfl q_rhM_0_1 dX11_ofEvent_1 ?_
  refine lv_bipush (v := q_I 64) hx hb dX11_ofEvent_4 (by decide) ?_
  refine lv_bipush (v := q_I 12) hx hb dX11_ofEvent_6 (by decide) ?_
  refine lv_iload_n hx hb dX11_ofEvent_8 rfl (lv_at hl 1 rfl) ?_
  refine q_imul hx hb dX11_ofEvent_9 h ?_
  clear h; intro x1 r1 h
  refine q_iadd hx hb dX11_ofEvent_10 h ?_
  clear h; intro x2 r2 h
  refine lv_iload_n hx hb dX11_ofEvent_11 rfl (lv_at hl 2 rfl) ?_
  refine q_iadd hx hb dX11_ofEvent_12 h ?_
  clear h; intro x3 r3 h
  refine q_iald hx hb hK hP (Nat.le_of_ble_eq_true rfl) q_kdM_1 r3 dX11_ofEvent_13 h ?_
  clear h; intro x4 r4 h
  rw [← hQ]
  exact q_ret1 hx hb hr hlocks hP hS r4 h dX11_ofEvent_14
set_option maxHeartbeats 4000000 in
set_option maxRecDepth 100000 in
theorem c_M_ofMessage (l : Launch) (D : va_G) (dA : Nat → ClassId) {z sz : Nat} {a0 : Int} (ra0 : q_R a0) {a1 : Int} (ra1 : q_R a1) {μ : q_M} {xo : Int} (h : f_M_ofMessage a0 a1 μ = some xo) : Met l yX11_ofMessage (q_wc yX11_ofMessage cX11_ofMessage 3 (some .int)) ({ frames := 0, cells := 0, slots := 0, locals := 0 } : Room) (va_Pc [.ref (z + 0), .int (q_I a0), .int (q_I a1)] (q_B (q_P D dA q_kdM q_rhoM 22 z sz μ) D dA)) (q_Q (some (.int (q_I xo))) (q_R xo) (q_P D dA q_kdM q_rhoM 22 z sz μ) (q_A z 22)) 0 0 (q_A z 22) := by
  refine Met.ofW (cc := cX11_ofMessage) (maxL := 3) (ret := (some .int)) (by decide) rfl ?_
  intro p e s m args below meth c s₁ B hml hv
  obtain ⟨hargs, hP, hK⟩ := hv
  have hx := B.exec
  have hb := B.bytes
  have hr := B.returns
  have hts : ∀ w ∈ q_W, w.before args s = true := fun w hw => atoms_spec (ws := q_wc yX11_ofMessage cX11_ofMessage 3 (some .int)) B.pre w (List.mem_cons_of_mem _ hw)
  have hown : s.vm.findClass RX11 = some m.cls := findClass_of_methodNamed B.named
  have hlocks := B.notSynchronized
  have hS : va_S (q_A z 22) s.heap s.heap [] := va_S.rf
  have hA : ∀ k, k < 22 → q_A z 22 (z + k) := fun k hk => ⟨Nat.le_add_right z k, Nat.add_lt_add_left hk z⟩
  have hl := lv_entry [.ref (z + 0), .int (q_I a0), .int (q_I a1)] (n := 3) (Nat.le_of_ble_eq_true rfl)
  refine W.eq (by rw [hargs, lg_entry_eq]) ?_
  generalize (lg_sl [.ref (z + 0), .int (q_I a0), .int (q_I a1)] ++ List.replicate (3 - (lg_sl [.ref (z + 0), .int (q_I a0), .int (q_I a1)]).length) Slot.unset).toArray = ls at hl ⊢
  have hl : lv_has ls 3 [(0, .ref (z + 0)), (1, .int (q_I a0)), (2, .int (q_I a1))] := hl
  generalize hQ : MQ below _ args s 0 0 _ = Qf
  change W p l e ({ frames := 0, cells := 0, slots := 0, locals := 0 } : Room) s m args below meth c s.heap [] 0 0 Qf (F0 m 0 ls [])
  unfold f_M_ofMessage at h
  refine lv_aload_n hx hb dX11_ofMessage_0 rfl (lv_at hl 0 rfl) ?_
  refine q_getR hx hb hts hown hK hP fd_RX11_7 (Nat.le_of_ble_eq_true rfl) q_kdM_0 rfl q_rhM_0_1 dX11_ofMessage_1 ?_
  refine lv_sipush (v := q_I 1264) hx hb dX11_ofMessage_4 (by decide) ?_
  refine lv_bipush (v := q_I 6) hx hb dX11_ofMessage_7 (by decide) ?_
  refine lv_iload_n hx hb dX11_ofMessage_9 rfl (lv_at hl 1 rfl) ?_
  refine q_imul hx hb dX11_ofMessage_10 h ?_
  clear h; intro x1 r1 h
  refine q_iadd hx hb dX11_ofMessage_11 h ?_
  clear h; intro x2 r2 h
  refine lv_iload_n hx hb dX11_ofMessage_12 rfl (lv_at hl 2 rfl) ?_
  refine q_iadd hx hb dX11_ofMessage_13 h ?_
  clear h; intro x3 r3 h
  refine q_iald hx hb hK hP (Nat.le_of_ble_eq_true rfl) q_kdM_1 r3 dX11_ofMessage_14 h ?_
  clear h; intro x4 r4 h
  rw [← hQ]
  exact q_ret1 hx hb hr hlocks hP hS r4 h dX11_ofMessage_15
set_option maxHeartbeats 4000000 in
set_option maxRecDepth 100000 in
theorem c_M_waitingFrom (l : Launch) (D : va_G) (dA : Nat → ClassId) {z sz : Nat} {N : Nat} {a0 : Int} (ra0 : q_R a0) {a1 : Int} (ra1 : q_R a1) {a2 : Int} (ra2 : q_R a2) {μ : q_M} {xo : Int} (h : f_M_waitingFrom N a0 a1 a2 μ = some xo) : Met l yX11_waitingFrom (q_wc yX11_waitingFrom cX11_waitingFrom 5 (some .int)) ({ frames := 1, cells := 0, slots := 0, locals := 22 } : Room) (va_Pc [.ref (z + 0), .int (q_I a0), .int (q_I a1), .int (q_I a2)] (q_B (q_P D dA q_kdM q_rhoM 22 z sz μ) D dA)) (q_Q (some (.int (q_I xo))) (q_R xo) (q_P D dA q_kdM q_rhoM 22 z sz μ) (q_A z 22)) 0 0 (q_A z 22) := by
  refine Met.ofW (cc := cX11_waitingFrom) (maxL := 5) (ret := (some .int)) (by decide) rfl ?_
  intro p e s m args below meth c s₁ B hml hv
  obtain ⟨hargs, hP, hK⟩ := hv
  have hx := B.exec
  have hb := B.bytes
  have hr := B.returns
  have hts : ∀ w ∈ q_W, w.before args s = true := fun w hw => atoms_spec (ws := q_wc yX11_waitingFrom cX11_waitingFrom 5 (some .int)) B.pre w (List.mem_cons_of_mem _ hw)
  have hown : s.vm.findClass RX11 = some m.cls := findClass_of_methodNamed B.named
  have hlocks := B.notSynchronized
  have hS : va_S (q_A z 22) s.heap s.heap [] := va_S.rf
  have hA : ∀ k, k < 22 → q_A z 22 (z + k) := fun k hk => ⟨Nat.le_add_right z k, Nat.add_lt_add_left hk z⟩
  have hl := lv_entry [.ref (z + 0), .int (q_I a0), .int (q_I a1), .int (q_I a2)] (n := 5) (Nat.le_of_ble_eq_true rfl)
  refine W.eq (by rw [hargs, lg_entry_eq]) ?_
  generalize (lg_sl [.ref (z + 0), .int (q_I a0), .int (q_I a1), .int (q_I a2)] ++ List.replicate (5 - (lg_sl [.ref (z + 0), .int (q_I a0), .int (q_I a1), .int (q_I a2)]).length) Slot.unset).toArray = ls at hl ⊢
  have hl : lv_has ls 5 [(0, .ref (z + 0)), (1, .int (q_I a0)), (2, .int (q_I a1)), (3, .int (q_I a2))] := hl
  generalize hQ : MQ below _ args s 0 0 _ = Qf
  change W p l e ({ frames := 1, cells := 0, slots := 0, locals := 22 } : Room) s m args below meth c s.heap [] 0 0 Qf (F0 m 0 ls [])
  unfold f_M_waitingFrom at h
  refine lv_iload_n hx hb dX11_waitingFrom_0 rfl (lv_at hl 3 rfl) ?_
  refine lv_istore (lv' := [(4, .int (q_I a2)), (0, .ref (z + 0)), (1, .int (q_I a0)), (2, .int (q_I a1)), (3, .int (q_I a2))]) hx hb dX11_waitingFrom_1 hl (by decide) rfl ?_
  clear hl; intro ls hl
  have L3 : ∀ (k53 : Int → Option Int), (∀ (x2 : Int) (H : Heap) (locs : List Loc) (ls : Array Slot), q_R x2 → q_P D dA q_kdM q_rhoM 22 z sz μ H → va_S (q_A z 22) s.heap H locs → lv_has ls 5 [(4, .int (q_I x2))] → k53 x2 = some xo → W p l e ({ frames := 1, cells := 0, slots := 0, locals := 22 } : Room) s m args below meth c H locs 0 0 Qf (F0 m 53 ls [])) → ∀ (nf3 : Nat) (x1 : Int) (H : Heap) (locs : List Loc) (ls : Array Slot), q_R x1 → q_P D dA q_kdM q_rhoM 22 z sz μ H → va_S (q_A z 22) s.heap H locs → lv_has ls 5 [(0, .ref (z + 0)), (1, .int (q_I a0)), (2, .int (q_I a1)), (4, .int (q_I x1))] → f_M_waitingFrom_L3 a0 a1 μ k53 nf3 x1 = some xo → W p l e ({ frames := 1, cells := 0, slots := 0, locals := 22 } : Room) s m args below meth c H locs 0 0 Qf (F0 m 3 ls []) := by
    clear h hl hP hS
    intro k53 hk53 nf3
    induction nf3 with
    | zero =>
      intro x1 H locs ls r1 hP hS hl h
      rw [f_M_waitingFrom_L3] at h
      cases h
    | succ nf3 ih3 =>
      intro x1 H locs ls r1 hP hS hl h
      rw [f_M_waitingFrom_L3] at h
      refine lv_iload hx hb dX11_waitingFrom_3 (lv_at hl 3 rfl) ?_
      refine lv_aload_n hx hb dX11_waitingFrom_5 rfl (lv_at hl 0 rfl) ?_
      refine q_getR hx hb hts hown hK hP fd_RX11_7 (Nat.le_of_ble_eq_true rfl) q_kdM_0 rfl q_rhM_0_1 dX11_waitingFrom_6 ?_
      refine lv_bipush (v := q_I 37) hx hb dX11_waitingFrom_9 (by decide) ?_
      refine q_iald hx hb hK hP (Nat.le_of_ble_eq_true rfl) q_kdM_1 (q_r 37 rfl) dX11_waitingFrom_11 h ?_
      clear h; intro x3 r3 h
      refine q_cge hx hb r1 r3 (tgt := 53) dX11_waitingFrom_12 (by decide) h ?_ ?_
      · clear h; intro g14 h
        exact hk53 x1 _ _ _ r1 hP hS (lv_sub hl [3] rfl) h
      · clear h; intro g14 h
        refine lv_aload_n hx hb dX11_waitingFrom_15 rfl (lv_at hl 0 rfl) ?_
        refine lv_iload hx hb dX11_waitingFrom_16 (lv_at hl 3 rfl) ?_
        refine lv_iconst (v := q_I 0) hx hb dX11_waitingFrom_18 rfl ?_
        obtain ⟨x5, hv4, h⟩ := q_b_some h
        refine q_callV hx hb hml hts hown hK hP hS (As := [.int (q_I x1), .int (q_I 0)]) (rest := []) (st1 := [.int (q_I x5)]) cv_RX11_114 (c_M_ofMessage l D dA r1 (q_r 0 rfl) hv4) (Nat.le_of_ble_eq_true rfl) q_kdM_0 rfl ⟨rfl, rfl, Nat.le_of_ble_eq_true rfl, Nat.le_of_ble_eq_true rfl⟩ ⟨Nat.le_refl _, Nat.le_refl _⟩ rfl hl.1 rfl (Nat.le_of_ble_eq_true rfl) rfl (fun _ g => g) dX11_waitingFrom_19 ?_
        clear hP hS hv4; intro H locs r5 hP hS _
        refine lv_iload_n hx hb dX11_waitingFrom_22 rfl (lv_at hl 1 rfl) ?_
        refine q_jn_in h (fun J => ∀ (H : Heap) (locs : List Loc) (ls : Array Slot), q_P D dA q_kdM q_rhoM 22 z sz μ H → va_S (q_A z 22) s.heap H locs → lv_has ls 5 [(0, .ref (z + 0)), (1, .int (q_I a0)), (2, .int (q_I a1)), (4, .int (q_I x1))] → J = some xo → W p l e ({ frames := 1, cells := 0, slots := 0, locals := 22 } : Room) s m args below meth c H locs 0 0 Qf (F0 m 47 ls [])) ?_ ?_
        · clear h hl hP hS; intro  H locs ls  hP hS hl h
          refine q_iinc (k := 3) (lv' := fun t => [(4, .int (q_I t)), (0, .ref (z + 0)), (1, .int (q_I a0)), (2, .int (q_I a1))]) hx hb dX11_waitingFrom_47 hl rfl (by decide) (fun _ => rfl) h ?_
          clear h hl; intro x6 ls r6 hl h
          refine lv_goto (tgt := 3) hx hb dX11_waitingFrom_50 (by decide) ?_
          exact ih3 x6 _ _ _ r6 hP hS (lv_sub hl [1, 2, 3, 0] rfl) h
        · clear h; intro j47 hj47 h
          refine q_cne hx hb r5 ra0 (tgt := 47) dX11_waitingFrom_23 (by decide) h ?_ ?_
          · clear h; intro g13 h
            refine lv_aload_n hx hb dX11_waitingFrom_26 rfl (lv_at hl 0 rfl) ?_
            refine lv_iload hx hb dX11_waitingFrom_27 (lv_at hl 3 rfl) ?_
            refine lv_iconst (v := q_I 1) hx hb dX11_waitingFrom_29 rfl ?_
            obtain ⟨x8, hv7, h⟩ := q_b_some h
            refine q_callV hx hb hml hts hown hK hP hS (As := [.int (q_I x1), .int (q_I 1)]) (rest := []) (st1 := [.int (q_I x8)]) cv_RX11_114 (c_M_ofMessage l D dA r1 (q_r 1 rfl) hv7) (Nat.le_of_ble_eq_true rfl) q_kdM_0 rfl ⟨rfl, rfl, Nat.le_of_ble_eq_true rfl, Nat.le_of_ble_eq_true rfl⟩ ⟨Nat.le_refl _, Nat.le_refl _⟩ rfl hl.1 rfl (Nat.le_of_ble_eq_true rfl) rfl (fun _ g => g) dX11_waitingFrom_30 ?_
            clear hP hS hv7; intro H locs r8 hP hS _
            refine lv_iload_n hx hb dX11_waitingFrom_33 rfl (lv_at hl 2 rfl) ?_
            refine q_cne hx hb r8 ra1 (tgt := 47) dX11_waitingFrom_34 (by decide) h ?_ ?_
            · clear h; intro g12 h
              refine lv_aload_n hx hb dX11_waitingFrom_37 rfl (lv_at hl 0 rfl) ?_
              refine lv_iload hx hb dX11_waitingFrom_38 (lv_at hl 3 rfl) ?_
              refine lv_iconst (v := q_I 5) hx hb dX11_waitingFrom_40 rfl ?_
              obtain ⟨x10, hv9, h⟩ := q_b_some h
              refine q_callV hx hb hml hts hown hK hP hS (As := [.int (q_I x1), .int (q_I 5)]) (rest := []) (st1 := [.int (q_I x10)]) cv_RX11_114 (c_M_ofMessage l D dA r1 (q_r 5 rfl) hv9) (Nat.le_of_ble_eq_true rfl) q_kdM_0 rfl ⟨rfl, rfl, Nat.le_of_ble_eq_true rfl, Nat.le_of_ble_eq_true rfl⟩ ⟨Nat.le_refl _, Nat.le_refl _⟩ rfl hl.1 rfl (Nat.le_of_ble_eq_true rfl) rfl (fun _ g => g) dX11_waitingFrom_41 ?_
              clear hP hS hv9; intro H locs r10 hP hS _
              refine q_zlt hx hb r10 (tgt := 53) dX11_waitingFrom_44 (by decide) h ?_ ?_
              · clear h; intro g11 h
                exact hk53 x1 _ _ _ r1 hP hS (lv_sub hl [3] rfl) h
              · clear h; intro g11 h
                exact hj47  _ _ _ hP hS (lv_sub hl [0, 1, 2, 3] rfl) h
            · clear h; intro g12 h
              exact hj47  _ _ _ hP hS (lv_sub hl [0, 1, 2, 3] rfl) h
          · clear h; intro g13 h
            exact hj47  _ _ _ hP hS (lv_sub hl [0, 1, 2, 3] rfl) h
  refine L3 _ ?_  _ a2 _ _ _ ra2 hP hS (lv_sub hl [1, 2, 3, 0] rfl) h
  · clear h hl hP hS; intro x2 H locs ls r2 hP hS hl h
    refine lv_iload hx hb dX11_waitingFrom_53 (lv_at hl 0 rfl) ?_
    rw [← hQ]
    exact q_ret1 hx hb hr hlocks hP hS r2 h dX11_waitingFrom_55
set_option maxHeartbeats 4000000 in
set_option maxRecDepth 100000 in
theorem c_M_waiting (l : Launch) (D : va_G) (dA : Nat → ClassId) {z sz : Nat} {N : Nat} {a0 : Int} (ra0 : q_R a0) {a1 : Int} (ra1 : q_R a1) {μ : q_M} {xo : Int} (h : f_M_waiting N a0 a1 μ = some xo) : Met l yX11_waiting (q_wc yX11_waiting cX11_waiting 5 (some .int)) ({ frames := 2, cells := 0, slots := 0, locals := 46 } : Room) (va_Pc [.ref (z + 0), .int (q_I a0), .int (q_I a1)] (q_B (q_P D dA q_kdM q_rhoM 22 z sz μ) D dA)) (q_Q (some (.int (q_I xo))) (q_R xo) (q_P D dA q_kdM q_rhoM 22 z sz μ) (q_A z 22)) 0 0 (q_A z 22) := by
  refine Met.ofW (cc := cX11_waiting) (maxL := 5) (ret := (some .int)) (by decide) rfl ?_
  intro p e s m args below meth c s₁ B hml hv
  obtain ⟨hargs, hP, hK⟩ := hv
  have hx := B.exec
  have hb := B.bytes
  have hr := B.returns
  have hts : ∀ w ∈ q_W, w.before args s = true := fun w hw => atoms_spec (ws := q_wc yX11_waiting cX11_waiting 5 (some .int)) B.pre w (List.mem_cons_of_mem _ hw)
  have hown : s.vm.findClass RX11 = some m.cls := findClass_of_methodNamed B.named
  have hlocks := B.notSynchronized
  have hS : va_S (q_A z 22) s.heap s.heap [] := va_S.rf
  have hA : ∀ k, k < 22 → q_A z 22 (z + k) := fun k hk => ⟨Nat.le_add_right z k, Nat.add_lt_add_left hk z⟩
  have hl := lv_entry [.ref (z + 0), .int (q_I a0), .int (q_I a1)] (n := 5) (Nat.le_of_ble_eq_true rfl)
  refine W.eq (by rw [hargs, lg_entry_eq]) ?_
  generalize (lg_sl [.ref (z + 0), .int (q_I a0), .int (q_I a1)] ++ List.replicate (5 - (lg_sl [.ref (z + 0), .int (q_I a0), .int (q_I a1)]).length) Slot.unset).toArray = ls at hl ⊢
  have hl : lv_has ls 5 [(0, .ref (z + 0)), (1, .int (q_I a0)), (2, .int (q_I a1))] := hl
  generalize hQ : MQ below _ args s 0 0 _ = Qf
  change W p l e ({ frames := 2, cells := 0, slots := 0, locals := 46 } : Room) s m args below meth c s.heap [] 0 0 Qf (F0 m 0 ls [])
  unfold f_M_waiting at h
  refine lv_iconst (v := q_I 0) hx hb dX11_waiting_0 rfl ?_
  refine lv_istore_n (lv' := [(3, .int (q_I 0)), (0, .ref (z + 0)), (1, .int (q_I a0)), (2, .int (q_I a1))]) hx hb dX11_waiting_1 rfl hl (by decide) rfl ?_
  clear hl; intro ls hl
  refine lv_aload_n hx hb dX11_waiting_2 rfl (lv_at hl 1 rfl) ?_
  refine lv_iload_n hx hb dX11_waiting_3 rfl (lv_at hl 2 rfl) ?_
  refine lv_iload_n hx hb dX11_waiting_4 rfl (lv_at hl 3 rfl) ?_
  refine lv_iconst (v := q_I 0) hx hb dX11_waiting_5 rfl ?_
  obtain ⟨x2, hv1, h⟩ := q_b_some h
  refine q_callV hx hb hml hts hown hK hP hS (As := [.int (q_I a0), .int (q_I a1), .int (q_I 0)]) (rest := []) (st1 := [.int (q_I x2)]) cv_RX11_118 (c_M_waitingFrom l D dA ra0 ra1 (q_r 0 rfl) hv1) (Nat.le_of_ble_eq_true rfl) q_kdM_0 rfl ⟨rfl, rfl, Nat.le_of_ble_eq_true rfl, Nat.le_of_ble_eq_true rfl⟩ ⟨Nat.le_refl _, Nat.le_refl _⟩ rfl hl.1 rfl (Nat.le_of_ble_eq_true rfl) rfl (fun _ g => g) dX11_waiting_6 ?_
  clear hP hS hv1; intro H locs r2 hP hS _
  refine lv_istore (lv' := [(4, .int (q_I x2)), (3, .int (q_I 0)), (0, .ref (z + 0)), (1, .int (q_I a0)), (2, .int (q_I a1))]) hx hb dX11_waiting_9 hl (by decide) rfl ?_
  clear hl; intro ls hl
  have L11 : ∀ (k41 : Int → Option Int), (∀ (x5 : Int) (H : Heap) (locs : List Loc) (ls : Array Slot), q_R x5 → q_P D dA q_kdM q_rhoM 22 z sz μ H → va_S (q_A z 22) s.heap H locs → lv_has ls 5 [(3, .int (q_I x5))] → k41 x5 = some xo → W p l e ({ frames := 2, cells := 0, slots := 0, locals := 46 } : Room) s m args below meth c H locs 0 0 Qf (F0 m 41 ls [])) → ∀ (nf11 : Nat) (x3 : Int) (x4 : Int) (H : Heap) (locs : List Loc) (ls : Array Slot), q_R x3 → q_R x4 → q_P D dA q_kdM q_rhoM 22 z sz μ H → va_S (q_A z 22) s.heap H locs → lv_has ls 5 [(0, .ref (z + 0)), (1, .int (q_I a0)), (2, .int (q_I a1)), (3, .int (q_I x3)), (4, .int (q_I x4))] → f_M_waiting_L11 N a0 a1 μ k41 nf11 x3 x4 = some xo → W p l e ({ frames := 2, cells := 0, slots := 0, locals := 46 } : Room) s m args below meth c H locs 0 0 Qf (F0 m 11 ls []) := by
    clear h hl hP hS
    intro k41 hk41 nf11
    induction nf11 with
    | zero =>
      intro x3 x4 H locs ls r3 r4 hP hS hl h
      rw [f_M_waiting_L11] at h
      cases h
    | succ nf11 ih11 =>
      intro x3 x4 H locs ls r3 r4 hP hS hl h
      rw [f_M_waiting_L11] at h
      refine lv_iload hx hb dX11_waiting_11 (lv_at hl 4 rfl) ?_
      refine lv_aload_n hx hb dX11_waiting_13 rfl (lv_at hl 0 rfl) ?_
      refine q_getR hx hb hts hown hK hP fd_RX11_7 (Nat.le_of_ble_eq_true rfl) q_kdM_0 rfl q_rhM_0_1 dX11_waiting_14 ?_
      refine lv_bipush (v := q_I 37) hx hb dX11_waiting_17 (by decide) ?_
      refine q_iald hx hb hK hP (Nat.le_of_ble_eq_true rfl) q_kdM_1 (q_r 37 rfl) dX11_waiting_19 h ?_
      clear h; intro x6 r6 h
      refine q_cge hx hb r4 r6 (tgt := 41) dX11_waiting_20 (by decide) h ?_ ?_
      · clear h; intro g11 h
        exact hk41 x3 _ _ _ r3 hP hS (lv_sub hl [3] rfl) h
      · clear h; intro g11 h
        refine q_iinc (k := 3) (lv' := fun t => [(3, .int (q_I t)), (0, .ref (z + 0)), (1, .int (q_I a0)), (2, .int (q_I a1)), (4, .int (q_I x4))]) hx hb dX11_waiting_23 hl rfl (by decide) (fun _ => rfl) h ?_
        clear h hl; intro x7 ls r7 hl h
        refine lv_aload_n hx hb dX11_waiting_26 rfl (lv_at hl 1 rfl) ?_
        refine lv_iload_n hx hb dX11_waiting_27 rfl (lv_at hl 2 rfl) ?_
        refine lv_iload_n hx hb dX11_waiting_28 rfl (lv_at hl 3 rfl) ?_
        refine lv_iload hx hb dX11_waiting_29 (lv_at hl 4 rfl) ?_
        refine lv_iconst (v := q_I 1) hx hb dX11_waiting_31 rfl ?_
        refine q_iadd hx hb dX11_waiting_32 h ?_
        clear h; intro x8 r8 h
        obtain ⟨x10, hv9, h⟩ := q_b_some h
        refine q_callV hx hb hml hts hown hK hP hS (As := [.int (q_I a0), .int (q_I a1), .int (q_I x8)]) (rest := []) (st1 := [.int (q_I x10)]) cv_RX11_118 (c_M_waitingFrom l D dA ra0 ra1 r8 hv9) (Nat.le_of_ble_eq_true rfl) q_kdM_0 rfl ⟨rfl, rfl, Nat.le_of_ble_eq_true rfl, Nat.le_of_ble_eq_true rfl⟩ ⟨Nat.le_refl _, Nat.le_refl _⟩ rfl hl.1 rfl (Nat.le_of_ble_eq_true rfl) rfl (fun _ g => g) dX11_waiting_33 ?_
        clear hP hS hv9; intro H locs r10 hP hS _
        refine lv_istore (lv' := [(4, .int (q_I x10)), (3, .int (q_I x7)), (0, .ref (z + 0)), (1, .int (q_I a0)), (2, .int (q_I a1))]) hx hb dX11_waiting_36 hl (by decide) rfl ?_
        clear hl; intro ls hl
        refine lv_goto (tgt := 11) hx hb dX11_waiting_38 (by decide) ?_
        exact ih11 x7 x10 _ _ _ r7 r10 hP hS (lv_sub hl [2, 3, 4, 1, 0] rfl) h
  refine L11 _ ?_  _ 0 x2 _ _ _ (q_r 0 rfl) r2 hP hS (lv_sub hl [2, 3, 4, 1, 0] rfl) h
  · clear h hl hP hS; intro x5 H locs ls r5 hP hS hl h
    refine lv_iload_n hx hb dX11_waiting_41 rfl (lv_at hl 0 rfl) ?_
    rw [← hQ]
    exact q_ret1 hx hb hr hlocks hP hS r5 h dX11_waiting_42
set_option maxHeartbeats 4000000 in
set_option maxRecDepth 100000 in
theorem c_M_write (l : Launch) (D : va_G) (dA : Nat → ClassId) {z sz : Nat} {a0 : Int} (ra0 : q_R a0) {a1 : Int} (ra1 : q_R a1) {a2 : Int} (ra2 : q_R a2) {a3 : Int} (ra3 : q_R a3) {a4 : Int} (ra4 : q_R a4) {μ : q_M} {μo : q_M} (h : f_M_write a0 a1 a2 a3 a4 μ = some μo) : Met l yX11_write (q_wc yX11_write cX11_write 7 none) ({ frames := 0, cells := 0, slots := 0, locals := 0 } : Room) (va_Pc [.ref (z + 0), .int (q_I a0), .int (q_I a1), .int (q_I a2), .int (q_I a3), .int (q_I a4)] (q_B (q_P D dA q_kdM q_rhoM 22 z sz μ) D dA)) (q_Q none True (q_P D dA q_kdM q_rhoM 22 z sz μo) (q_A z 22)) 0 0 (q_A z 22) := by
  refine Met.ofW (cc := cX11_write) (maxL := 7) (ret := none) (by decide) rfl ?_
  intro p e s m args below meth c s₁ B hml hv
  obtain ⟨hargs, hP, hK⟩ := hv
  have hx := B.exec
  have hb := B.bytes
  have hr := B.returns
  have hts : ∀ w ∈ q_W, w.before args s = true := fun w hw => atoms_spec (ws := q_wc yX11_write cX11_write 7 none) B.pre w (List.mem_cons_of_mem _ hw)
  have hown : s.vm.findClass RX11 = some m.cls := findClass_of_methodNamed B.named
  have hlocks := B.notSynchronized
  have hS : va_S (q_A z 22) s.heap s.heap [] := va_S.rf
  have hA : ∀ k, k < 22 → q_A z 22 (z + k) := fun k hk => ⟨Nat.le_add_right z k, Nat.add_lt_add_left hk z⟩
  have hl := lv_entry [.ref (z + 0), .int (q_I a0), .int (q_I a1), .int (q_I a2), .int (q_I a3), .int (q_I a4)] (n := 7) (Nat.le_of_ble_eq_true rfl)
  refine W.eq (by rw [hargs, lg_entry_eq]) ?_
  generalize (lg_sl [.ref (z + 0), .int (q_I a0), .int (q_I a1), .int (q_I a2), .int (q_I a3), .int (q_I a4)] ++ List.replicate (7 - (lg_sl [.ref (z + 0), .int (q_I a0), .int (q_I a1), .int (q_I a2), .int (q_I a3), .int (q_I a4)]).length) Slot.unset).toArray = ls at hl ⊢
  have hl : lv_has ls 7 [(0, .ref (z + 0)), (1, .int (q_I a0)), (2, .int (q_I a1)), (3, .int (q_I a2)), (4, .int (q_I a3)), (5, .int (q_I a4))] := hl
  generalize hQ : MQ below _ args s 0 0 _ = Qf
  change W p l e ({ frames := 0, cells := 0, slots := 0, locals := 0 } : Room) s m args below meth c s.heap [] 0 0 Qf (F0 m 0 ls [])
  unfold f_M_write at h
  refine lv_sipush (v := q_I 1264) hx hb dX11_write_0 (by decide) ?_
  refine lv_bipush (v := q_I 6) hx hb dX11_write_3 (by decide) ?_
  refine lv_aload_n hx hb dX11_write_5 rfl (lv_at hl 0 rfl) ?_
  refine q_getR hx hb hts hown hK hP fd_RX11_7 (Nat.le_of_ble_eq_true rfl) q_kdM_0 rfl q_rhM_0_1 dX11_write_6 ?_
  refine lv_bipush (v := q_I 37) hx hb dX11_write_9 (by decide) ?_
  refine q_iald hx hb hK hP (Nat.le_of_ble_eq_true rfl) q_kdM_1 (q_r 37 rfl) dX11_write_11 h ?_
  clear h; intro x1 r1 h
  refine q_imul hx hb dX11_write_12 h ?_
  clear h; intro x2 r2 h
  refine q_iadd hx hb dX11_write_13 h ?_
  clear h; intro x3 r3 h
  refine lv_istore (lv' := [(6, .int (q_I x3)), (0, .ref (z + 0)), (1, .int (q_I a0)), (2, .int (q_I a1)), (3, .int (q_I a2)), (4, .int (q_I a3)), (5, .int (q_I a4))]) hx hb dX11_write_14 hl (by decide) rfl ?_
  clear hl; intro ls hl
  refine lv_aload_n hx hb dX11_write_16 rfl (lv_at hl 1 rfl) ?_
  refine q_getR hx hb hts hown hK hP fd_RX11_7 (Nat.le_of_ble_eq_true rfl) q_kdM_0 rfl q_rhM_0_1 dX11_write_17 ?_
  refine lv_iload hx hb dX11_write_20 (lv_at hl 0 rfl) ?_
  refine lv_iload_n hx hb dX11_write_22 rfl (lv_at hl 2 rfl) ?_
  refine q_iast hx hb hK hP hS hA (Nat.le_of_ble_eq_true rfl) q_kdM_1 r3 ra0 dX11_write_23 h ?_
  clear h hP hS; intro μ4 H locs hP hS h
  refine lv_aload_n hx hb dX11_write_24 rfl (lv_at hl 1 rfl) ?_
  refine q_getR hx hb hts hown hK hP fd_RX11_7 (Nat.le_of_ble_eq_true rfl) q_kdM_0 rfl q_rhM_0_1 dX11_write_25 ?_
  refine lv_iload hx hb dX11_write_28 (lv_at hl 0 rfl) ?_
  refine lv_iconst (v := q_I 1) hx hb dX11_write_30 rfl ?_
  refine q_iadd hx hb dX11_write_31 h ?_
  clear h; intro x5 r5 h
  refine lv_iload_n hx hb dX11_write_32 rfl (lv_at hl 3 rfl) ?_
  refine q_iast hx hb hK hP hS hA (Nat.le_of_ble_eq_true rfl) q_kdM_1 r5 ra1 dX11_write_33 h ?_
  clear h hP hS; intro μ6 H locs hP hS h
  refine lv_aload_n hx hb dX11_write_34 rfl (lv_at hl 1 rfl) ?_
  refine q_getR hx hb hts hown hK hP fd_RX11_7 (Nat.le_of_ble_eq_true rfl) q_kdM_0 rfl q_rhM_0_1 dX11_write_35 ?_
  refine lv_iload hx hb dX11_write_38 (lv_at hl 0 rfl) ?_
  refine lv_iconst (v := q_I 2) hx hb dX11_write_40 rfl ?_
  refine q_iadd hx hb dX11_write_41 h ?_
  clear h; intro x7 r7 h
  refine lv_iload_n hx hb dX11_write_42 rfl (lv_at hl 4 rfl) ?_
  refine q_iast hx hb hK hP hS hA (Nat.le_of_ble_eq_true rfl) q_kdM_1 r7 ra2 dX11_write_43 h ?_
  clear h hP hS; intro μ8 H locs hP hS h
  refine lv_aload_n hx hb dX11_write_44 rfl (lv_at hl 1 rfl) ?_
  refine q_getR hx hb hts hown hK hP fd_RX11_7 (Nat.le_of_ble_eq_true rfl) q_kdM_0 rfl q_rhM_0_1 dX11_write_45 ?_
  refine lv_iload hx hb dX11_write_48 (lv_at hl 0 rfl) ?_
  refine lv_iconst (v := q_I 3) hx hb dX11_write_50 rfl ?_
  refine q_iadd hx hb dX11_write_51 h ?_
  clear h; intro x9 r9 h
  refine lv_iload hx hb dX11_write_52 (lv_at hl 5 rfl) ?_
  refine q_iast hx hb hK hP hS hA (Nat.le_of_ble_eq_true rfl) q_kdM_1 r9 ra3 dX11_write_54 h ?_
  clear h hP hS; intro μ10 H locs hP hS h
  refine lv_aload_n hx hb dX11_write_55 rfl (lv_at hl 1 rfl) ?_
  refine q_getR hx hb hts hown hK hP fd_RX11_7 (Nat.le_of_ble_eq_true rfl) q_kdM_0 rfl q_rhM_0_1 dX11_write_56 ?_
  refine lv_iload hx hb dX11_write_59 (lv_at hl 0 rfl) ?_
  refine lv_iconst (v := q_I 4) hx hb dX11_write_61 rfl ?_
  refine q_iadd hx hb dX11_write_62 h ?_
  clear h; intro x11 r11 h
  refine lv_iload hx hb dX11_write_63 (lv_at hl 6 rfl) ?_
  refine q_iast hx hb hK hP hS hA (Nat.le_of_ble_eq_true rfl) q_kdM_1 r11 ra4 dX11_write_65 h ?_
  clear h hP hS; intro μ12 H locs hP hS h
  refine lv_aload_n hx hb dX11_write_66 rfl (lv_at hl 1 rfl) ?_
  refine q_getR hx hb hts hown hK hP fd_RX11_7 (Nat.le_of_ble_eq_true rfl) q_kdM_0 rfl q_rhM_0_1 dX11_write_67 ?_
  refine lv_iload hx hb dX11_write_70 (lv_at hl 0 rfl) ?_
  refine lv_iconst (v := q_I 5) hx hb dX11_write_72 rfl ?_
  refine q_iadd hx hb dX11_write_73 h ?_
  clear h; intro x13 r13 h
  refine lv_iconst (v := q_I (-1)) hx hb dX11_write_74 rfl ?_
  refine q_iast hx hb hK hP hS hA (Nat.le_of_ble_eq_true rfl) q_kdM_1 r13 (q_r (-1) rfl) dX11_write_75 h ?_
  clear h hP hS; intro μ14 H locs hP hS h
  refine lv_aload_n hx hb dX11_write_76 rfl (lv_at hl 1 rfl) ?_
  refine q_getR hx hb hts hown hK hP fd_RX11_7 (Nat.le_of_ble_eq_true rfl) q_kdM_0 rfl q_rhM_0_1 dX11_write_77 ?_
  refine lv_bipush (v := q_I 37) hx hb dX11_write_80 (by decide) ?_
  refine lv_dup2_11 hx hb dX11_write_82 rfl rfl ?_
  refine q_iald hx hb hK hP (Nat.le_of_ble_eq_true rfl) q_kdM_1 (q_r 37 rfl) dX11_write_83 h ?_
  clear h; intro x15 r15 h
  refine lv_iconst (v := q_I 1) hx hb dX11_write_84 rfl ?_
  refine q_iadd hx hb dX11_write_85 h ?_
  clear h; intro x16 r16 h
  refine q_iast hx hb hK hP hS hA (Nat.le_of_ble_eq_true rfl) q_kdM_1 (q_r 37 rfl) r16 dX11_write_86 h ?_
  clear h hP hS; intro μ17 H locs hP hS h
  rw [← hQ]
  exact q_retv hx hb hr hlocks hP hS h dX11_write_87
set_option maxHeartbeats 4000000 in
set_option maxRecDepth 100000 in
theorem c_M_happens (l : Launch) (D : va_G) (dA : Nat → ClassId) {z sz : Nat} {N : Nat} {a0 : Int} (ra0 : q_R a0) {a1 : Int} (ra1 : q_R a1) {a2 : Int} (ra2 : q_R a2) {a3 : Int} (ra3 : q_R a3) {a4 : Int} (ra4 : q_R a4) {a5 : Int} (ra5 : q_R a5) {μ : q_M} {xo : Int} {μo : q_M} (h : f_M_happens N a0 a1 a2 a3 a4 a5 μ = some (xo, μo)) : Met l yX11_happens (q_wc yX11_happens cX11_happens 12 (some .int)) ({ frames := 1, cells := 0, slots := 0, locals := 22 } : Room) (va_Pc [.ref (z + 0), .int (q_I a0), .int (q_I a1), .int (q_I a2), .int (q_I a3), .int (q_I a4), .int (q_I a5)] (q_B (q_P D dA q_kdM q_rhoM 22 z sz μ) D dA)) (q_Q (some (.int (q_I xo))) (q_R xo) (q_P D dA q_kdM q_rhoM 22 z sz μo) (q_A z 22)) 0 0 (q_A z 22) := by
  refine Met.ofW (cc := cX11_happens) (maxL := 12) (ret := (some .int)) (by decide) rfl ?_
  intro p e s m args below meth c s₁ B hml hv
  obtain ⟨hargs, hP, hK⟩ := hv
  have hx := B.exec
  have hb := B.bytes
  have hr := B.returns
  have hts : ∀ w ∈ q_W, w.before args s = true := fun w hw => atoms_spec (ws := q_wc yX11_happens cX11_happens 12 (some .int)) B.pre w (List.mem_cons_of_mem _ hw)
  have hown : s.vm.findClass RX11 = some m.cls := findClass_of_methodNamed B.named
  have hlocks := B.notSynchronized
  have hS : va_S (q_A z 22) s.heap s.heap [] := va_S.rf
  have hA : ∀ k, k < 22 → q_A z 22 (z + k) := fun k hk => ⟨Nat.le_add_right z k, Nat.add_lt_add_left hk z⟩
  have hl := lv_entry [.ref (z + 0), .int (q_I a0), .int (q_I a1), .int (q_I a2), .int (q_I a3), .int (q_I a4), .int (q_I a5)] (n := 12) (Nat.le_of_ble_eq_true rfl)
  refine W.eq (by rw [hargs, lg_entry_eq]) ?_
  generalize (lg_sl [.ref (z + 0), .int (q_I a0), .int (q_I a1), .int (q_I a2), .int (q_I a3), .int (q_I a4), .int (q_I a5)] ++ List.replicate (12 - (lg_sl [.ref (z + 0), .int (q_I a0), .int (q_I a1), .int (q_I a2), .int (q_I a3), .int (q_I a4), .int (q_I a5)]).length) Slot.unset).toArray = ls at hl ⊢
  have hl : lv_has ls 12 [(0, .ref (z + 0)), (1, .int (q_I a0)), (2, .int (q_I a1)), (3, .int (q_I a2)), (4, .int (q_I a3)), (5, .int (q_I a4)), (6, .int (q_I a5))] := hl
  generalize hQ : MQ below _ args s 0 0 _ = Qf
  change W p l e ({ frames := 1, cells := 0, slots := 0, locals := 22 } : Room) s m args below meth c s.heap [] 0 0 Qf (F0 m 0 ls [])
  unfold f_M_happens at h
  refine lv_aload_n hx hb dX11_happens_0 rfl (lv_at hl 0 rfl) ?_
  refine q_getR hx hb hts hown hK hP fd_RX11_7 (Nat.le_of_ble_eq_true rfl) q_kdM_0 rfl q_rhM_0_1 dX11_happens_1 ?_
  refine lv_bipush (v := q_I 36) hx hb dX11_happens_4 (by decide) ?_
  refine q_iald hx hb hK hP (Nat.le_of_ble_eq_true rfl) q_kdM_1 (q_r 36 rfl) dX11_happens_6 h ?_
  clear h; intro x1 r1 h
  refine lv_istore (lv' := [(7, .int (q_I x1)), (0, .ref (z + 0)), (1, .int (q_I a0)), (2, .int (q_I a1)), (3, .int (q_I a2)), (4, .int (q_I a3)), (5, .int (q_I a4)), (6, .int (q_I a5))]) hx hb dX11_happens_7 hl (by decide) rfl ?_
  clear hl; intro ls hl
  refine lv_bipush (v := q_I 64) hx hb dX11_happens_9 (by decide) ?_
  refine lv_bipush (v := q_I 12) hx hb dX11_happens_11 (by decide) ?_
  refine lv_iload hx hb dX11_happens_13 (lv_at hl 0 rfl) ?_
  refine q_imul hx hb dX11_happens_15 h ?_
  clear h; intro x2 r2 h
  refine q_iadd hx hb dX11_happens_16 h ?_
  clear h; intro x3 r3 h
  refine lv_istore (lv' := [(8, .int (q_I x3)), (7, .int (q_I x1)), (0, .ref (z + 0)), (1, .int (q_I a0)), (2, .int (q_I a1)), (3, .int (q_I a2)), (4, .int (q_I a3)), (5, .int (q_I a4)), (6, .int (q_I a5))]) hx hb dX11_happens_17 hl (by decide) rfl ?_
  clear hl; intro ls hl
  refine lv_aload_n hx hb dX11_happens_19 rfl (lv_at hl 2 rfl) ?_
  refine q_getR hx hb hts hown hK hP fd_RX11_7 (Nat.le_of_ble_eq_true rfl) q_kdM_0 rfl q_rhM_0_1 dX11_happens_20 ?_
  refine lv_iload hx hb dX11_happens_23 (lv_at hl 0 rfl) ?_
  refine lv_iload_n hx hb dX11_happens_25 rfl (lv_at hl 3 rfl) ?_
  refine q_iast hx hb hK hP hS hA (Nat.le_of_ble_eq_true rfl) q_kdM_1 r3 ra0 dX11_happens_26 h ?_
  clear h hP hS; intro μ4 H locs hP hS h
  refine lv_aload_n hx hb dX11_happens_27 rfl (lv_at hl 2 rfl) ?_
  refine q_getR hx hb hts hown hK hP fd_RX11_7 (Nat.le_of_ble_eq_true rfl) q_kdM_0 rfl q_rhM_0_1 dX11_happens_28 ?_
  refine lv_iload hx hb dX11_happens_31 (lv_at hl 0 rfl) ?_
  refine lv_iconst (v := q_I 1) hx hb dX11_happens_33 rfl ?_
  refine q_iadd hx hb dX11_happens_34 h ?_
  clear h; intro x5 r5 h
  refine lv_iload_n hx hb dX11_happens_35 rfl (lv_at hl 4 rfl) ?_
  refine q_iast hx hb hK hP hS hA (Nat.le_of_ble_eq_true rfl) q_kdM_1 r5 ra1 dX11_happens_36 h ?_
  clear h hP hS; intro μ6 H locs hP hS h
  refine lv_aload_n hx hb dX11_happens_37 rfl (lv_at hl 2 rfl) ?_
  refine q_getR hx hb hts hown hK hP fd_RX11_7 (Nat.le_of_ble_eq_true rfl) q_kdM_0 rfl q_rhM_0_1 dX11_happens_38 ?_
  refine lv_iload hx hb dX11_happens_41 (lv_at hl 0 rfl) ?_
  refine lv_iconst (v := q_I 2) hx hb dX11_happens_43 rfl ?_
  refine q_iadd hx hb dX11_happens_44 h ?_
  clear h; intro x7 r7 h
  refine lv_iload_n hx hb dX11_happens_45 rfl (lv_at hl 5 rfl) ?_
  refine q_iast hx hb hK hP hS hA (Nat.le_of_ble_eq_true rfl) q_kdM_1 r7 ra2 dX11_happens_46 h ?_
  clear h hP hS; intro μ8 H locs hP hS h
  refine lv_aload_n hx hb dX11_happens_47 rfl (lv_at hl 2 rfl) ?_
  refine q_getR hx hb hts hown hK hP fd_RX11_7 (Nat.le_of_ble_eq_true rfl) q_kdM_0 rfl q_rhM_0_1 dX11_happens_48 ?_
  refine lv_iload hx hb dX11_happens_51 (lv_at hl 0 rfl) ?_
  refine lv_iconst (v := q_I 3) hx hb dX11_happens_53 rfl ?_
  refine q_iadd hx hb dX11_happens_54 h ?_
  clear h; intro x9 r9 h
  refine lv_iload hx hb dX11_happens_55 (lv_at hl 6 rfl) ?_
  refine q_iast hx hb hK hP hS hA (Nat.le_of_ble_eq_true rfl) q_kdM_1 r9 ra3 dX11_happens_57 h ?_
  clear h hP hS; intro μ10 H locs hP hS h
  refine lv_aload_n hx hb dX11_happens_58 rfl (lv_at hl 2 rfl) ?_
  refine q_getR hx hb hts hown hK hP fd_RX11_7 (Nat.le_of_ble_eq_true rfl) q_kdM_0 rfl q_rhM_0_1 dX11_happens_59 ?_
  refine lv_iload hx hb dX11_happens_62 (lv_at hl 0 rfl) ?_
  refine lv_iconst (v := q_I 4) hx hb dX11_happens_64 rfl ?_
  refine q_iadd hx hb dX11_happens_65 h ?_
  clear h; intro x11 r11 h
  refine lv_iload hx hb dX11_happens_66 (lv_at hl 7 rfl) ?_
  refine q_iast hx hb hK hP hS hA (Nat.le_of_ble_eq_true rfl) q_kdM_1 r11 ra4 dX11_happens_68 h ?_
  clear h hP hS; intro μ12 H locs hP hS h
  refine lv_aload_n hx hb dX11_happens_69 rfl (lv_at hl 2 rfl) ?_
  refine q_getR hx hb hts hown hK hP fd_RX11_7 (Nat.le_of_ble_eq_true rfl) q_kdM_0 rfl q_rhM_0_1 dX11_happens_70 ?_
  refine lv_iload hx hb dX11_happens_73 (lv_at hl 0 rfl) ?_
  refine lv_iconst (v := q_I 5) hx hb dX11_happens_75 rfl ?_
  refine q_iadd hx hb dX11_happens_76 h ?_
  clear h; intro x13 r13 h
  refine lv_iload hx hb dX11_happens_77 (lv_at hl 8 rfl) ?_
  refine q_iast hx hb hK hP hS hA (Nat.le_of_ble_eq_true rfl) q_kdM_1 r13 ra5 dX11_happens_79 h ?_
  clear h hP hS; intro μ14 H locs hP hS h
  refine lv_aload_n hx hb dX11_happens_80 rfl (lv_at hl 2 rfl) ?_
  refine q_getR hx hb hts hown hK hP fd_RX11_7 (Nat.le_of_ble_eq_true rfl) q_kdM_0 rfl q_rhM_0_1 dX11_happens_81 ?_
  refine lv_iload hx hb dX11_happens_84 (lv_at hl 0 rfl) ?_
  refine lv_bipush (v := q_I 6) hx hb dX11_happens_86 (by decide) ?_
  refine q_iadd hx hb dX11_happens_88 h ?_
  clear h; intro x15 r15 h
  refine lv_aload_n hx hb dX11_happens_89 rfl (lv_at hl 2 rfl) ?_
  refine q_getR hx hb hts hown hK hP fd_RX11_7 (Nat.le_of_ble_eq_true rfl) q_kdM_0 rfl q_rhM_0_1 dX11_happens_90 ?_
  refine lv_bipush (v := q_I 25) hx hb dX11_happens_93 (by decide) ?_
  refine lv_iload_n hx hb dX11_happens_95 rfl (lv_at hl 3 rfl) ?_
  refine q_iadd hx hb dX11_happens_96 h ?_
  clear h; intro x16 r16 h
  refine q_iald hx hb hK hP (Nat.le_of_ble_eq_true rfl) q_kdM_1 r16 dX11_happens_97 h ?_
  clear h; intro x17 r17 h
  refine q_iast hx hb hK hP hS hA (Nat.le_of_ble_eq_true rfl) q_kdM_1 r15 r17 dX11_happens_98 h ?_
  clear h hP hS; intro μ18 H locs hP hS h
  refine lv_iconst (v := q_I 0) hx hb dX11_happens_99 rfl ?_
  refine lv_istore (lv' := [(9, .int (q_I 0)), (8, .int (q_I x3)), (7, .int (q_I x1)), (0, .ref (z + 0)), (1, .int (q_I a0)), (2, .int (q_I a1)), (3, .int (q_I a2)), (4, .int (q_I a3)), (5, .int (q_I a4)), (6, .int (q_I a5))]) hx hb dX11_happens_100 hl (by decide) rfl ?_
  clear hl; intro ls hl
  have L102 : ∀ (k128 : q_M → Option (Int × q_M)), (∀ (μ21 : q_M) (H : Heap) (locs : List Loc) (ls : Array Slot), q_P D dA q_kdM q_rhoM 22 z sz μ21 H → va_S (q_A z 22) s.heap H locs → lv_has ls 12 [(0, .ref (z + 0)), (1, .int (q_I a0)), (2, .int (q_I a1)), (6, .int (q_I a5)), (7, .int (q_I x1)), (8, .int (q_I x3))] → k128 μ21 = some (xo, μo) → W p l e ({ frames := 1, cells := 0, slots := 0, locals := 22 } : Room) s m args below meth c H locs 0 0 Qf (F0 m 128 ls [])) → ∀ (nf102 : Nat) (x19 : Int) (μ20 : q_M) (H : Heap) (locs : List Loc) (ls : Array Slot), q_R x19 → q_P D dA q_kdM q_rhoM 22 z sz μ20 H → va_S (q_A z 22) s.heap H locs → lv_has ls 12 [(0, .ref (z + 0)), (1, .int (q_I a0)), (2, .int (q_I a1)), (6, .int (q_I a5)), (7, .int (q_I x1)), (8, .int (q_I x3)), (9, .int (q_I x19))] → f_M_happens_L102 x3 k128 nf102 x19 μ20 = some (xo, μo) → W p l e ({ frames := 1, cells := 0, slots := 0, locals := 22 } : Room) s m args below meth c H locs 0 0 Qf (F0 m 102 ls []) := by
    clear h hl hP hS
    intro k128 hk128 nf102
    induction nf102 with
    | zero =>
      intro x19 μ20 H locs ls r19 hP hS hl h
      rw [f_M_happens_L102] at h
      cases h
    | succ nf102 ih102 =>
      intro x19 μ20 H locs ls r19 hP hS hl h
      rw [f_M_happens_L102] at h
      refine lv_iload hx hb dX11_happens_102 (lv_at hl 6 rfl) ?_
      refine lv_iconst (v := q_I 5) hx hb dX11_happens_104 rfl ?_
      refine q_cge hx hb r19 (q_r 5 rfl) (tgt := 128) dX11_happens_105 (by decide) h ?_ ?_
      · clear h; intro g26 h
        exact hk128 μ20 _ _ _ hP hS (lv_sub hl [0, 1, 2, 3, 4, 5] rfl) h
      · clear h; intro g26 h
        refine lv_aload_n hx hb dX11_happens_108 rfl (lv_at hl 0 rfl) ?_
        refine q_getR hx hb hts hown hK hP fd_RX11_7 (Nat.le_of_ble_eq_true rfl) q_kdM_0 rfl q_rhM_0_1 dX11_happens_109 ?_
        refine lv_iload hx hb dX11_happens_112 (lv_at hl 5 rfl) ?_
        refine lv_bipush (v := q_I 7) hx hb dX11_happens_114 (by decide) ?_
        refine q_iadd hx hb dX11_happens_116 h ?_
        clear h; intro x22 r22 h
        refine lv_iload hx hb dX11_happens_117 (lv_at hl 6 rfl) ?_
        refine q_iadd hx hb dX11_happens_119 h ?_
        clear h; intro x23 r23 h
        refine lv_iconst (v := q_I 0) hx hb dX11_happens_120 rfl ?_
        refine q_iast hx hb hK hP hS hA (Nat.le_of_ble_eq_true rfl) q_kdM_1 r23 (q_r 0 rfl) dX11_happens_121 h ?_
        clear h hP hS; intro μ24 H locs hP hS h
        refine q_iinc (k := 6) (lv' := fun t => [(9, .int (q_I t)), (0, .ref (z + 0)), (1, .int (q_I a0)), (2, .int (q_I a1)), (6, .int (q_I a5)), (7, .int (q_I x1)), (8, .int (q_I x3))]) hx hb dX11_happens_122 hl rfl (by decide) (fun _ => rfl) h ?_
        clear h hl; intro x25 ls r25 hl h
        refine lv_goto (tgt := 102) hx hb dX11_happens_125 (by decide) ?_
        exact ih102 x25 μ24 _ _ _ r25 hP hS (lv_sub hl [1, 2, 3, 4, 5, 6, 0] rfl) h
  refine L102 _ ?_  _ 0 μ18 _ _ _ (q_r 0 rfl) hP hS (lv_sub hl [3, 4, 5, 9, 2, 1, 0] rfl) h
  · clear h hl hP hS; intro μ21 H locs ls  hP hS hl h
    refine lv_iconst (v := q_I 0) hx hb dX11_happens_128 rfl ?_
    refine lv_istore (lv' := [(9, .int (q_I 0)), (0, .ref (z + 0)), (1, .int (q_I a0)), (2, .int (q_I a1)), (6, .int (q_I a5)), (7, .int (q_I x1)), (8, .int (q_I x3))]) hx hb dX11_happens_129 hl (by decide) rfl ?_
    clear hl; intro ls hl
    have L131 : ∀ (k266 : q_M → Option (Int × q_M)), (∀ (μ29 : q_M) (H : Heap) (locs : List Loc) (ls : Array Slot), q_P D dA q_kdM q_rhoM 22 z sz μ29 H → va_S (q_A z 22) s.heap H locs → lv_has ls 12 [(0, .ref (z + 0)), (1, .int (q_I a0)), (7, .int (q_I x1)), (8, .int (q_I x3))] → k266 μ29 = some (xo, μo) → W p l e ({ frames := 1, cells := 0, slots := 0, locals := 22 } : Room) s m args below meth c H locs 0 0 Qf (F0 m 266 ls [])) → ∀ (nf131 : Nat) (x27 : Int) (μ28 : q_M) (H : Heap) (locs : List Loc) (ls : Array Slot), q_R x27 → q_P D dA q_kdM q_rhoM 22 z sz μ28 H → va_S (q_A z 22) s.heap H locs → lv_has ls 12 [(0, .ref (z + 0)), (1, .int (q_I a0)), (2, .int (q_I a1)), (6, .int (q_I a5)), (7, .int (q_I x1)), (8, .int (q_I x3)), (9, .int (q_I x27))] → f_M_happens_L131 N a0 a1 a5 x1 x3 k266 nf131 x27 μ28 = some (xo, μo) → W p l e ({ frames := 1, cells := 0, slots := 0, locals := 22 } : Room) s m args below meth c H locs 0 0 Qf (F0 m 131 ls []) := by
      clear h hl hP hS
      intro k266 hk266 nf131
      induction nf131 with
      | zero =>
        intro x27 μ28 H locs ls r27 hP hS hl h
        rw [f_M_happens_L131] at h
        cases h
      | succ nf131 ih131 =>
        intro x27 μ28 H locs ls r27 hP hS hl h
        rw [f_M_happens_L131] at h
        refine lv_iload hx hb dX11_happens_131 (lv_at hl 6 rfl) ?_
        refine lv_iload hx hb dX11_happens_133 (lv_at hl 4 rfl) ?_
        refine q_cge hx hb r27 r1 (tgt := 266) dX11_happens_135 (by decide) h ?_ ?_
        · clear h; intro g62 h
          exact hk266 μ28 _ _ _ hP hS (lv_sub hl [0, 1, 4, 5] rfl) h
        · clear h; intro g62 h
          refine lv_aload_n hx hb dX11_happens_138 rfl (lv_at hl 0 rfl) ?_
          refine lv_iload hx hb dX11_happens_139 (lv_at hl 6 rfl) ?_
          refine lv_iconst (v := q_I 0) hx hb dX11_happens_141 rfl ?_
          obtain ⟨x31, hv30, h⟩ := q_b_some h
          refine q_callV hx hb hml hts hown hK hP hS (As := [.int (q_I x27), .int (q_I 0)]) (rest := []) (st1 := [.int (q_I x31)]) cv_RX11_122 (c_M_ofEvent l D dA r27 (q_r 0 rfl) hv30) (Nat.le_of_ble_eq_true rfl) q_kdM_0 rfl ⟨rfl, rfl, Nat.le_of_ble_eq_true rfl, Nat.le_of_ble_eq_true rfl⟩ ⟨Nat.le_refl _, Nat.le_refl _⟩ rfl hl.1 rfl (Nat.le_of_ble_eq_true rfl) rfl (fun _ g => g) dX11_happens_142 ?_
          clear hP hS hv30; intro H locs r31 hP hS _
          refine lv_iload_n hx hb dX11_happens_145 rfl (lv_at hl 1 rfl) ?_
          refine q_jn_in h (fun J => ∀ (x32 : Int) (H : Heap) (locs : List Loc) (ls : Array Slot), q_R x32 → q_P D dA q_kdM q_rhoM 22 z sz μ28 H → va_S (q_A z 22) s.heap H locs → lv_has ls 12 [(0, .ref (z + 0)), (1, .int (q_I a0)), (2, .int (q_I a1)), (6, .int (q_I a5)), (7, .int (q_I x1)), (8, .int (q_I x3)), (9, .int (q_I x27))] → J x32 = some (xo, μo) → W p l e ({ frames := 1, cells := 0, slots := 0, locals := 22 } : Room) s m args below meth c H locs 0 0 Qf (F0 m 171 ls [.int (q_I x32)])) ?_ ?_
          · clear h hl hP hS; intro x32 H locs ls r32 hP hS hl h
            refine lv_istore (lv' := [(10, .int (q_I x32)), (0, .ref (z + 0)), (1, .int (q_I a0)), (2, .int (q_I a1)), (6, .int (q_I a5)), (7, .int (q_I x1)), (8, .int (q_I x3)), (9, .int (q_I x27))]) hx hb dX11_happens_171 hl (by decide) rfl ?_
            clear hl; intro ls hl
            refine lv_iconst (v := q_I 0) hx hb dX11_happens_173 rfl ?_
            refine lv_istore (lv' := [(11, .int (q_I 0)), (10, .int (q_I x32)), (0, .ref (z + 0)), (1, .int (q_I a0)), (2, .int (q_I a1)), (6, .int (q_I a5)), (7, .int (q_I x1)), (8, .int (q_I x3)), (9, .int (q_I x27))]) hx hb dX11_happens_174 hl (by decide) rfl ?_
            clear hl; intro ls hl
            have L176 : ∀ (k260 : q_M → Option (Int × q_M)), (∀ (μ35 : q_M) (H : Heap) (locs : List Loc) (ls : Array Slot), q_P D dA q_kdM q_rhoM 22 z sz μ35 H → va_S (q_A z 22) s.heap H locs → lv_has ls 12 [(0, .ref (z + 0)), (1, .int (q_I a0)), (2, .int (q_I a1)), (6, .int (q_I a5)), (7, .int (q_I x1)), (8, .int (q_I x3)), (9, .int (q_I x27))] → k260 μ35 = some (xo, μo) → W p l e ({ frames := 1, cells := 0, slots := 0, locals := 22 } : Room) s m args below meth c H locs 0 0 Qf (F0 m 260 ls [])) → ∀ (nf176 : Nat) (x33 : Int) (μ34 : q_M) (H : Heap) (locs : List Loc) (ls : Array Slot), q_R x33 → q_P D dA q_kdM q_rhoM 22 z sz μ34 H → va_S (q_A z 22) s.heap H locs → lv_has ls 12 [(0, .ref (z + 0)), (1, .int (q_I a0)), (2, .int (q_I a1)), (6, .int (q_I a5)), (7, .int (q_I x1)), (8, .int (q_I x3)), (9, .int (q_I x27)), (10, .int (q_I x32)), (11, .int (q_I x33))] → f_M_happens_L176 x32 x3 x27 k260 nf176 x33 μ34 = some (xo, μo) → W p l e ({ frames := 1, cells := 0, slots := 0, locals := 22 } : Room) s m args below meth c H locs 0 0 Qf (F0 m 176 ls []) := by
              clear h hl hP hS
              intro k260 hk260 nf176
              induction nf176 with
              | zero =>
                intro x33 μ34 H locs ls r33 hP hS hl h
                rw [f_M_happens_L176] at h
                cases h
              | succ nf176 ih176 =>
                intro x33 μ34 H locs ls r33 hP hS hl h
                rw [f_M_happens_L176] at h
                refine lv_iload hx hb dX11_happens_176 (lv_at hl 8 rfl) ?_
                refine lv_iconst (v := q_I 5) hx hb dX11_happens_178 rfl ?_
                refine q_cge hx hb r33 (q_r 5 rfl) (tgt := 260) dX11_happens_179 (by decide) h ?_ ?_
                · clear h; intro g55 h
                  exact hk260 μ34 _ _ _ hP hS (lv_sub hl [0, 1, 2, 3, 4, 5, 6] rfl) h
                · clear h; intro g55 h
                  refine lv_iload hx hb dX11_happens_182 (lv_at hl 7 rfl) ?_
                  refine q_zeq hx hb r32 (tgt := 260) dX11_happens_184 (by decide) h ?_ ?_
                  · clear h; intro g54 h
                    exact hk260 μ34 _ _ _ hP hS (lv_sub hl [0, 1, 2, 3, 4, 5, 6] rfl) h
                  · clear h; intro g54 h
                    refine lv_aload_n hx hb dX11_happens_187 rfl (lv_at hl 0 rfl) ?_
                    refine q_getR hx hb hts hown hK hP fd_RX11_7 (Nat.le_of_ble_eq_true rfl) q_kdM_0 rfl q_rhM_0_1 dX11_happens_188 ?_
                    refine lv_iload hx hb dX11_happens_191 (lv_at hl 5 rfl) ?_
                    refine lv_bipush (v := q_I 7) hx hb dX11_happens_193 (by decide) ?_
                    refine q_iadd hx hb dX11_happens_195 h ?_
                    clear h; intro x36 r36 h
                    refine lv_iload hx hb dX11_happens_196 (lv_at hl 8 rfl) ?_
                    refine q_iadd hx hb dX11_happens_198 h ?_
                    clear h; intro x37 r37 h
                    refine lv_aload_n hx hb dX11_happens_199 rfl (lv_at hl 0 rfl) ?_
                    refine lv_iload hx hb dX11_happens_200 (lv_at hl 6 rfl) ?_
                    refine lv_bipush (v := q_I 7) hx hb dX11_happens_202 (by decide) ?_
                    refine lv_iload hx hb dX11_happens_204 (lv_at hl 8 rfl) ?_
                    refine q_iadd hx hb dX11_happens_206 h ?_
                    clear h; intro x38 r38 h
                    obtain ⟨x40, hv39, h⟩ := q_b_some h
                    refine q_callV hx hb hml hts hown hK hP hS (As := [.int (q_I x27), .int (q_I x38)]) (rest := [.int (q_I x37), .ref (z + 1)]) (st1 := [.int (q_I x40), .int (q_I x37), .ref (z + 1)]) cv_RX11_122 (c_M_ofEvent l D dA r27 r38 hv39) (Nat.le_of_ble_eq_true rfl) q_kdM_0 rfl ⟨rfl, rfl, Nat.le_of_ble_eq_true rfl, Nat.le_of_ble_eq_true rfl⟩ ⟨Nat.le_refl _, Nat.le_refl _⟩ rfl hl.1 rfl (Nat.le_of_ble_eq_true rfl) rfl (fun _ g => g) dX11_happens_207 ?_
                    clear hP hS hv39; intro H locs r40 hP hS _
                    refine lv_aload_n hx hb dX11_happens_210 rfl (lv_at hl 0 rfl) ?_
                    refine q_getR hx hb hts hown hK hP fd_RX11_7 (Nat.le_of_ble_eq_true rfl) q_kdM_0 rfl q_rhM_0_1 dX11_happens_211 ?_
                    refine lv_iload hx hb dX11_happens_214 (lv_at hl 5 rfl) ?_
                    refine lv_bipush (v := q_I 7) hx hb dX11_happens_216 (by decide) ?_
                    refine q_iadd hx hb dX11_happens_218 h ?_
                    clear h; intro x41 r41 h
                    refine lv_iload hx hb dX11_happens_219 (lv_at hl 8 rfl) ?_
                    refine q_iadd hx hb dX11_happens_221 h ?_
                    clear h; intro x42 r42 h
                    refine q_iald hx hb hK hP (Nat.le_of_ble_eq_true rfl) q_kdM_1 r42 dX11_happens_222 h ?_
                    clear h; intro x43 r43 h
                    refine q_jn_in h (fun J => ∀ (x44 : Int) (H : Heap) (locs : List Loc) (ls : Array Slot), q_R x44 → q_P D dA q_kdM q_rhoM 22 z sz μ34 H → va_S (q_A z 22) s.heap H locs → lv_has ls 12 [(0, .ref (z + 0)), (1, .int (q_I a0)), (2, .int (q_I a1)), (6, .int (q_I a5)), (7, .int (q_I x1)), (8, .int (q_I x3)), (9, .int (q_I x27)), (10, .int (q_I x32)), (11, .int (q_I x33))] → J x44 = some (xo, μo) → W p l e ({ frames := 1, cells := 0, slots := 0, locals := 22 } : Room) s m args below meth c H locs 0 0 Qf (F0 m 253 ls [.int (q_I x44), .int (q_I x37), .ref (z + 1)])) ?_ ?_
                    · clear h hl hP hS; intro x44 H locs ls r44 hP hS hl h
                      refine q_iast hx hb hK hP hS hA (Nat.le_of_ble_eq_true rfl) q_kdM_1 r37 r44 dX11_happens_253 h ?_
                      clear h hP hS; intro μ45 H locs hP hS h
                      refine q_iinc (k := 8) (lv' := fun t => [(11, .int (q_I t)), (0, .ref (z + 0)), (1, .int (q_I a0)), (2, .int (q_I a1)), (6, .int (q_I a5)), (7, .int (q_I x1)), (8, .int (q_I x3)), (9, .int (q_I x27)), (10, .int (q_I x32))]) hx hb dX11_happens_254 hl rfl (by decide) (fun _ => rfl) h ?_
                      clear h hl; intro x46 ls r46 hl h
                      refine lv_goto (tgt := 176) hx hb dX11_happens_257 (by decide) ?_
                      exact ih176 x46 μ45 _ _ _ r46 hP hS (lv_sub hl [1, 2, 3, 4, 5, 6, 7, 8, 0] rfl) h
                    · clear h; intro j253 hj253 h
                      refine q_cle hx hb r40 r43 (tgt := 240) dX11_happens_223 (by decide) h ?_ ?_
                      · clear h; intro g53 h
                        refine lv_aload_n hx hb dX11_happens_240 rfl (lv_at hl 0 rfl) ?_
                        refine q_getR hx hb hts hown hK hP fd_RX11_7 (Nat.le_of_ble_eq_true rfl) q_kdM_0 rfl q_rhM_0_1 dX11_happens_241 ?_
                        refine lv_iload hx hb dX11_happens_244 (lv_at hl 5 rfl) ?_
                        refine lv_bipush (v := q_I 7) hx hb dX11_happens_246 (by decide) ?_
                        refine q_iadd hx hb dX11_happens_248 h ?_
                        clear h; intro x47 r47 h
                        refine lv_iload hx hb dX11_happens_249 (lv_at hl 8 rfl) ?_
                        refine q_iadd hx hb dX11_happens_251 h ?_
                        clear h; intro x48 r48 h
                        refine q_iald hx hb hK hP (Nat.le_of_ble_eq_true rfl) q_kdM_1 r48 dX11_happens_252 h ?_
                        clear h; intro x49 r49 h
                        exact hj253 x49 _ _ _ r49 hP hS (lv_sub hl [0, 1, 2, 3, 4, 5, 6, 7, 8] rfl) h
                      · clear h; intro g53 h
                        refine lv_aload_n hx hb dX11_happens_226 rfl (lv_at hl 0 rfl) ?_
                        refine lv_iload hx hb dX11_happens_227 (lv_at hl 6 rfl) ?_
                        refine lv_bipush (v := q_I 7) hx hb dX11_happens_229 (by decide) ?_
                        refine lv_iload hx hb dX11_happens_231 (lv_at hl 8 rfl) ?_
                        refine q_iadd hx hb dX11_happens_233 h ?_
                        clear h; intro x50 r50 h
                        obtain ⟨x52, hv51, h⟩ := q_b_some h
                        refine q_callV hx hb hml hts hown hK hP hS (As := [.int (q_I x27), .int (q_I x50)]) (rest := [.int (q_I x37), .ref (z + 1)]) (st1 := [.int (q_I x52), .int (q_I x37), .ref (z + 1)]) cv_RX11_122 (c_M_ofEvent l D dA r27 r50 hv51) (Nat.le_of_ble_eq_true rfl) q_kdM_0 rfl ⟨rfl, rfl, Nat.le_of_ble_eq_true rfl, Nat.le_of_ble_eq_true rfl⟩ ⟨Nat.le_refl _, Nat.le_refl _⟩ rfl hl.1 rfl (Nat.le_of_ble_eq_true rfl) rfl (fun _ g => g) dX11_happens_234 ?_
                        clear hP hS hv51; intro H locs r52 hP hS _
                        refine lv_goto (tgt := 253) hx hb dX11_happens_237 (by decide) ?_
                        exact hj253 x52 _ _ _ r52 hP hS (lv_sub hl [0, 1, 2, 3, 4, 5, 6, 7, 8] rfl) h
            refine L176 _ ?_  _ 0 μ28 _ _ _ (q_r 0 rfl) hP hS (lv_sub hl [2, 3, 4, 5, 6, 7, 8, 1, 0] rfl) h
            · clear h hl hP hS; intro μ35 H locs ls  hP hS hl h
              refine q_iinc (k := 6) (lv' := fun t => [(9, .int (q_I t)), (0, .ref (z + 0)), (1, .int (q_I a0)), (2, .int (q_I a1)), (6, .int (q_I a5)), (7, .int (q_I x1)), (8, .int (q_I x3))]) hx hb dX11_happens_260 hl rfl (by decide) (fun _ => rfl) h ?_
              clear h hl; intro x56 ls r56 hl h
              refine lv_goto (tgt := 131) hx hb dX11_happens_263 (by decide) ?_
              exact ih131 x56 μ35 _ _ _ r56 hP hS (lv_sub hl [1, 2, 3, 4, 5, 6, 0] rfl) h
          · clear h; intro j171 hj171 h
            refine q_jn_in h (fun J => ∀ (H : Heap) (locs : List Loc) (ls : Array Slot), q_P D dA q_kdM q_rhoM 22 z sz μ28 H → va_S (q_A z 22) s.heap H locs → lv_has ls 12 [(0, .ref (z + 0)), (1, .int (q_I a0)), (2, .int (q_I a1)), (6, .int (q_I a5)), (7, .int (q_I x1)), (8, .int (q_I x3)), (9, .int (q_I x27))] → J = some (xo, μo) → W p l e ({ frames := 1, cells := 0, slots := 0, locals := 22 } : Room) s m args below meth c H locs 0 0 Qf (F0 m 166 ls [])) ?_ ?_
            · clear h hl hP hS; intro  H locs ls  hP hS hl h
              refine lv_iconst (v := q_I 1) hx hb dX11_happens_166 rfl ?_
              refine lv_goto (tgt := 171) hx hb dX11_happens_167 (by decide) ?_
              exact hj171 1 _ _ _ (q_r 1 rfl) hP hS (lv_sub hl [0, 1, 2, 3, 4, 5, 6] rfl) h
            · clear h; intro j166 hj166 h
              refine q_ceq hx hb r31 ra0 (tgt := 166) dX11_happens_146 (by decide) h ?_ ?_
              · clear h; intro g61 h
                exact hj166  _ _ _ hP hS (lv_sub hl [0, 1, 2, 3, 4, 5, 6] rfl) h
              · clear h; intro g61 h
                refine lv_iload_n hx hb dX11_happens_149 rfl (lv_at hl 2 rfl) ?_
                refine lv_iconst (v := q_I 2) hx hb dX11_happens_150 rfl ?_
                refine q_jn_in h (fun J => ∀ (H : Heap) (locs : List Loc) (ls : Array Slot), q_P D dA q_kdM q_rhoM 22 z sz μ28 H → va_S (q_A z 22) s.heap H locs → lv_has ls 12 [(0, .ref (z + 0)), (1, .int (q_I a0)), (2, .int (q_I a1)), (6, .int (q_I a5)), (7, .int (q_I x1)), (8, .int (q_I x3)), (9, .int (q_I x27))] → J = some (xo, μo) → W p l e ({ frames := 1, cells := 0, slots := 0, locals := 22 } : Room) s m args below meth c H locs 0 0 Qf (F0 m 170 ls [])) ?_ ?_
                · clear h hl hP hS; intro  H locs ls  hP hS hl h
                  refine lv_iconst (v := q_I 0) hx hb dX11_happens_170 rfl ?_
                  exact hj171 0 _ _ _ (q_r 0 rfl) hP hS (lv_sub hl [0, 1, 2, 3, 4, 5, 6] rfl) h
                · clear h; intro j170 hj170 h
                  refine q_cne hx hb ra1 (q_r 2 rfl) (tgt := 170) dX11_happens_151 (by decide) h ?_ ?_
                  · clear h; intro g60 h
                    refine lv_aload_n hx hb dX11_happens_154 rfl (lv_at hl 0 rfl) ?_
                    refine lv_iload hx hb dX11_happens_155 (lv_at hl 3 rfl) ?_
                    refine lv_iconst (v := q_I 4) hx hb dX11_happens_157 rfl ?_
                    obtain ⟨x58, hv57, h⟩ := q_b_some h
                    refine q_callV hx hb hml hts hown hK hP hS (As := [.int (q_I a5), .int (q_I 4)]) (rest := []) (st1 := [.int (q_I x58)]) cv_RX11_114 (c_M_ofMessage l D dA ra5 (q_r 4 rfl) hv57) (Nat.le_of_ble_eq_true rfl) q_kdM_0 rfl ⟨rfl, rfl, Nat.le_of_ble_eq_true rfl, Nat.le_of_ble_eq_true rfl⟩ ⟨Nat.le_refl _, Nat.le_refl _⟩ rfl hl.1 rfl (Nat.le_of_ble_eq_true rfl) rfl (fun _ g => g) dX11_happens_158 ?_
                    clear hP hS hv57; intro H locs r58 hP hS _
                    refine lv_iload hx hb dX11_happens_161 (lv_at hl 6 rfl) ?_
                    refine q_cne hx hb r58 r27 (tgt := 170) dX11_happens_163 (by decide) h ?_ ?_
                    · clear h; intro g59 h
                      exact hj166  _ _ _ hP hS (lv_sub hl [0, 1, 2, 3, 4, 5, 6] rfl) h
                    · clear h; intro g59 h
                      exact hj170  _ _ _ hP hS (lv_sub hl [0, 1, 2, 3, 4, 5, 6] rfl) h
                  · clear h; intro g60 h
                    exact hj170  _ _ _ hP hS (lv_sub hl [0, 1, 2, 3, 4, 5, 6] rfl) h
    refine L131 _ ?_  _ 0 μ21 _ _ _ (q_r 0 rfl) hP hS (lv_sub hl [1, 2, 3, 4, 5, 6, 0] rfl) h
    · clear h hl hP hS; intro μ29 H locs ls  hP hS hl h
      refine lv_aload_n hx hb dX11_happens_266 rfl (lv_at hl 0 rfl) ?_
      refine q_getR hx hb hts hown hK hP fd_RX11_7 (Nat.le_of_ble_eq_true rfl) q_kdM_0 rfl q_rhM_0_1 dX11_happens_267 ?_
      refine lv_bipush (v := q_I 25) hx hb dX11_happens_270 (by decide) ?_
      refine lv_iload_n hx hb dX11_happens_272 rfl (lv_at hl 1 rfl) ?_
      refine q_iadd hx hb dX11_happens_273 h ?_
      clear h; intro x63 r63 h
      refine lv_dup2_11 hx hb dX11_happens_274 rfl rfl ?_
      refine q_iald hx hb hK hP (Nat.le_of_ble_eq_true rfl) q_kdM_1 r63 dX11_happens_275 h ?_
      clear h; intro x64 r64 h
      refine lv_iconst (v := q_I 1) hx hb dX11_happens_276 rfl ?_
      refine q_iadd hx hb dX11_happens_277 h ?_
      clear h; intro x65 r65 h
      refine q_iast hx hb hK hP hS hA (Nat.le_of_ble_eq_true rfl) q_kdM_1 r63 r65 dX11_happens_278 h ?_
      clear h hP hS; intro μ66 H locs hP hS h
      refine lv_aload_n hx hb dX11_happens_279 rfl (lv_at hl 0 rfl) ?_
      refine q_getR hx hb hts hown hK hP fd_RX11_7 (Nat.le_of_ble_eq_true rfl) q_kdM_0 rfl q_rhM_0_1 dX11_happens_280 ?_
      refine lv_iload hx hb dX11_happens_283 (lv_at hl 3 rfl) ?_
      refine lv_bipush (v := q_I 7) hx hb dX11_happens_285 (by decide) ?_
      refine q_iadd hx hb dX11_happens_287 h ?_
      clear h; intro x67 r67 h
      refine lv_iload_n hx hb dX11_happens_288 rfl (lv_at hl 1 rfl) ?_
      refine q_iadd hx hb dX11_happens_289 h ?_
      clear h; intro x68 r68 h
      refine lv_aload_n hx hb dX11_happens_290 rfl (lv_at hl 0 rfl) ?_
      refine q_getR hx hb hts hown hK hP fd_RX11_7 (Nat.le_of_ble_eq_true rfl) q_kdM_0 rfl q_rhM_0_1 dX11_happens_291 ?_
      refine lv_bipush (v := q_I 25) hx hb dX11_happens_294 (by decide) ?_
      refine lv_iload_n hx hb dX11_happens_296 rfl (lv_at hl 1 rfl) ?_
      refine q_iadd hx hb dX11_happens_297 h ?_
      clear h; intro x69 r69 h
      refine q_iald hx hb hK hP (Nat.le_of_ble_eq_true rfl) q_kdM_1 r69 dX11_happens_298 h ?_
      clear h; intro x70 r70 h
      refine q_iast hx hb hK hP hS hA (Nat.le_of_ble_eq_true rfl) q_kdM_1 r68 r70 dX11_happens_299 h ?_
      clear h hP hS; intro μ71 H locs hP hS h
      refine lv_aload_n hx hb dX11_happens_300 rfl (lv_at hl 0 rfl) ?_
      refine q_getR hx hb hts hown hK hP fd_RX11_7 (Nat.le_of_ble_eq_true rfl) q_kdM_0 rfl q_rhM_0_1 dX11_happens_301 ?_
      refine lv_bipush (v := q_I 36) hx hb dX11_happens_304 (by decide) ?_
      refine lv_dup2_11 hx hb dX11_happens_306 rfl rfl ?_
      refine q_iald hx hb hK hP (Nat.le_of_ble_eq_true rfl) q_kdM_1 (q_r 36 rfl) dX11_happens_307 h ?_
      clear h; intro x72 r72 h
      refine lv_iconst (v := q_I 1) hx hb dX11_happens_308 rfl ?_
      refine q_iadd hx hb dX11_happens_309 h ?_
      clear h; intro x73 r73 h
      refine q_iast hx hb hK hP hS hA (Nat.le_of_ble_eq_true rfl) q_kdM_1 (q_r 36 rfl) r73 dX11_happens_310 h ?_
      clear h hP hS; intro μ74 H locs hP hS h
      refine lv_iload hx hb dX11_happens_311 (lv_at hl 2 rfl) ?_
      rw [← hQ]
      exact q_ret2 hx hb hr hlocks hP hS r1 h dX11_happens_313
set_option maxHeartbeats 4000000 in
set_option maxRecDepth 100000 in
theorem c_M_changeNow (l : Launch) (D : va_G) (dA : Nat → ClassId) {z sz : Nat} {N : Nat} {a0 : Int} (ra0 : q_R a0) {a1 : Int} (ra1 : q_R a1) {a2 : Int} (ra2 : q_R a2) {μ : q_M} {xo : Int} {μo : q_M} (h : f_M_changeNow N a0 a1 a2 μ = some (xo, μo)) : Met l yX11_changeNow (q_wc yX11_changeNow cX11_changeNow 5 (some .int)) ({ frames := 2, cells := 0, slots := 0, locals := 53 } : Room) (va_Pc [.ref (z + 0), .int (q_I a0), .int (q_I a1), .int (q_I a2)] (q_B (q_P D dA q_kdM q_rhoM 22 z sz μ) D dA)) (q_Q (some (.int (q_I xo))) (q_R xo) (q_P D dA q_kdM q_rhoM 22 z sz μo) (q_A z 22)) 0 0 (q_A z 22) := by
  refine Met.ofW (cc := cX11_changeNow) (maxL := 5) (ret := (some .int)) (by decide) rfl ?_
  intro p e s m args below meth c s₁ B hml hv
  obtain ⟨hargs, hP, hK⟩ := hv
  have hx := B.exec
  have hb := B.bytes
  have hr := B.returns
  have hts : ∀ w ∈ q_W, w.before args s = true := fun w hw => atoms_spec (ws := q_wc yX11_changeNow cX11_changeNow 5 (some .int)) B.pre w (List.mem_cons_of_mem _ hw)
  have hown : s.vm.findClass RX11 = some m.cls := findClass_of_methodNamed B.named
  have hlocks := B.notSynchronized
  have hS : va_S (q_A z 22) s.heap s.heap [] := va_S.rf
  have hA : ∀ k, k < 22 → q_A z 22 (z + k) := fun k hk => ⟨Nat.le_add_right z k, Nat.add_lt_add_left hk z⟩
  have hl := lv_entry [.ref (z + 0), .int (q_I a0), .int (q_I a1), .int (q_I a2)] (n := 5) (Nat.le_of_ble_eq_true rfl)
  refine W.eq (by rw [hargs, lg_entry_eq]) ?_
  generalize (lg_sl [.ref (z + 0), .int (q_I a0), .int (q_I a1), .int (q_I a2)] ++ List.replicate (5 - (lg_sl [.ref (z + 0), .int (q_I a0), .int (q_I a1), .int (q_I a2)]).length) Slot.unset).toArray = ls at hl ⊢
  have hl : lv_has ls 5 [(0, .ref (z + 0)), (1, .int (q_I a0)), (2, .int (q_I a1)), (3, .int (q_I a2))] := hl
  generalize hQ : MQ below _ args s 0 0 _ = Qf
  change W p l e ({ frames := 2, cells := 0, slots := 0, locals := 53 } : Room) s m args below meth c s.heap [] 0 0 Qf (F0 m 0 ls [])
  unfold f_M_changeNow at h
  refine lv_aload_n hx hb dX11_changeNow_0 rfl (lv_at hl 0 rfl) ?_
  refine q_getR hx hb hts hown hK hP fd_RX11_7 (Nat.le_of_ble_eq_true rfl) q_kdM_0 rfl q_rhM_0_1 dX11_changeNow_1 ?_
  refine lv_iconst (v := q_I 0) hx hb dX11_changeNow_4 rfl ?_
  refine lv_iconst (v := q_I 2) hx hb dX11_changeNow_5 rfl ?_
  refine lv_iload_n hx hb dX11_changeNow_6 rfl (lv_at hl 1 rfl) ?_
  refine q_imul hx hb dX11_changeNow_7 h ?_
  clear h; intro x1 r1 h
  refine q_iadd hx hb dX11_changeNow_8 h ?_
  clear h; intro x2 r2 h
  refine lv_iload_n hx hb dX11_changeNow_9 rfl (lv_at hl 2 rfl) ?_
  refine q_iadd hx hb dX11_changeNow_10 h ?_
  clear h; intro x3 r3 h
  refine q_iald hx hb hK hP (Nat.le_of_ble_eq_true rfl) q_kdM_1 r3 dX11_changeNow_11 h ?_
  clear h; intro x4 r4 h
  refine lv_iload_n hx hb dX11_changeNow_12 rfl (lv_at hl 3 rfl) ?_
  refine q_iadd hx hb dX11_changeNow_13 h ?_
  clear h; intro x5 r5 h
  refine lv_istore (lv' := [(4, .int (q_I x5)), (0, .ref (z + 0)), (1, .int (q_I a0)), (2, .int (q_I a1)), (3, .int (q_I a2))]) hx hb dX11_changeNow_14 hl (by decide) rfl ?_
  clear hl; intro ls hl
  refine lv_iload hx hb dX11_changeNow_16 (lv_at hl 0 rfl) ?_
  refine lv_iconst (v := q_I 0) hx hb dX11_changeNow_18 rfl ?_
  refine lv_sipush (v := q_I 1000) hx hb dX11_changeNow_19 (by decide) ?_
  obtain ⟨x7, hv6, h⟩ := q_b_some h
  refine q_callS hx hb hml hts hown hK hP hS (As := [.int (q_I x5), .int (q_I 0), .int (q_I 1000)]) (rest := []) (st1 := [.int (q_I x7)]) cs_RX11_99 (c_M_in l D dA r5 (q_r 0 rfl) (q_r 1000 rfl) hv6) ⟨rfl, rfl, Nat.le_of_ble_eq_true rfl, Nat.le_of_ble_eq_true rfl⟩ ⟨Nat.le_refl _, Nat.le_refl _⟩ rfl hl.1 rfl (Nat.le_of_ble_eq_true rfl) rfl (fun _ g => g) dX11_changeNow_22 ?_
  clear hP hS hv6; intro H locs r7 hP hS _
  refine q_zne hx hb r7 (tgt := 31) dX11_changeNow_25 (by decide) h ?_ ?_
  · clear h; intro g17 h
    refine lv_ldc hx hb hown (hts _ ck_RX11_125) dX11_changeNow_28 ?_
    rw [← hQ]
    exact q_ret2 hx hb hr hlocks hP hS (q_r (-100004) rfl) h dX11_changeNow_30
  · clear h; intro g17 h
    refine lv_aload_n hx hb dX11_changeNow_31 rfl (lv_at hl 1 rfl) ?_
    refine q_getR hx hb hts hown hK hP fd_RX11_7 (Nat.le_of_ble_eq_true rfl) q_kdM_0 rfl q_rhM_0_1 dX11_changeNow_32 ?_
    refine lv_bipush (v := q_I 36) hx hb dX11_changeNow_35 (by decide) ?_
    refine q_iald hx hb hK hP (Nat.le_of_ble_eq_true rfl) q_kdM_1 (q_r 36 rfl) dX11_changeNow_37 h ?_
    clear h; intro x8 r8 h
    refine lv_bipush (v := q_I 100) hx hb dX11_changeNow_38 (by decide) ?_
    refine q_cne hx hb r8 (q_r 100 rfl) (tgt := 46) dX11_changeNow_40 (by decide) h ?_ ?_
    · clear h; intro g16 h
      refine lv_ldc hx hb hown (hts _ ck_RX11_126) dX11_changeNow_43 ?_
      rw [← hQ]
      exact q_ret2 hx hb hr hlocks hP hS (q_r (-100005) rfl) h dX11_changeNow_45
    · clear h; intro g16 h
      refine lv_aload_n hx hb dX11_changeNow_46 rfl (lv_at hl 1 rfl) ?_
      refine q_getR hx hb hts hown hK hP fd_RX11_7 (Nat.le_of_ble_eq_true rfl) q_kdM_0 rfl q_rhM_0_1 dX11_changeNow_47 ?_
      refine lv_iconst (v := q_I 0) hx hb dX11_changeNow_50 rfl ?_
      refine lv_iconst (v := q_I 2) hx hb dX11_changeNow_51 rfl ?_
      refine lv_iload_n hx hb dX11_changeNow_52 rfl (lv_at hl 2 rfl) ?_
      refine q_imul hx hb dX11_changeNow_53 h ?_
      clear h; intro x9 r9 h
      refine q_iadd hx hb dX11_changeNow_54 h ?_
      clear h; intro x10 r10 h
      refine lv_iload_n hx hb dX11_changeNow_55 rfl (lv_at hl 3 rfl) ?_
      refine q_iadd hx hb dX11_changeNow_56 h ?_
      clear h; intro x11 r11 h
      refine lv_iload hx hb dX11_changeNow_57 (lv_at hl 0 rfl) ?_
      refine q_iast hx hb hK hP hS hA (Nat.le_of_ble_eq_true rfl) q_kdM_1 r11 r5 dX11_changeNow_59 h ?_
      clear h hP hS; intro μ12 H locs hP hS h
      refine lv_aload_n hx hb dX11_changeNow_60 rfl (lv_at hl 1 rfl) ?_
      refine lv_iload_n hx hb dX11_changeNow_61 rfl (lv_at hl 2 rfl) ?_
      refine lv_iconst (v := q_I 0) hx hb dX11_changeNow_62 rfl ?_
      refine lv_iload_n hx hb dX11_changeNow_63 rfl (lv_at hl 3 rfl) ?_
      refine lv_iload_n hx hb dX11_changeNow_64 rfl (lv_at hl 4 rfl) ?_
      refine lv_ldc hx hb hown (hts _ ck_RX11_127) dX11_changeNow_65 ?_
      refine lv_iconst (v := q_I (-1)) hx hb dX11_changeNow_67 rfl ?_
      obtain ⟨x14, μ15, hv13, h⟩ := q_b2_some h
      refine q_callV hx hb hml hts hown hK hP hS (As := [.int (q_I a0), .int (q_I 0), .int (q_I a1), .int (q_I a2), .int (q_I ((-100006))), .int (q_I ((-1)))]) (rest := []) (st1 := [.int (q_I x14)]) cv_RX11_128 (c_M_happens l D dA ra0 (q_r 0 rfl) ra1 ra2 (q_r (-100006) rfl) (q_r (-1) rfl) hv13) (Nat.le_of_ble_eq_true rfl) q_kdM_0 rfl ⟨rfl, rfl, Nat.le_of_ble_eq_true rfl, Nat.le_of_ble_eq_true rfl⟩ ⟨Nat.le_refl _, Nat.le_refl _⟩ rfl hl.1 rfl (Nat.le_of_ble_eq_true rfl) rfl (fun _ g => g) dX11_changeNow_68 ?_
      clear hP hS hv13; intro H locs r14 hP hS _
      rw [← hQ]
      exact q_ret2 hx hb hr hlocks hP hS r14 h dX11_changeNow_71
set_option maxHeartbeats 4000000 in
set_option maxRecDepth 100000 in
theorem c_M_change (l : Launch) (D : va_G) (dA : Nat → ClassId) {z sz : Nat} {N : Nat} {a0 : Int} (ra0 : q_R a0) {a1 : Int} (ra1 : q_R a1) {a2 : Int} (ra2 : q_R a2) {μ : q_M} {xo : Int} {μo : q_M} (h : f_M_change N a0 a1 a2 μ = some (xo, μo)) : Met l yX11_change (q_wc yX11_change cX11_change 4 (some .int)) ({ frames := 3, cells := 0, slots := 0, locals := 77 } : Room) (va_Pc [.ref (z + 0), .int (q_I a0), .int (q_I a1), .int (q_I a2)] (q_B (q_P D dA q_kdM q_rhoM 22 z sz μ) D dA)) (q_Q (some (.int (q_I xo))) (q_R xo) (q_P D dA q_kdM q_rhoM 22 z sz μo) (q_A z 22)) 0 0 (q_A z 22) := by
  refine Met.ofW (cc := cX11_change) (maxL := 4) (ret := (some .int)) (by decide) rfl ?_
  intro p e s m args below meth c s₁ B hml hv
  obtain ⟨hargs, hP, hK⟩ := hv
  have hx := B.exec
  have hb := B.bytes
  have hr := B.returns
  have hts : ∀ w ∈ q_W, w.before args s = true := fun w hw => atoms_spec (ws := q_wc yX11_change cX11_change 4 (some .int)) B.pre w (List.mem_cons_of_mem _ hw)
  have hown : s.vm.findClass RX11 = some m.cls := findClass_of_methodNamed B.named
  have hlocks := B.notSynchronized
  have hS : va_S (q_A z 22) s.heap s.heap [] := va_S.rf
  have hA : ∀ k, k < 22 → q_A z 22 (z + k) := fun k hk => ⟨Nat.le_add_right z k, Nat.add_lt_add_left hk z⟩
  have hl := lv_entry [.ref (z + 0), .int (q_I a0), .int (q_I a1), .int (q_I a2)] (n := 4) (Nat.le_of_ble_eq_true rfl)
  refine W.eq (by rw [hargs, lg_entry_eq]) ?_
  generalize (lg_sl [.ref (z + 0), .int (q_I a0), .int (q_I a1), .int (q_I a2)] ++ List.replicate (4 - (lg_sl [.ref (z + 0), .int (q_I a0), .int (q_I a1), .int (q_I a2)]).length) Slot.unset).toArray = ls at hl ⊢
  have hl : lv_has ls 4 [(0, .ref (z + 0)), (1, .int (q_I a0)), (2, .int (q_I a1)), (3, .int (q_I a2))] := hl
  generalize hQ : MQ below _ args s 0 0 _ = Qf
  change W p l e ({ frames := 3, cells := 0, slots := 0, locals := 77 } : Room) s m args below meth c s.heap [] 0 0 Qf (F0 m 0 ls [])
  unfold f_M_change at h
  refine lv_aload_n hx hb dX11_change_0 rfl (lv_at hl 0 rfl) ?_
  refine lv_iload_n hx hb dX11_change_1 rfl (lv_at hl 1 rfl) ?_
  refine lv_iload_n hx hb dX11_change_2 rfl (lv_at hl 2 rfl) ?_
  obtain ⟨x2, hv1, h⟩ := q_b_some h
  refine q_callV hx hb hml hts hown hK hP hS (As := [.int (q_I a0), .int (q_I a1)]) (rest := []) (st1 := [.int (q_I x2)]) cv_RX11_108 (c_M_noStock l D dA ra0 ra1 hv1) (Nat.le_of_ble_eq_true rfl) q_kdM_0 rfl ⟨rfl, rfl, Nat.le_of_ble_eq_true rfl, Nat.le_of_ble_eq_true rfl⟩ ⟨Nat.le_refl _, Nat.le_refl _⟩ rfl hl.1 rfl (Nat.le_of_ble_eq_true rfl) rfl (fun _ g => g) dX11_change_3 ?_
  clear hP hS hv1; intro H locs r2 hP hS _
  refine q_zeq hx hb r2 (tgt := 12) dX11_change_6 (by decide) h ?_ ?_
  · clear h; intro g12 h
    refine lv_iload_n hx hb dX11_change_12 rfl (lv_at hl 3 rfl) ?_
    refine lv_bipush (v := q_I (-100)) hx hb dX11_change_13 (by decide) ?_
    refine lv_bipush (v := q_I 100) hx hb dX11_change_15 (by decide) ?_
    obtain ⟨x4, hv3, h⟩ := q_b_some h
    refine q_callS hx hb hml hts hown hK hP hS (As := [.int (q_I a2), .int (q_I ((-100))), .int (q_I 100)]) (rest := []) (st1 := [.int (q_I x4)]) cs_RX11_99 (c_M_in l D dA ra2 (q_r (-100) rfl) (q_r 100 rfl) hv3) ⟨rfl, rfl, Nat.le_of_ble_eq_true rfl, Nat.le_of_ble_eq_true rfl⟩ ⟨Nat.le_refl _, Nat.le_refl _⟩ rfl hl.1 rfl (Nat.le_of_ble_eq_true rfl) rfl (fun _ g => g) dX11_change_17 ?_
    clear hP hS hv3; intro H locs r4 hP hS _
    refine q_jn_in h (fun J => ∀ (x5 : Int) (μ6 : q_M) (H : Heap) (locs : List Loc) (ls : Array Slot), q_R x5 → q_P D dA q_kdM q_rhoM 22 z sz μ6 H → va_S (q_A z 22) s.heap H locs → lv_has ls 4 [] → J x5 μ6 = some (xo, μo) → W p l e ({ frames := 3, cells := 0, slots := 0, locals := 77 } : Room) s m args below meth c H locs 0 0 Qf (F0 m 39 ls [.int (q_I x5)])) ?_ ?_
    · clear h hl hP hS; intro x5 μ6 H locs ls r5 hP hS hl h
      rw [← hQ]
      exact q_ret2 hx hb hr hlocks hP hS r5 h dX11_change_39
    · clear h; intro j39 hj39 h
      refine q_jn_in h (fun J => ∀ (H : Heap) (locs : List Loc) (ls : Array Slot), q_P D dA q_kdM q_rhoM 22 z sz μ H → va_S (q_A z 22) s.heap H locs → lv_has ls 4 [] → J = some (xo, μo) → W p l e ({ frames := 3, cells := 0, slots := 0, locals := 77 } : Room) s m args below meth c H locs 0 0 Qf (F0 m 37 ls [])) ?_ ?_
      · clear h hl hP hS; intro  H locs ls  hP hS hl h
        refine lv_ldc hx hb hown (hts _ ck_RX11_103) dX11_change_37 ?_
        exact hj39 ((-100002)) μ _ _ _ (q_r (-100002) rfl) hP hS (lv_sub hl [] rfl) h
      · clear h; intro j37 hj37 h
        refine q_zeq hx hb r4 (tgt := 37) dX11_change_20 (by decide) h ?_ ?_
        · clear h; intro g11 h
          exact hj37  _ _ _ hP hS (lv_sub hl [] rfl) h
        · clear h; intro g11 h
          refine lv_iload_n hx hb dX11_change_23 rfl (lv_at hl 3 rfl) ?_
          refine q_zeq hx hb ra2 (tgt := 37) dX11_change_24 (by decide) h ?_ ?_
          · clear h; intro g10 h
            exact hj37  _ _ _ hP hS (lv_sub hl [] rfl) h
          · clear h; intro g10 h
            refine lv_aload_n hx hb dX11_change_27 rfl (lv_at hl 0 rfl) ?_
            refine lv_iload_n hx hb dX11_change_28 rfl (lv_at hl 1 rfl) ?_
            refine lv_iload_n hx hb dX11_change_29 rfl (lv_at hl 2 rfl) ?_
            refine lv_iload_n hx hb dX11_change_30 rfl (lv_at hl 3 rfl) ?_
            obtain ⟨x8, μ9, hv7, h⟩ := q_b2_some h
            refine q_callV hx hb hml hts hown hK hP hS (As := [.int (q_I a0), .int (q_I a1), .int (q_I a2)]) (rest := []) (st1 := [.int (q_I x8)]) cv_RX11_132 (c_M_changeNow l D dA ra0 ra1 ra2 hv7) (Nat.le_of_ble_eq_true rfl) q_kdM_0 rfl ⟨rfl, rfl, Nat.le_of_ble_eq_true rfl, Nat.le_of_ble_eq_true rfl⟩ ⟨Nat.le_refl _, Nat.le_refl _⟩ rfl hl.1 rfl (Nat.le_of_ble_eq_true rfl) rfl (fun _ g => g) dX11_change_31 ?_
            clear hP hS hv7; intro H locs r8 hP hS _
            refine lv_goto (tgt := 39) hx hb dX11_change_34 (by decide) ?_
            exact hj39 x8 μ9 _ _ _ r8 hP hS (lv_sub hl [] rfl) h
  · clear h; intro g12 h
    refine lv_ldc hx hb hown (hts _ ck_RX11_112) dX11_change_9 ?_
    rw [← hQ]
    exact q_ret2 hx hb hr hlocks hP hS (q_r (-100001) rfl) h dX11_change_11
