set_option maxHeartbeats 4000000 in
set_option maxRecDepth 100000 in
theorem c_M_type (l : Launch) (D : va_G) (dA : Nat → ClassId) {z sz : Nat} {a0 : Int} (ra0 : q_R a0) {μ : q_M} {xo : Int} {μo : q_M} (h : f_M_type a0 μ = some (xo, μo)) : Met l yX11_type (q_wc yX11_type cX11_type 2 (some .int)) ({ frames := 0, cells := 0, slots := 0, locals := 0 } : Room) (va_Pc [.ref (z + 0), .int (q_I a0)] (q_B (q_P D dA q_kdM q_rhoM 22 z sz μ) D dA)) (q_Q (some (.int (q_I xo))) (q_R xo) (q_P D dA q_kdM q_rhoM 22 z sz μo) (q_A z 22)) 0 0 (q_A z 22) := by
  refine Met.ofW (cc := cX11_type) (maxL := 2) (ret := (some .int)) (by decide) rfl ?_
  intro p e s m args below meth c s₁ B hml hv
  obtain ⟨hargs, hP, hK⟩ := hv
  have hx := B.exec
  have hb := B.bytes
  have hr := B.returns
  have hts : ∀ w ∈ q_W, w.before args s = true := fun w hw => atoms_spec (ws := q_wc yX11_type cX11_type 2 (some .int)) B.pre w (List.mem_cons_of_mem _ hw)
  have hown : s.vm.findClass RX11 = some m.cls := findClass_of_methodNamed B.named
  have hlocks := B.notSynchronized
  have hS : va_S (q_A z 22) s.heap s.heap [] := va_S.rf
  have hA : ∀ k, k < 22 → q_A z 22 (z + k) := fun k hk => ⟨Nat.le_add_right z k, Nat.add_lt_add_left hk z⟩
  have hl := lv_entry [.ref (z + 0), .int (q_I a0)] (n := 2) (Nat.le_of_ble_eq_true rfl)
  refine W.eq (by rw [hargs, lg_entry_eq]) ?_
  generalize (lg_sl [.ref (z + 0), .int (q_I a0)] ++ List.replicate (2 - (lg_sl [.ref (z + 0), .int (q_I a0)]).length) Slot.unset).toArray = ls at hl ⊢
  have hl : lv_has ls 2 [(0, .ref (z + 0)), (1, .int (q_I a0))] := hl
  generalize hQ : MQ below _ args s 0 0 _ = Qf
  change W p l e ({ frames := 0, cells := 0, slots := 0, locals := 0 } : Room) s m args below meth c s.heap [] 0 0 Qf (F0 m 0 ls [])
  unfold f_M_type at h
  refine lv_aload_n hx hb dX11_type_0 rfl (lv_at hl 0 rfl) ?_
  refine q_getI hx hb hts hown hK hP fd_RX11_187 (Nat.le_of_ble_eq_true rfl) q_kdM_0 rfl dX11_type_1 h ?_
  clear h; intro x1 r1 h
  refine lv_bipush (v := q_I 20) hx hb dX11_type_4 (by decide) ?_
  refine q_cne hx hb r1 (q_r 20 rfl) (tgt := 12) dX11_type_6 (by decide) h ?_ ?_
  · clear h; intro g8 h
    refine lv_ldc hx hb hown (hts _ ck_RX11_126) dX11_type_9 ?_
    rw [← hQ]
    exact q_ret2 hx hb hr hlocks hP hS (q_r (-100005) rfl) h dX11_type_11
  · clear h; intro g8 h
    refine lv_aload_n hx hb dX11_type_12 rfl (lv_at hl 0 rfl) ?_
    refine q_getR hx hb hts hown hK hP fd_RX11_16 (Nat.le_of_ble_eq_true rfl) q_kdM_0 rfl q_rhM_0_5 dX11_type_13 ?_
    refine lv_aload_n hx hb dX11_type_16 rfl (lv_at hl 0 rfl) ?_
    refine q_getI hx hb hts hown hK hP fd_RX11_187 (Nat.le_of_ble_eq_true rfl) q_kdM_0 rfl dX11_type_17 h ?_
    clear h; intro x2 r2 h
    refine lv_iload_n hx hb dX11_type_20 rfl (lv_at hl 1 rfl) ?_
    refine q_cast hx hb hK hP hS hA (Nat.le_of_ble_eq_true rfl) q_kdM_3 r2 ra0 dX11_type_21 h ?_
    clear h hP hS; intro μ3 H locs hP hS h
    refine lv_aload_n hx hb dX11_type_22 rfl (lv_at hl 0 rfl) ?_
    refine lv_dup hx hb dX11_type_23 rfl ?_
    refine q_getI hx hb hts hown hK hP fd_RX11_187 (Nat.le_of_ble_eq_true rfl) q_kdM_0 rfl dX11_type_24 h ?_
    clear h; intro x4 r4 h
    refine lv_iconst (v := q_I 1) hx hb dX11_type_27 rfl ?_
    refine q_iadd hx hb dX11_type_28 h ?_
    clear h; intro x5 r5 h
    refine q_putI hx hb hts hown hK hP hS hA fd_RX11_187 (Nat.le_of_ble_eq_true rfl) q_kdM_0 rfl r5 dX11_type_29 h ?_
    clear h hP hS; intro μ6 H locs hP hS h
    refine lv_aload_n hx hb dX11_type_32 rfl (lv_at hl 0 rfl) ?_
    refine q_getI hx hb hts hown hK hP fd_RX11_187 (Nat.le_of_ble_eq_true rfl) q_kdM_0 rfl dX11_type_33 h ?_
    clear h; intro x7 r7 h
    rw [← hQ]
    exact q_ret2 hx hb hr hlocks hP hS r7 h dX11_type_36
set_option maxHeartbeats 4000000 in
set_option maxRecDepth 100000 in
theorem c_M_clearText (l : Launch) (D : va_G) (dA : Nat → ClassId) {z sz : Nat} {μ : q_M} {xo : Int} {μo : q_M} (h : f_M_clearText μ = some (xo, μo)) : Met l yX11_clearText (q_wc yX11_clearText cX11_clearText 2 (some .int)) ({ frames := 0, cells := 0, slots := 0, locals := 0 } : Room) (va_Pc [.ref (z + 0)] (q_B (q_P D dA q_kdM q_rhoM 22 z sz μ) D dA)) (q_Q (some (.int (q_I xo))) (q_R xo) (q_P D dA q_kdM q_rhoM 22 z sz μo) (q_A z 22)) 0 0 (q_A z 22) := by
  refine Met.ofW (cc := cX11_clearText) (maxL := 2) (ret := (some .int)) (by decide) rfl ?_
  intro p e s m args below meth c s₁ B hml hv
  obtain ⟨hargs, hP, hK⟩ := hv
  have hx := B.exec
  have hb := B.bytes
  have hr := B.returns
  have hts : ∀ w ∈ q_W, w.before args s = true := fun w hw => atoms_spec (ws := q_wc yX11_clearText cX11_clearText 2 (some .int)) B.pre w (List.mem_cons_of_mem _ hw)
  have hown : s.vm.findClass RX11 = some m.cls := findClass_of_methodNamed B.named
  have hlocks := B.notSynchronized
  have hS : va_S (q_A z 22) s.heap s.heap [] := va_S.rf
  have hA : ∀ k, k < 22 → q_A z 22 (z + k) := fun k hk => ⟨Nat.le_add_right z k, Nat.add_lt_add_left hk z⟩
  have hl := lv_entry [.ref (z + 0)] (n := 2) (Nat.le_of_ble_eq_true rfl)
  refine W.eq (by rw [hargs, lg_entry_eq]) ?_
  generalize (lg_sl [.ref (z + 0)] ++ List.replicate (2 - (lg_sl [.ref (z + 0)]).length) Slot.unset).toArray = ls at hl ⊢
  have hl : lv_has ls 2 [(0, .ref (z + 0))] := hl
  generalize hQ : MQ below _ args s 0 0 _ = Qf
  change W p l e ({ frames := 0, cells := 0, slots := 0, locals := 0 } : Room) s m args below meth c s.heap [] 0 0 Qf (F0 m 0 ls [])
  unfold f_M_clearText at h
  refine lv_aload_n hx hb dX11_clearText_0 rfl (lv_at hl 0 rfl) ?_
  refine q_getI hx hb hts hown hK hP fd_RX11_187 (Nat.le_of_ble_eq_true rfl) q_kdM_0 rfl dX11_clearText_1 h ?_
  clear h; intro x1 r1 h
  refine lv_istore_n (lv' := [(1, .int (q_I x1)), (0, .ref (z + 0))]) hx hb dX11_clearText_4 rfl hl (by decide) rfl ?_
  clear hl; intro ls hl
  refine lv_aload_n hx hb dX11_clearText_5 rfl (lv_at hl 1 rfl) ?_
  refine lv_iconst (v := q_I 0) hx hb dX11_clearText_6 rfl ?_
  refine q_putI hx hb hts hown hK hP hS hA fd_RX11_187 (Nat.le_of_ble_eq_true rfl) q_kdM_0 rfl (q_r 0 rfl) dX11_clearText_7 h ?_
  clear h hP hS; intro μ2 H locs hP hS h
  refine lv_iload_n hx hb dX11_clearText_10 rfl (lv_at hl 0 rfl) ?_
  rw [← hQ]
  exact q_ret2 hx hb hr hlocks hP hS r1 h dX11_clearText_11
set_option maxHeartbeats 4000000 in
set_option maxRecDepth 100000 in
theorem c_M_isAt (l : Launch) (D : va_G) (dA : Nat → ClassId) {z sz : Nat} {a0 : Int} (ra0 : q_R a0) {a1 : Int} (ra1 : q_R a1) {μ : q_M} {xo : Int} (h : f_M_isAt a0 a1 μ = some xo) : Met l yX11_isAt (q_wc yX11_isAt cX11_isAt 3 (some .boolean)) ({ frames := 0, cells := 0, slots := 0, locals := 0 } : Room) (va_Pc [.ref (z + 0), .int (q_I a0), .int (q_I a1)] (q_B (q_P D dA q_kdM q_rhoM 22 z sz μ) D dA)) (q_Q (some (.int (q_I xo))) (q_R xo) (q_P D dA q_kdM q_rhoM 22 z sz μ) (q_A z 22)) 0 0 (q_A z 22) := by
  refine Met.ofW (cc := cX11_isAt) (maxL := 3) (ret := (some .boolean)) (by decide) rfl ?_
  intro p e s m args below meth c s₁ B hml hv
  obtain ⟨hargs, hP, hK⟩ := hv
  have hx := B.exec
  have hb := B.bytes
  have hr := B.returns
  have hts : ∀ w ∈ q_W, w.before args s = true := fun w hw => atoms_spec (ws := q_wc yX11_isAt cX11_isAt 3 (some .boolean)) B.pre w (List.mem_cons_of_mem _ hw)
  have hown : s.vm.findClass RX11 = some m.cls := findClass_of_methodNamed B.named
  have hlocks := B.notSynchronized
  have hS : va_S (q_A z 22) s.heap s.heap [] := va_S.rf
  have hA : ∀ k, k < 22 → q_A z 22 (z + k) := fun k hk => ⟨Nat.le_add_right z k, Nat.add_lt_add_left hk z⟩
  have hl := lv_entry [.ref (z + 0), .int (q_I a0), .int (q_I a1)] (n := 3) (Nat.le_of_ble_eq_true rfl)
  refine W.eq (by rw [hargs, lg_entry_eq]) ?_
  generalize (lg_sl [.ref (z + 0), .int (q_I a0), .int (q_I a1)] ++ List.replicate (3 - (lg_sl [.ref (z + 0), .int (q_I a0), .int (q_I a1)]).length) Slot.unset).toArray = ls at hl ⊢
  have hl : lv_has ls 3 [(0, .ref (z + 0)), (1, .int (q_I a0)), (2, .int (q_I a1))] := hl
  generalize hQ : MQ below _ args s 0 0 _ = Qf
  change W p l e ({ frames := 0, cells := 0, slots := 0, locals := 0 } : Room) s m args below meth c s.heap [] 0 0 Qf (F0 m 0 ls [])
  unfold f_M_isAt at h
  refine lv_iload_n hx hb dX11_isAt_0 rfl (lv_at hl 1 rfl) ?_
  refine lv_aload_n hx hb dX11_isAt_1 rfl (lv_at hl 0 rfl) ?_
  refine q_getI hx hb hts hown hK hP fd_RX11_187 (Nat.le_of_ble_eq_true rfl) q_kdM_0 rfl dX11_isAt_2 h ?_
  clear h; intro x1 r1 h
  refine q_jn_in h (fun J => ∀ (x2 : Int) (H : Heap) (locs : List Loc) (ls : Array Slot), q_R x2 → q_P D dA q_kdM q_rhoM 22 z sz μ H → va_S (q_A z 22) s.heap H locs → lv_has ls 3 [] → J x2 = some xo → W p l e ({ frames := 0, cells := 0, slots := 0, locals := 0 } : Room) s m args below meth c H locs 0 0 Qf (F0 m 23 ls [.int (q_I x2)])) ?_ ?_
  · clear h hl hP hS; intro x2 H locs ls r2 hP hS hl h
    rw [← hQ]
    obtain ⟨hz, h⟩ := q_rz_some h
    exact q_retz1 hx hb hr hlocks hP hS hz h dX11_isAt_23
  · clear h; intro j23 hj23 h
    refine q_jn_in h (fun J => ∀ (H : Heap) (locs : List Loc) (ls : Array Slot), q_P D dA q_kdM q_rhoM 22 z sz μ H → va_S (q_A z 22) s.heap H locs → lv_has ls 3 [] → J = some xo → W p l e ({ frames := 0, cells := 0, slots := 0, locals := 0 } : Room) s m args below meth c H locs 0 0 Qf (F0 m 22 ls [])) ?_ ?_
    · clear h hl hP hS; intro  H locs ls  hP hS hl h
      refine lv_iconst (v := q_I 0) hx hb dX11_isAt_22 rfl ?_
      exact hj23 0 _ _ _ (q_r 0 rfl) hP hS (lv_sub hl [] rfl) h
    · clear h; intro j22 hj22 h
      refine q_cge hx hb ra0 r1 (tgt := 22) dX11_isAt_5 (by decide) h ?_ ?_
      · clear h; intro g5 h
        exact hj22  _ _ _ hP hS (lv_sub hl [] rfl) h
      · clear h; intro g5 h
        refine lv_aload_n hx hb dX11_isAt_8 rfl (lv_at hl 0 rfl) ?_
        refine q_getR hx hb hts hown hK hP fd_RX11_16 (Nat.le_of_ble_eq_true rfl) q_kdM_0 rfl q_rhM_0_5 dX11_isAt_9 ?_
        refine lv_iload_n hx hb dX11_isAt_12 rfl (lv_at hl 1 rfl) ?_
        refine q_cald hx hb hK hP (Nat.le_of_ble_eq_true rfl) q_kdM_3 ra0 dX11_isAt_13 h ?_
        clear h; intro x3 r3 h
        refine lv_iload_n hx hb dX11_isAt_14 rfl (lv_at hl 2 rfl) ?_
        refine q_cne hx hb r3 ra1 (tgt := 22) dX11_isAt_15 (by decide) h ?_ ?_
        · clear h; intro g4 h
          refine lv_iconst (v := q_I 1) hx hb dX11_isAt_18 rfl ?_
          refine lv_goto (tgt := 23) hx hb dX11_isAt_19 (by decide) ?_
          exact hj23 1 _ _ _ (q_r 1 rfl) hP hS (lv_sub hl [] rfl) h
        · clear h; intro g4 h
          exact hj22  _ _ _ hP hS (lv_sub hl [] rfl) h
set_option maxHeartbeats 4000000 in
set_option maxRecDepth 100000 in
theorem c_M_isDigitAt (l : Launch) (D : va_G) (dA : Nat → ClassId) {z sz : Nat} {a0 : Int} (ra0 : q_R a0) {μ : q_M} {xo : Int} (h : f_M_isDigitAt a0 μ = some xo) : Met l yX11_isDigitAt (q_wc yX11_isDigitAt cX11_isDigitAt 2 (some .boolean)) ({ frames := 0, cells := 0, slots := 0, locals := 0 } : Room) (va_Pc [.ref (z + 0), .int (q_I a0)] (q_B (q_P D dA q_kdM q_rhoM 22 z sz μ) D dA)) (q_Q (some (.int (q_I xo))) (q_R xo) (q_P D dA q_kdM q_rhoM 22 z sz μ) (q_A z 22)) 0 0 (q_A z 22) := by
  refine Met.ofW (cc := cX11_isDigitAt) (maxL := 2) (ret := (some .boolean)) (by decide) rfl ?_
  intro p e s m args below meth c s₁ B hml hv
  obtain ⟨hargs, hP, hK⟩ := hv
  have hx := B.exec
  have hb := B.bytes
  have hr := B.returns
  have hts : ∀ w ∈ q_W, w.before args s = true := fun w hw => atoms_spec (ws := q_wc yX11_isDigitAt cX11_isDigitAt 2 (some .boolean)) B.pre w (List.mem_cons_of_mem _ hw)
  have hown : s.vm.findClass RX11 = some m.cls := findClass_of_methodNamed B.named
  have hlocks := B.notSynchronized
  have hS : va_S (q_A z 22) s.heap s.heap [] := va_S.rf
  have hA : ∀ k, k < 22 → q_A z 22 (z + k) := fun k hk => ⟨Nat.le_add_right z k, Nat.add_lt_add_left hk z⟩
  have hl := lv_entry [.ref (z + 0), .int (q_I a0)] (n := 2) (Nat.le_of_ble_eq_true rfl)
  refine W.eq (by rw [hargs, lg_entry_eq]) ?_
  generalize (lg_sl [.ref (z + 0), .int (q_I a0)] ++ List.replicate (2 - (lg_sl [.ref (z + 0), .int (q_I a0)]).length) Slot.unset).toArray = ls at hl ⊢
  have hl : lv_has ls 2 [(0, .ref (z + 0)), (1, .int (q_I a0))] := hl
  generalize hQ : MQ below _ args s 0 0 _ = Qf
  change W p l e ({ frames := 0, cells := 0, slots := 0, locals := 0 } : Room) s m args below meth c s.heap [] 0 0 Qf (F0 m 0 ls [])
  unfold f_M_isDigitAt at h
  refine lv_iload_n hx hb dX11_isDigitAt_0 rfl (lv_at hl 1 rfl) ?_
  refine lv_aload_n hx hb dX11_isDigitAt_1 rfl (lv_at hl 0 rfl) ?_
  refine q_getI hx hb hts hown hK hP fd_RX11_187 (Nat.le_of_ble_eq_true rfl) q_kdM_0 rfl dX11_isDigitAt_2 h ?_
  clear h; intro x1 r1 h
  refine q_jn_in h (fun J => ∀ (x2 : Int) (H : Heap) (locs : List Loc) (ls : Array Slot), q_R x2 → q_P D dA q_kdM q_rhoM 22 z sz μ H → va_S (q_A z 22) s.heap H locs → lv_has ls 2 [] → J x2 = some xo → W p l e ({ frames := 0, cells := 0, slots := 0, locals := 0 } : Room) s m args below meth c H locs 0 0 Qf (F0 m 35 ls [.int (q_I x2)])) ?_ ?_
  · clear h hl hP hS; intro x2 H locs ls r2 hP hS hl h
    rw [← hQ]
    obtain ⟨hz, h⟩ := q_rz_some h
    exact q_retz1 hx hb hr hlocks hP hS hz h dX11_isDigitAt_35
  · clear h; intro j35 hj35 h
    refine q_jn_in h (fun J => ∀ (H : Heap) (locs : List Loc) (ls : Array Slot), q_P D dA q_kdM q_rhoM 22 z sz μ H → va_S (q_A z 22) s.heap H locs → lv_has ls 2 [] → J = some xo → W p l e ({ frames := 0, cells := 0, slots := 0, locals := 0 } : Room) s m args below meth c H locs 0 0 Qf (F0 m 34 ls [])) ?_ ?_
    · clear h hl hP hS; intro  H locs ls  hP hS hl h
      refine lv_iconst (v := q_I 0) hx hb dX11_isDigitAt_34 rfl ?_
      exact hj35 0 _ _ _ (q_r 0 rfl) hP hS (lv_sub hl [] rfl) h
    · clear h; intro j34 hj34 h
      refine q_cge hx hb ra0 r1 (tgt := 34) dX11_isDigitAt_5 (by decide) h ?_ ?_
      · clear h; intro g7 h
        exact hj34  _ _ _ hP hS (lv_sub hl [] rfl) h
      · clear h; intro g7 h
        refine lv_aload_n hx hb dX11_isDigitAt_8 rfl (lv_at hl 0 rfl) ?_
        refine q_getR hx hb hts hown hK hP fd_RX11_16 (Nat.le_of_ble_eq_true rfl) q_kdM_0 rfl q_rhM_0_5 dX11_isDigitAt_9 ?_
        refine lv_iload_n hx hb dX11_isDigitAt_12 rfl (lv_at hl 1 rfl) ?_
        refine q_cald hx hb hK hP (Nat.le_of_ble_eq_true rfl) q_kdM_3 ra0 dX11_isDigitAt_13 h ?_
        clear h; intro x3 r3 h
        refine lv_bipush (v := q_I 48) hx hb dX11_isDigitAt_14 (by decide) ?_
        refine q_clt hx hb r3 (q_r 48 rfl) (tgt := 34) dX11_isDigitAt_16 (by decide) h ?_ ?_
        · clear h; intro g6 h
          exact hj34  _ _ _ hP hS (lv_sub hl [] rfl) h
        · clear h; intro g6 h
          refine lv_aload_n hx hb dX11_isDigitAt_19 rfl (lv_at hl 0 rfl) ?_
          refine q_getR hx hb hts hown hK hP fd_RX11_16 (Nat.le_of_ble_eq_true rfl) q_kdM_0 rfl q_rhM_0_5 dX11_isDigitAt_20 ?_
          refine lv_iload_n hx hb dX11_isDigitAt_23 rfl (lv_at hl 1 rfl) ?_
          refine q_cald hx hb hK hP (Nat.le_of_ble_eq_true rfl) q_kdM_3 ra0 dX11_isDigitAt_24 h ?_
          clear h; intro x4 r4 h
          refine lv_bipush (v := q_I 57) hx hb dX11_isDigitAt_25 (by decide) ?_
          refine q_cgt hx hb r4 (q_r 57 rfl) (tgt := 34) dX11_isDigitAt_27 (by decide) h ?_ ?_
          · clear h; intro g5 h
            exact hj34  _ _ _ hP hS (lv_sub hl [] rfl) h
          · clear h; intro g5 h
            refine lv_iconst (v := q_I 1) hx hb dX11_isDigitAt_30 rfl ?_
            refine lv_goto (tgt := 35) hx hb dX11_isDigitAt_31 (by decide) ?_
            exact hj35 1 _ _ _ (q_r 1 rfl) hP hS (lv_sub hl [] rfl) h
set_option maxHeartbeats 4000000 in
set_option maxRecDepth 100000 in
theorem c_M_addRule (l : Launch) (D : va_G) (dA : Nat → ClassId) {z sz : Nat} {N : Nat} {μ : q_M} {xo : Int} {μo : q_M} (h : f_M_addRule N μ = some (xo, μo)) : Met l yX11_addRule (q_wc yX11_addRule cX11_addRule 6 (some .int)) ({ frames := 1, cells := 0, slots := 0, locals := 22 } : Room) (va_Pc [.ref (z + 0)] (q_B (q_P D dA q_kdM q_rhoM 22 z sz μ) D dA)) (q_Q (some (.int (q_I xo))) (q_R xo) (q_P D dA q_kdM q_rhoM 22 z sz μo) (q_A z 22)) 0 0 (q_A z 22) := by
  refine Met.ofW (cc := cX11_addRule) (maxL := 6) (ret := (some .int)) (by decide) rfl ?_
  intro p e s m args below meth c s₁ B hml hv
  obtain ⟨hargs, hP, hK⟩ := hv
  have hx := B.exec
  have hb := B.bytes
  have hr := B.returns
  have hts : ∀ w ∈ q_W, w.before args s = true := fun w hw => atoms_spec (ws := q_wc yX11_addRule cX11_addRule 6 (some .int)) B.pre w (List.mem_cons_of_mem _ hw)
  have hown : s.vm.findClass RX11 = some m.cls := findClass_of_methodNamed B.named
  have hlocks := B.notSynchronized
  have hS : va_S (q_A z 22) s.heap s.heap [] := va_S.rf
  have hA : ∀ k, k < 22 → q_A z 22 (z + k) := fun k hk => ⟨Nat.le_add_right z k, Nat.add_lt_add_left hk z⟩
  have hl := lv_entry [.ref (z + 0)] (n := 6) (Nat.le_of_ble_eq_true rfl)
  refine W.eq (by rw [hargs, lg_entry_eq]) ?_
  generalize (lg_sl [.ref (z + 0)] ++ List.replicate (6 - (lg_sl [.ref (z + 0)]).length) Slot.unset).toArray = ls at hl ⊢
  have hl : lv_has ls 6 [(0, .ref (z + 0))] := hl
  generalize hQ : MQ below _ args s 0 0 _ = Qf
  change W p l e ({ frames := 1, cells := 0, slots := 0, locals := 22 } : Room) s m args below meth c s.heap [] 0 0 Qf (F0 m 0 ls [])
  unfold f_M_addRule at h
  refine lv_aload_n hx hb dX11_addRule_0 rfl (lv_at hl 0 rfl) ?_
  refine lv_iconst (v := q_I 0) hx hb dX11_addRule_1 rfl ?_
  obtain ⟨x2, hv1, h⟩ := q_b_some h
  refine q_callV hx hb hml hts hown hK hP hS (As := [.int (q_I 0)]) (rest := []) (st1 := [.int (q_I x2)]) cv_RX11_190 (c_M_isDigitAt l D dA (q_r 0 rfl) hv1) (Nat.le_of_ble_eq_true rfl) q_kdM_0 rfl ⟨rfl, rfl, Nat.le_of_ble_eq_true rfl, Nat.le_of_ble_eq_true rfl⟩ ⟨Nat.le_refl _, Nat.le_refl _⟩ rfl hl.1 rfl (Nat.le_of_ble_eq_true rfl) rfl (fun _ g => g) dX11_addRule_2 ?_
  clear hP hS hv1; intro H locs r2 hP hS _
  refine q_jn_in h (fun J => ∀ (x3 : Int) (H : Heap) (locs : List Loc) (ls : Array Slot), q_R x3 → q_P D dA q_kdM q_rhoM 22 z sz μ H → va_S (q_A z 22) s.heap H locs → lv_has ls 6 [(0, .ref (z + 0))] → J x3 = some (xo, μo) → W p l e ({ frames := 1, cells := 0, slots := 0, locals := 22 } : Room) s m args below meth c H locs 0 0 Qf (F0 m 29 ls [.int (q_I x3)])) ?_ ?_
  · clear h hl hP hS; intro x3 H locs ls r3 hP hS hl h
    refine lv_istore_n (lv' := [(1, .int (q_I x3)), (0, .ref (z + 0))]) hx hb dX11_addRule_29 rfl hl (by decide) rfl ?_
    clear hl; intro ls hl
    refine lv_iload_n hx hb dX11_addRule_30 rfl (lv_at hl 0 rfl) ?_
    refine q_jn_in h (fun J => ∀ (H : Heap) (locs : List Loc) (ls : Array Slot), q_P D dA q_kdM q_rhoM 22 z sz μ H → va_S (q_A z 22) s.heap H locs → lv_has ls 6 [(0, .ref (z + 0)), (1, .int (q_I x3))] → J = some (xo, μo) → W p l e ({ frames := 1, cells := 0, slots := 0, locals := 22 } : Room) s m args below meth c H locs 0 0 Qf (F0 m 57 ls [])) ?_ ?_
    · clear h hl hP hS; intro  H locs ls  hP hS hl h
      refine lv_aload_n hx hb dX11_addRule_57 rfl (lv_at hl 0 rfl) ?_
      refine lv_iconst (v := q_I 1) hx hb dX11_addRule_58 rfl ?_
      refine lv_bipush (v := q_I 97) hx hb dX11_addRule_59 (by decide) ?_
      obtain ⟨x5, hv4, h⟩ := q_b_some h
      refine q_callV hx hb hml hts hown hK hP hS (As := [.int (q_I 1), .int (q_I 97)]) (rest := []) (st1 := [.int (q_I x5)]) cv_RX11_193 (c_M_isAt l D dA (q_r 1 rfl) (q_r 97 rfl) hv4) (Nat.le_of_ble_eq_true rfl) q_kdM_0 rfl ⟨rfl, rfl, Nat.le_of_ble_eq_true rfl, Nat.le_of_ble_eq_true rfl⟩ ⟨Nat.le_refl _, Nat.le_refl _⟩ rfl hl.1 rfl (Nat.le_of_ble_eq_true rfl) rfl (fun _ g => g) dX11_addRule_61 ?_
      clear hP hS hv4; intro H locs r5 hP hS _
      refine q_jn_in h (fun J => ∀ (H : Heap) (locs : List Loc) (ls : Array Slot), q_P D dA q_kdM q_rhoM 22 z sz μ H → va_S (q_A z 22) s.heap H locs → lv_has ls 6 [(0, .ref (z + 0)), (1, .int (q_I x3))] → J = some (xo, μo) → W p l e ({ frames := 1, cells := 0, slots := 0, locals := 22 } : Room) s m args below meth c H locs 0 0 Qf (F0 m 80 ls [])) ?_ ?_
      · clear h hl hP hS; intro  H locs ls  hP hS hl h
        refine lv_iconst (v := q_I 2) hx hb dX11_addRule_80 rfl ?_
        refine lv_istore_n (lv' := [(2, .int (q_I 2)), (0, .ref (z + 0)), (1, .int (q_I x3))]) hx hb dX11_addRule_81 rfl hl (by decide) rfl ?_
        clear hl; intro ls hl
        refine lv_aload_n hx hb dX11_addRule_82 rfl (lv_at hl 1 rfl) ?_
        refine lv_iconst (v := q_I 2) hx hb dX11_addRule_83 rfl ?_
        refine lv_bipush (v := q_I 60) hx hb dX11_addRule_84 (by decide) ?_
        obtain ⟨x7, hv6, h⟩ := q_b_some h
        refine q_callV hx hb hml hts hown hK hP hS (As := [.int (q_I 2), .int (q_I 60)]) (rest := []) (st1 := [.int (q_I x7)]) cv_RX11_193 (c_M_isAt l D dA (q_r 2 rfl) (q_r 60 rfl) hv6) (Nat.le_of_ble_eq_true rfl) q_kdM_0 rfl ⟨rfl, rfl, Nat.le_of_ble_eq_true rfl, Nat.le_of_ble_eq_true rfl⟩ ⟨Nat.le_refl _, Nat.le_refl _⟩ rfl hl.1 rfl (Nat.le_of_ble_eq_true rfl) rfl (fun _ g => g) dX11_addRule_86 ?_
        clear hP hS hv6; intro H locs r7 hP hS _
        refine q_jn_in h (fun J => ∀ (x8 : Int) (H : Heap) (locs : List Loc) (ls : Array Slot), q_R x8 → q_P D dA q_kdM q_rhoM 22 z sz μ H → va_S (q_A z 22) s.heap H locs → lv_has ls 6 [(0, .ref (z + 0)), (1, .int (q_I x3)), (2, .int (q_I 2))] → J x8 = some (xo, μo) → W p l e ({ frames := 1, cells := 0, slots := 0, locals := 22 } : Room) s m args below meth c H locs 0 0 Qf (F0 m 107 ls [.int (q_I x8)])) ?_ ?_
        · clear h hl hP hS; intro x8 H locs ls r8 hP hS hl h
          refine lv_istore_n (lv' := [(3, .int (q_I x8)), (0, .ref (z + 0)), (1, .int (q_I x3)), (2, .int (q_I 2))]) hx hb dX11_addRule_107 rfl hl (by decide) rfl ?_
          clear hl; intro ls hl
          refine lv_iload_n hx hb dX11_addRule_108 rfl (lv_at hl 3 rfl) ?_
          refine lv_iload_n hx hb dX11_addRule_109 rfl (lv_at hl 0 rfl) ?_
          refine q_jn_in h (fun J => ∀ (x9 : Int) (H : Heap) (locs : List Loc) (ls : Array Slot), q_R x9 → q_P D dA q_kdM q_rhoM 22 z sz μ H → va_S (q_A z 22) s.heap H locs → lv_has ls 6 [(0, .ref (z + 0)), (1, .int (q_I x3))] → J x9 = some (xo, μo) → W p l e ({ frames := 1, cells := 0, slots := 0, locals := 22 } : Room) s m args below meth c H locs 0 0 Qf (F0 m 118 ls [.int (q_I x9), .int (q_I 2)])) ?_ ?_
          · clear h hl hP hS; intro x9 H locs ls r9 hP hS hl h
            refine q_iadd hx hb dX11_addRule_118 h ?_
            clear h; intro x10 r10 h
            refine lv_istore_n (lv' := [(2, .int (q_I x10)), (0, .ref (z + 0)), (1, .int (q_I x3))]) hx hb dX11_addRule_119 rfl hl (by decide) rfl ?_
            clear hl; intro ls hl
            refine lv_aload_n hx hb dX11_addRule_120 rfl (lv_at hl 1 rfl) ?_
            refine lv_iload_n hx hb dX11_addRule_121 rfl (lv_at hl 0 rfl) ?_
            refine lv_bipush (v := q_I 61) hx hb dX11_addRule_122 (by decide) ?_
            obtain ⟨x12, hv11, h⟩ := q_b_some h
            refine q_callV hx hb hml hts hown hK hP hS (As := [.int (q_I x10), .int (q_I 61)]) (rest := []) (st1 := [.int (q_I x12)]) cv_RX11_193 (c_M_isAt l D dA r10 (q_r 61 rfl) hv11) (Nat.le_of_ble_eq_true rfl) q_kdM_0 rfl ⟨rfl, rfl, Nat.le_of_ble_eq_true rfl, Nat.le_of_ble_eq_true rfl⟩ ⟨Nat.le_refl _, Nat.le_refl _⟩ rfl hl.1 rfl (Nat.le_of_ble_eq_true rfl) rfl (fun _ g => g) dX11_addRule_124 ?_
            clear hP hS hv11; intro H locs r12 hP hS _
            refine q_zne hx hb r12 (tgt := 135) dX11_addRule_127 (by decide) h ?_ ?_
            · clear h; intro g63 h
              refine lv_bipush (v := q_I (-100)) hx hb dX11_addRule_130 (by decide) ?_
              refine lv_iload_n hx hb dX11_addRule_132 rfl (lv_at hl 0 rfl) ?_
              refine q_isub hx hb dX11_addRule_133 h ?_
              clear h; intro x62 r62 h
              rw [← hQ]
              exact q_ret2 hx hb hr hlocks hP hS r62 h dX11_addRule_134
            · clear h; intro g63 h
              refine q_iinc (k := 0) (lv' := fun t => [(2, .int (q_I t)), (0, .ref (z + 0)), (1, .int (q_I x3))]) hx hb dX11_addRule_135 hl rfl (by decide) (fun _ => rfl) h ?_
              clear h hl; intro x13 ls r13 hl h
              refine lv_iconst (v := q_I 0) hx hb dX11_addRule_138 rfl ?_
              refine lv_istore (lv' := [(4, .int (q_I 0)), (2, .int (q_I x13)), (0, .ref (z + 0)), (1, .int (q_I x3))]) hx hb dX11_addRule_139 hl (by decide) rfl ?_
              clear hl; intro ls hl
              refine lv_iconst (v := q_I 0) hx hb dX11_addRule_141 rfl ?_
              refine lv_istore (lv' := [(5, .int (q_I 0)), (4, .int (q_I 0)), (2, .int (q_I x13)), (0, .ref (z + 0)), (1, .int (q_I x3))]) hx hb dX11_addRule_142 hl (by decide) rfl ?_
              clear hl; intro ls hl
              have L144 : ∀ (k184 : Int → Int → Int → Option (Int × q_M)), (∀ (x17 : Int) (x18 : Int) (x19 : Int) (H : Heap) (locs : List Loc) (ls : Array Slot), q_R x17 → q_R x18 → q_R x19 → q_P D dA q_kdM q_rhoM 22 z sz μ H → va_S (q_A z 22) s.heap H locs → lv_has ls 6 [(0, .ref (z + 0)), (1, .int (q_I x3)), (2, .int (q_I x17)), (4, .int (q_I x18)), (5, .int (q_I x19))] → k184 x17 x18 x19 = some (xo, μo) → W p l e ({ frames := 1, cells := 0, slots := 0, locals := 22 } : Room) s m args below meth c H locs 0 0 Qf (F0 m 184 ls [])) → ∀ (nf144 : Nat) (x14 : Int) (x15 : Int) (x16 : Int) (H : Heap) (locs : List Loc) (ls : Array Slot), q_R x14 → q_R x15 → q_R x16 → q_P D dA q_kdM q_rhoM 22 z sz μ H → va_S (q_A z 22) s.heap H locs → lv_has ls 6 [(0, .ref (z + 0)), (1, .int (q_I x3)), (2, .int (q_I x14)), (4, .int (q_I x15)), (5, .int (q_I x16))] → f_M_addRule_L144 μ k184 nf144 x14 x15 x16 = some (xo, μo) → W p l e ({ frames := 1, cells := 0, slots := 0, locals := 22 } : Room) s m args below meth c H locs 0 0 Qf (F0 m 144 ls []) := by
                clear h hl hP hS
                intro k184 hk184 nf144
                induction nf144 with
                | zero =>
                  intro x14 x15 x16 H locs ls r14 r15 r16 hP hS hl h
                  rw [f_M_addRule_L144] at h
                  cases h
                | succ nf144 ih144 =>
                  intro x14 x15 x16 H locs ls r14 r15 r16 hP hS hl h
                  rw [f_M_addRule_L144] at h
                  refine lv_iload hx hb dX11_addRule_144 (lv_at hl 3 rfl) ?_
                  refine lv_iconst (v := q_I 4) hx hb dX11_addRule_146 rfl ?_
                  refine q_cge hx hb r15 (q_r 4 rfl) (tgt := 184) dX11_addRule_147 (by decide) h ?_ ?_
                  · clear h; intro g29 h
                    exact hk184 x14 x15 x16 _ _ _ r14 r15 r16 hP hS (lv_sub hl [0, 1, 2, 3, 4] rfl) h
                  · clear h; intro g29 h
                    refine lv_aload_n hx hb dX11_addRule_150 rfl (lv_at hl 0 rfl) ?_
                    refine lv_iload_n hx hb dX11_addRule_151 rfl (lv_at hl 2 rfl) ?_
                    obtain ⟨x21, hv20, h⟩ := q_b_some h
                    refine q_callV hx hb hml hts hown hK hP hS (As := [.int (q_I x14)]) (rest := []) (st1 := [.int (q_I x21)]) cv_RX11_190 (c_M_isDigitAt l D dA r14 hv20) (Nat.le_of_ble_eq_true rfl) q_kdM_0 rfl ⟨rfl, rfl, Nat.le_of_ble_eq_true rfl, Nat.le_of_ble_eq_true rfl⟩ ⟨Nat.le_refl _, Nat.le_refl _⟩ rfl hl.1 rfl (Nat.le_of_ble_eq_true rfl) rfl (fun _ g => g) dX11_addRule_152 ?_
                    clear hP hS hv20; intro H locs r21 hP hS _
                    refine q_zeq hx hb r21 (tgt := 184) dX11_addRule_155 (by decide) h ?_ ?_
                    · clear h; intro g28 h
                      exact hk184 x14 x15 x16 _ _ _ r14 r15 r16 hP hS (lv_sub hl [0, 1, 2, 3, 4] rfl) h
                    · clear h; intro g28 h
                      refine lv_bipush (v := q_I 10) hx hb dX11_addRule_158 (by decide) ?_
                      refine lv_iload hx hb dX11_addRule_160 (lv_at hl 4 rfl) ?_
                      refine q_imul hx hb dX11_addRule_162 h ?_
                      clear h; intro x22 r22 h
                      refine lv_aload_n hx hb dX11_addRule_163 rfl (lv_at hl 0 rfl) ?_
                      refine q_getR hx hb hts hown hK hP fd_RX11_16 (Nat.le_of_ble_eq_true rfl) q_kdM_0 rfl q_rhM_0_5 dX11_addRule_164 ?_
                      refine lv_iload_n hx hb dX11_addRule_167 rfl (lv_at hl 2 rfl) ?_
                      refine q_cald hx hb hK hP (Nat.le_of_ble_eq_true rfl) q_kdM_3 r14 dX11_addRule_168 h ?_
                      clear h; intro x23 r23 h
                      refine q_iadd hx hb dX11_addRule_169 h ?_
                      clear h; intro x24 r24 h
                      refine lv_bipush (v := q_I 48) hx hb dX11_addRule_170 (by decide) ?_
                      refine q_isub hx hb dX11_addRule_172 h ?_
                      clear h; intro x25 r25 h
                      refine lv_istore (lv' := [(5, .int (q_I x25)), (0, .ref (z + 0)), (1, .int (q_I x3)), (2, .int (q_I x14)), (4, .int (q_I x15))]) hx hb dX11_addRule_173 hl (by decide) rfl ?_
                      clear hl; intro ls hl
                      refine q_iinc (k := 3) (lv' := fun t => [(2, .int (q_I t)), (5, .int (q_I x25)), (0, .ref (z + 0)), (1, .int (q_I x3)), (4, .int (q_I x15))]) hx hb dX11_addRule_175 hl rfl (by decide) (fun _ => rfl) h ?_
                      clear h hl; intro x26 ls r26 hl h
                      refine q_iinc (k := 4) (lv' := fun t => [(4, .int (q_I t)), (2, .int (q_I x26)), (5, .int (q_I x25)), (0, .ref (z + 0)), (1, .int (q_I x3))]) hx hb dX11_addRule_178 hl rfl (by decide) (fun _ => rfl) h ?_
                      clear h hl; intro x27 ls r27 hl h
                      refine lv_goto (tgt := 144) hx hb dX11_addRule_181 (by decide) ?_
                      exact ih144 x26 x27 x25 _ _ _ r26 r27 r25 hP hS (lv_sub hl [3, 4, 1, 0, 2] rfl) h
              refine L144 _ ?_  _ x13 0 0 _ _ _ r13 (q_r 0 rfl) (q_r 0 rfl) hP hS (lv_sub hl [3, 4, 2, 1, 0] rfl) h
              · clear h hl hP hS; intro x17 x18 x19 H locs ls r17 r18 r19 hP hS hl h
                refine lv_iload hx hb dX11_addRule_184 (lv_at hl 3 rfl) ?_
                refine q_jn_in h (fun J => ∀ (H : Heap) (locs : List Loc) (ls : Array Slot), q_P D dA q_kdM q_rhoM 22 z sz μ H → va_S (q_A z 22) s.heap H locs → lv_has ls 6 [(2, .int (q_I x17))] → J = some (xo, μo) → W p l e ({ frames := 1, cells := 0, slots := 0, locals := 22 } : Room) s m args below meth c H locs 0 0 Qf (F0 m 197 ls [])) ?_ ?_
                · clear h hl hP hS; intro  H locs ls  hP hS hl h
                  refine lv_bipush (v := q_I (-100)) hx hb dX11_addRule_197 (by decide) ?_
                  refine lv_iload_n hx hb dX11_addRule_199 rfl (lv_at hl 0 rfl) ?_
                  refine q_isub hx hb dX11_addRule_200 h ?_
                  clear h; intro x30 r30 h
                  rw [← hQ]
                  exact q_ret2 hx hb hr hlocks hP hS r30 h dX11_addRule_201
                · clear h; intro j197 hj197 h
                  refine q_zeq hx hb r18 (tgt := 197) dX11_addRule_186 (by decide) h ?_ ?_
                  · clear h; intro g61 h
                    exact hj197  _ _ _ hP hS (lv_sub hl [2] rfl) h
                  · clear h; intro g61 h
                    refine lv_iload_n hx hb dX11_addRule_189 rfl (lv_at hl 2 rfl) ?_
                    refine lv_aload_n hx hb dX11_addRule_190 rfl (lv_at hl 0 rfl) ?_
                    refine q_getI hx hb hts hown hK hP fd_RX11_187 (Nat.le_of_ble_eq_true rfl) q_kdM_0 rfl dX11_addRule_191 h ?_
                    clear h; intro x31 r31 h
                    refine q_cge hx hb r17 r31 (tgt := 202) dX11_addRule_194 (by decide) h ?_ ?_
                    · clear h; intro g60 h
                      refine lv_aload_n hx hb dX11_addRule_202 rfl (lv_at hl 0 rfl) ?_
                      refine q_getI hx hb hts hown hK hP fd_RX11_90 (Nat.le_of_ble_eq_true rfl) q_kdM_0 rfl dX11_addRule_203 h ?_
                      clear h; intro x32 r32 h
                      refine lv_bipush (v := q_I 12) hx hb dX11_addRule_206 (by decide) ?_
                      refine q_cne hx hb r32 (q_r 12 rfl) (tgt := 214) dX11_addRule_208 (by decide) h ?_ ?_
                      · clear h; intro g59 h
                        refine lv_ldc hx hb hown (hts _ ck_RX11_126) dX11_addRule_211 ?_
                        rw [← hQ]
                        exact q_ret2 hx hb hr hlocks hP hS (q_r (-100005) rfl) h dX11_addRule_213
                      · clear h; intro g59 h
                        refine lv_aload_n hx hb dX11_addRule_214 rfl (lv_at hl 0 rfl) ?_
                        refine q_getR hx hb hts hown hK hP fd_RX11_20 (Nat.le_of_ble_eq_true rfl) q_kdM_0 rfl q_rhM_0_7 dX11_addRule_215 ?_
                        refine lv_aload_n hx hb dX11_addRule_218 rfl (lv_at hl 0 rfl) ?_
                        refine q_getI hx hb hts hown hK hP fd_RX11_90 (Nat.le_of_ble_eq_true rfl) q_kdM_0 rfl dX11_addRule_219 h ?_
                        clear h; intro x33 r33 h
                        refine lv_iload_n hx hb dX11_addRule_222 rfl (lv_at hl 1 rfl) ?_
                        refine q_jn_in h (fun J => ∀ (x34 : Int) (H : Heap) (locs : List Loc) (ls : Array Slot), q_R x34 → q_P D dA q_kdM q_rhoM 22 z sz μ H → va_S (q_A z 22) s.heap H locs → lv_has ls 6 [(0, .ref (z + 0)), (5, .int (q_I x19))] → J x34 = some (xo, μo) → W p l e ({ frames := 1, cells := 0, slots := 0, locals := 22 } : Room) s m args below meth c H locs 0 0 Qf (F0 m 256 ls [.int (q_I x34), .int (q_I x33), .ref (z + 4)])) ?_ ?_
                        · clear h hl hP hS; intro x34 H locs ls r34 hP hS hl h
                          refine q_iast hx hb hK hP hS hA (Nat.le_of_ble_eq_true rfl) q_kdM_4 r33 r34 dX11_addRule_256 h ?_
                          clear h hP hS; intro μ35 H locs hP hS h
                          refine lv_aload_n hx hb dX11_addRule_257 rfl (lv_at hl 0 rfl) ?_
                          refine q_getR hx hb hts hown hK hP fd_RX11_23 (Nat.le_of_ble_eq_true rfl) q_kdM_0 rfl q_rhM_0_8 dX11_addRule_258 ?_
                          refine lv_aload_n hx hb dX11_addRule_261 rfl (lv_at hl 0 rfl) ?_
                          refine q_getI hx hb hts hown hK hP fd_RX11_90 (Nat.le_of_ble_eq_true rfl) q_kdM_0 rfl dX11_addRule_262 h ?_
                          clear h; intro x36 r36 h
                          refine lv_aload_n hx hb dX11_addRule_265 rfl (lv_at hl 0 rfl) ?_
                          refine q_getR hx hb hts hown hK hP fd_RX11_16 (Nat.le_of_ble_eq_true rfl) q_kdM_0 rfl q_rhM_0_5 dX11_addRule_266 ?_
                          refine lv_iconst (v := q_I 1) hx hb dX11_addRule_269 rfl ?_
                          refine q_cald hx hb hK hP (Nat.le_of_ble_eq_true rfl) q_kdM_3 (q_r 1 rfl) dX11_addRule_270 h ?_
                          clear h; intro x37 r37 h
                          refine lv_bipush (v := q_I 97) hx hb dX11_addRule_271 (by decide) ?_
                          refine q_isub hx hb dX11_addRule_273 h ?_
                          clear h; intro x38 r38 h
                          refine q_iast hx hb hK hP hS hA (Nat.le_of_ble_eq_true rfl) q_kdM_5 r36 r38 dX11_addRule_274 h ?_
                          clear h hP hS; intro μ39 H locs hP hS h
                          refine lv_aload_n hx hb dX11_addRule_275 rfl (lv_at hl 0 rfl) ?_
                          refine q_getR hx hb hts hown hK hP fd_RX11_26 (Nat.le_of_ble_eq_true rfl) q_kdM_0 rfl q_rhM_0_9 dX11_addRule_276 ?_
                          refine lv_aload_n hx hb dX11_addRule_279 rfl (lv_at hl 0 rfl) ?_
                          refine q_getI hx hb hts hown hK hP fd_RX11_90 (Nat.le_of_ble_eq_true rfl) q_kdM_0 rfl dX11_addRule_280 h ?_
                          clear h; intro x40 r40 h
                          refine lv_aload_n hx hb dX11_addRule_283 rfl (lv_at hl 0 rfl) ?_
                          refine q_getR hx hb hts hown hK hP fd_RX11_16 (Nat.le_of_ble_eq_true rfl) q_kdM_0 rfl q_rhM_0_5 dX11_addRule_284 ?_
                          refine lv_iconst (v := q_I 2) hx hb dX11_addRule_287 rfl ?_
                          refine q_cald hx hb hK hP (Nat.le_of_ble_eq_true rfl) q_kdM_3 (q_r 2 rfl) dX11_addRule_288 h ?_
                          clear h; intro x41 r41 h
                          refine lv_bipush (v := q_I 60) hx hb dX11_addRule_289 (by decide) ?_
                          refine q_jn_in h (fun J => ∀ (x42 : Int) (H : Heap) (locs : List Loc) (ls : Array Slot), q_R x42 → q_P D dA q_kdM q_rhoM 22 z sz μ39 H → va_S (q_A z 22) s.heap H locs → lv_has ls 6 [(0, .ref (z + 0)), (5, .int (q_I x19))] → J x42 = some (xo, μo) → W p l e ({ frames := 1, cells := 0, slots := 0, locals := 22 } : Room) s m args below meth c H locs 0 0 Qf (F0 m 314 ls [.int (q_I x42), .int (q_I x40), .ref (z + 6)])) ?_ ?_
                          · clear h hl hP hS; intro x42 H locs ls r42 hP hS hl h
                            refine q_iast hx hb hK hP hS hA (Nat.le_of_ble_eq_true rfl) q_kdM_6 r40 r42 dX11_addRule_314 h ?_
                            clear h hP hS; intro μ43 H locs hP hS h
                            refine lv_aload_n hx hb dX11_addRule_315 rfl (lv_at hl 0 rfl) ?_
                            refine q_getR hx hb hts hown hK hP fd_RX11_29 (Nat.le_of_ble_eq_true rfl) q_kdM_0 rfl q_rhM_0_10 dX11_addRule_316 ?_
                            refine lv_aload_n hx hb dX11_addRule_319 rfl (lv_at hl 0 rfl) ?_
                            refine q_getI hx hb hts hown hK hP fd_RX11_90 (Nat.le_of_ble_eq_true rfl) q_kdM_0 rfl dX11_addRule_320 h ?_
                            clear h; intro x44 r44 h
                            refine lv_iload hx hb dX11_addRule_323 (lv_at hl 1 rfl) ?_
                            refine q_iast hx hb hK hP hS hA (Nat.le_of_ble_eq_true rfl) q_kdM_7 r44 r19 dX11_addRule_325 h ?_
                            clear h hP hS; intro μ45 H locs hP hS h
                            refine lv_aload_n hx hb dX11_addRule_326 rfl (lv_at hl 0 rfl) ?_
                            refine lv_dup hx hb dX11_addRule_327 rfl ?_
                            refine q_getI hx hb hts hown hK hP fd_RX11_90 (Nat.le_of_ble_eq_true rfl) q_kdM_0 rfl dX11_addRule_328 h ?_
                            clear h; intro x46 r46 h
                            refine lv_iconst (v := q_I 1) hx hb dX11_addRule_331 rfl ?_
                            refine q_iadd hx hb dX11_addRule_332 h ?_
                            clear h; intro x47 r47 h
                            refine q_putI hx hb hts hown hK hP hS hA fd_RX11_90 (Nat.le_of_ble_eq_true rfl) q_kdM_0 rfl r47 dX11_addRule_333 h ?_
                            clear h hP hS; intro μ48 H locs hP hS h
                            refine lv_aload_n hx hb dX11_addRule_336 rfl (lv_at hl 0 rfl) ?_
                            refine q_getI hx hb hts hown hK hP fd_RX11_90 (Nat.le_of_ble_eq_true rfl) q_kdM_0 rfl dX11_addRule_337 h ?_
                            clear h; intro x49 r49 h
                            refine lv_iconst (v := q_I 1) hx hb dX11_addRule_340 rfl ?_
                            refine q_isub hx hb dX11_addRule_341 h ?_
                            clear h; intro x50 r50 h
                            rw [← hQ]
                            exact q_ret2 hx hb hr hlocks hP hS r50 h dX11_addRule_342
                          · clear h; intro j314 hj314 h
                            refine q_cne hx hb r41 (q_r 60 rfl) (tgt := 298) dX11_addRule_291 (by decide) h ?_ ?_
                            · clear h; intro g53 h
                              refine lv_iconst (v := q_I 0) hx hb dX11_addRule_294 rfl ?_
                              refine lv_goto (tgt := 314) hx hb dX11_addRule_295 (by decide) ?_
                              exact hj314 0 _ _ _ (q_r 0 rfl) hP hS (lv_sub hl [0, 1] rfl) h
                            · clear h; intro g53 h
                              refine lv_aload_n hx hb dX11_addRule_298 rfl (lv_at hl 0 rfl) ?_
                              refine q_getR hx hb hts hown hK hP fd_RX11_16 (Nat.le_of_ble_eq_true rfl) q_kdM_0 rfl q_rhM_0_5 dX11_addRule_299 ?_
                              refine lv_iconst (v := q_I 2) hx hb dX11_addRule_302 rfl ?_
                              refine q_cald hx hb hK hP (Nat.le_of_ble_eq_true rfl) q_kdM_3 (q_r 2 rfl) dX11_addRule_303 h ?_
                              clear h; intro x51 r51 h
                              refine lv_bipush (v := q_I 62) hx hb dX11_addRule_304 (by decide) ?_
                              refine q_cne hx hb r51 (q_r 62 rfl) (tgt := 313) dX11_addRule_306 (by decide) h ?_ ?_
                              · clear h; intro g52 h
                                refine lv_iconst (v := q_I 1) hx hb dX11_addRule_309 rfl ?_
                                refine lv_goto (tgt := 314) hx hb dX11_addRule_310 (by decide) ?_
                                exact hj314 1 _ _ _ (q_r 1 rfl) hP hS (lv_sub hl [0, 1] rfl) h
                              · clear h; intro g52 h
                                refine lv_iconst (v := q_I 2) hx hb dX11_addRule_313 rfl ?_
                                exact hj314 2 _ _ _ (q_r 2 rfl) hP hS (lv_sub hl [0, 1] rfl) h
                        · clear h; intro j256 hj256 h
                          refine q_zeq hx hb r3 (tgt := 238) dX11_addRule_223 (by decide) h ?_ ?_
                          · clear h; intro g58 h
                            refine lv_aload_n hx hb dX11_addRule_238 rfl (lv_at hl 0 rfl) ?_
                            refine q_getR hx hb hts hown hK hP fd_RX11_16 (Nat.le_of_ble_eq_true rfl) q_kdM_0 rfl q_rhM_0_5 dX11_addRule_239 ?_
                            refine lv_iconst (v := q_I 0) hx hb dX11_addRule_242 rfl ?_
                            refine q_cald hx hb hK hP (Nat.le_of_ble_eq_true rfl) q_kdM_3 (q_r 0 rfl) dX11_addRule_243 h ?_
                            clear h; intro x54 r54 h
                            refine lv_bipush (v := q_I 42) hx hb dX11_addRule_244 (by decide) ?_
                            refine q_cne hx hb r54 (q_r 42 rfl) (tgt := 254) dX11_addRule_246 (by decide) h ?_ ?_
                            · clear h; intro g55 h
                              refine lv_bipush (v := q_I 8) hx hb dX11_addRule_249 (by decide) ?_
                              refine lv_goto (tgt := 256) hx hb dX11_addRule_251 (by decide) ?_
                              exact hj256 8 _ _ _ (q_r 8 rfl) hP hS (lv_sub hl [0, 4] rfl) h
                            · clear h; intro g55 h
                              refine lv_bipush (v := q_I 9) hx hb dX11_addRule_254 (by decide) ?_
                              exact hj256 9 _ _ _ (q_r 9 rfl) hP hS (lv_sub hl [0, 4] rfl) h
                          · clear h; intro g58 h
                            refine lv_aload_n hx hb dX11_addRule_226 rfl (lv_at hl 0 rfl) ?_
                            refine q_getR hx hb hts hown hK hP fd_RX11_16 (Nat.le_of_ble_eq_true rfl) q_kdM_0 rfl q_rhM_0_5 dX11_addRule_227 ?_
                            refine lv_iconst (v := q_I 0) hx hb dX11_addRule_230 rfl ?_
                            refine q_cald hx hb hK hP (Nat.le_of_ble_eq_true rfl) q_kdM_3 (q_r 0 rfl) dX11_addRule_231 h ?_
                            clear h; intro x56 r56 h
                            refine lv_bipush (v := q_I 48) hx hb dX11_addRule_232 (by decide) ?_
                            refine q_isub hx hb dX11_addRule_234 h ?_
                            clear h; intro x57 r57 h
                            refine lv_goto (tgt := 256) hx hb dX11_addRule_235 (by decide) ?_
                            exact hj256 x57 _ _ _ r57 hP hS (lv_sub hl [0, 4] rfl) h
                    · clear h; intro g60 h
                      exact hj197  _ _ _ hP hS (lv_sub hl [2] rfl) h
          · clear h; intro j118 hj118 h
            refine q_zeq hx hb r8 (tgt := 117) dX11_addRule_110 (by decide) h ?_ ?_
            · clear h; intro g64 h
              refine lv_iconst (v := q_I 0) hx hb dX11_addRule_117 rfl ?_
              exact hj118 0 _ _ _ (q_r 0 rfl) hP hS (lv_sub hl [1, 2] rfl) h
            · clear h; intro g64 h
              refine lv_iconst (v := q_I 1) hx hb dX11_addRule_113 rfl ?_
              refine lv_goto (tgt := 118) hx hb dX11_addRule_114 (by decide) ?_
              exact hj118 1 _ _ _ (q_r 1 rfl) hP hS (lv_sub hl [1, 2] rfl) h
        · clear h; intro j107 hj107 h
          refine q_jn_in h (fun J => ∀ (H : Heap) (locs : List Loc) (ls : Array Slot), q_P D dA q_kdM q_rhoM 22 z sz μ H → va_S (q_A z 22) s.heap H locs → lv_has ls 6 [(0, .ref (z + 0)), (1, .int (q_I x3)), (2, .int (q_I 2))] → J = some (xo, μo) → W p l e ({ frames := 1, cells := 0, slots := 0, locals := 22 } : Room) s m args below meth c H locs 0 0 Qf (F0 m 102 ls [])) ?_ ?_
          · clear h hl hP hS; intro  H locs ls  hP hS hl h
            refine lv_iconst (v := q_I 1) hx hb dX11_addRule_102 rfl ?_
            refine lv_goto (tgt := 107) hx hb dX11_addRule_103 (by decide) ?_
            exact hj107 1 _ _ _ (q_r 1 rfl) hP hS (lv_sub hl [0, 1, 2] rfl) h
          · clear h; intro j102 hj102 h
            refine q_zne hx hb r7 (tgt := 102) dX11_addRule_89 (by decide) h ?_ ?_
            · clear h; intro g68 h
              refine lv_aload_n hx hb dX11_addRule_92 rfl (lv_at hl 1 rfl) ?_
              refine lv_iconst (v := q_I 2) hx hb dX11_addRule_93 rfl ?_
              refine lv_bipush (v := q_I 62) hx hb dX11_addRule_94 (by decide) ?_
              obtain ⟨x66, hv65, h⟩ := q_b_some h
              refine q_callV hx hb hml hts hown hK hP hS (As := [.int (q_I 2), .int (q_I 62)]) (rest := []) (st1 := [.int (q_I x66)]) cv_RX11_193 (c_M_isAt l D dA (q_r 2 rfl) (q_r 62 rfl) hv65) (Nat.le_of_ble_eq_true rfl) q_kdM_0 rfl ⟨rfl, rfl, Nat.le_of_ble_eq_true rfl, Nat.le_of_ble_eq_true rfl⟩ ⟨Nat.le_refl _, Nat.le_refl _⟩ rfl hl.1 rfl (Nat.le_of_ble_eq_true rfl) rfl (fun _ g => g) dX11_addRule_96 ?_
              clear hP hS hv65; intro H locs r66 hP hS _
              refine q_zeq hx hb r66 (tgt := 106) dX11_addRule_99 (by decide) h ?_ ?_
              · clear h; intro g67 h
                refine lv_iconst (v := q_I 0) hx hb dX11_addRule_106 rfl ?_
                exact hj107 0 _ _ _ (q_r 0 rfl) hP hS (lv_sub hl [1, 2, 0] rfl) h
              · clear h; intro g67 h
                exact hj102  _ _ _ hP hS (lv_sub hl [1, 2, 0] rfl) h
            · clear h; intro g68 h
              exact hj102  _ _ _ hP hS (lv_sub hl [1, 2, 0] rfl) h
      · clear h; intro j80 hj80 h
        refine q_zne hx hb r5 (tgt := 80) dX11_addRule_64 (by decide) h ?_ ?_
        · clear h; intro g72 h
          refine lv_aload_n hx hb dX11_addRule_67 rfl (lv_at hl 0 rfl) ?_
          refine lv_iconst (v := q_I 1) hx hb dX11_addRule_68 rfl ?_
          refine lv_bipush (v := q_I 98) hx hb dX11_addRule_69 (by decide) ?_
          obtain ⟨x70, hv69, h⟩ := q_b_some h
          refine q_callV hx hb hml hts hown hK hP hS (As := [.int (q_I 1), .int (q_I 98)]) (rest := []) (st1 := [.int (q_I x70)]) cv_RX11_193 (c_M_isAt l D dA (q_r 1 rfl) (q_r 98 rfl) hv69) (Nat.le_of_ble_eq_true rfl) q_kdM_0 rfl ⟨rfl, rfl, Nat.le_of_ble_eq_true rfl, Nat.le_of_ble_eq_true rfl⟩ ⟨Nat.le_refl _, Nat.le_refl _⟩ rfl hl.1 rfl (Nat.le_of_ble_eq_true rfl) rfl (fun _ g => g) dX11_addRule_71 ?_
          clear hP hS hv69; intro H locs r70 hP hS _
          refine q_zne hx hb r70 (tgt := 80) dX11_addRule_74 (by decide) h ?_ ?_
          · clear h; intro g71 h
            refine lv_bipush (v := q_I (-101)) hx hb dX11_addRule_77 (by decide) ?_
            rw [← hQ]
            exact q_ret2 hx hb hr hlocks hP hS (q_r (-101) rfl) h dX11_addRule_79
          · clear h; intro g71 h
            exact hj80  _ _ _ hP hS (lv_sub hl [0, 1] rfl) h
        · clear h; intro g72 h
          exact hj80  _ _ _ hP hS (lv_sub hl [0, 1] rfl) h
    · clear h; intro j57 hj57 h
      refine q_zne hx hb r3 (tgt := 57) dX11_addRule_31 (by decide) h ?_ ?_
      · clear h; intro g79 h
        refine lv_aload_n hx hb dX11_addRule_34 rfl (lv_at hl 1 rfl) ?_
        refine lv_iconst (v := q_I 0) hx hb dX11_addRule_35 rfl ?_
        refine lv_bipush (v := q_I 42) hx hb dX11_addRule_36 (by decide) ?_
        obtain ⟨x74, hv73, h⟩ := q_b_some h
        refine q_callV hx hb hml hts hown hK hP hS (As := [.int (q_I 0), .int (q_I 42)]) (rest := []) (st1 := [.int (q_I x74)]) cv_RX11_193 (c_M_isAt l D dA (q_r 0 rfl) (q_r 42 rfl) hv73) (Nat.le_of_ble_eq_true rfl) q_kdM_0 rfl ⟨rfl, rfl, Nat.le_of_ble_eq_true rfl, Nat.le_of_ble_eq_true rfl⟩ ⟨Nat.le_refl _, Nat.le_refl _⟩ rfl hl.1 rfl (Nat.le_of_ble_eq_true rfl) rfl (fun _ g => g) dX11_addRule_38 ?_
        clear hP hS hv73; intro H locs r74 hP hS _
        refine q_zne hx hb r74 (tgt := 57) dX11_addRule_41 (by decide) h ?_ ?_
        · clear h; intro g78 h
          refine lv_aload_n hx hb dX11_addRule_44 rfl (lv_at hl 1 rfl) ?_
          refine lv_iconst (v := q_I 0) hx hb dX11_addRule_45 rfl ?_
          refine lv_bipush (v := q_I 126) hx hb dX11_addRule_46 (by decide) ?_
          obtain ⟨x76, hv75, h⟩ := q_b_some h
          refine q_callV hx hb hml hts hown hK hP hS (As := [.int (q_I 0), .int (q_I 126)]) (rest := []) (st1 := [.int (q_I x76)]) cv_RX11_193 (c_M_isAt l D dA (q_r 0 rfl) (q_r 126 rfl) hv75) (Nat.le_of_ble_eq_true rfl) q_kdM_0 rfl ⟨rfl, rfl, Nat.le_of_ble_eq_true rfl, Nat.le_of_ble_eq_true rfl⟩ ⟨Nat.le_refl _, Nat.le_refl _⟩ rfl hl.1 rfl (Nat.le_of_ble_eq_true rfl) rfl (fun _ g => g) dX11_addRule_48 ?_
          clear hP hS hv75; intro H locs r76 hP hS _
          refine q_zne hx hb r76 (tgt := 57) dX11_addRule_51 (by decide) h ?_ ?_
          · clear h; intro g77 h
            refine lv_bipush (v := q_I (-100)) hx hb dX11_addRule_54 (by decide) ?_
            rw [← hQ]
            exact q_ret2 hx hb hr hlocks hP hS (q_r (-100) rfl) h dX11_addRule_56
          · clear h; intro g77 h
            exact hj57  _ _ _ hP hS (lv_sub hl [1, 0] rfl) h
        · clear h; intro g78 h
          exact hj57  _ _ _ hP hS (lv_sub hl [1, 0] rfl) h
      · clear h; intro g79 h
        exact hj57  _ _ _ hP hS (lv_sub hl [1, 0] rfl) h
  · clear h; intro j29 hj29 h
    refine q_jn_in h (fun J => ∀ (H : Heap) (locs : List Loc) (ls : Array Slot), q_P D dA q_kdM q_rhoM 22 z sz μ H → va_S (q_A z 22) s.heap H locs → lv_has ls 6 [(0, .ref (z + 0))] → J = some (xo, μo) → W p l e ({ frames := 1, cells := 0, slots := 0, locals := 22 } : Room) s m args below meth c H locs 0 0 Qf (F0 m 28 ls [])) ?_ ?_
    · clear h hl hP hS; intro  H locs ls  hP hS hl h
      refine lv_iconst (v := q_I 0) hx hb dX11_addRule_28 rfl ?_
      exact hj29 0 _ _ _ (q_r 0 rfl) hP hS (lv_sub hl [0] rfl) h
    · clear h; intro j28 hj28 h
      refine q_zeq hx hb r2 (tgt := 28) dX11_addRule_5 (by decide) h ?_ ?_
      · clear h; intro g84 h
        exact hj28  _ _ _ hP hS (lv_sub hl [0] rfl) h
      · clear h; intro g84 h
        refine lv_aload_n hx hb dX11_addRule_8 rfl (lv_at hl 0 rfl) ?_
        refine q_getR hx hb hts hown hK hP fd_RX11_16 (Nat.le_of_ble_eq_true rfl) q_kdM_0 rfl q_rhM_0_5 dX11_addRule_9 ?_
        refine lv_iconst (v := q_I 0) hx hb dX11_addRule_12 rfl ?_
        refine q_cald hx hb hK hP (Nat.le_of_ble_eq_true rfl) q_kdM_3 (q_r 0 rfl) dX11_addRule_13 h ?_
        clear h; intro x80 r80 h
        refine lv_bipush (v := q_I 48) hx hb dX11_addRule_14 (by decide) ?_
        refine q_isub hx hb dX11_addRule_16 h ?_
        clear h; intro x81 r81 h
        refine lv_aload_n hx hb dX11_addRule_17 rfl (lv_at hl 0 rfl) ?_
        refine q_getI hx hb hts hown hK hP fd_RX11_79 (Nat.le_of_ble_eq_true rfl) q_kdM_0 rfl dX11_addRule_18 h ?_
        clear h; intro x82 r82 h
        refine q_cge hx hb r81 r82 (tgt := 28) dX11_addRule_21 (by decide) h ?_ ?_
        · clear h; intro g83 h
          exact hj28  _ _ _ hP hS (lv_sub hl [0] rfl) h
        · clear h; intro g83 h
          refine lv_iconst (v := q_I 1) hx hb dX11_addRule_24 rfl ?_
          refine lv_goto (tgt := 29) hx hb dX11_addRule_25 (by decide) ?_
          exact hj29 1 _ _ _ (q_r 1 rfl) hP hS (lv_sub hl [0] rfl) h
set_option maxHeartbeats 4000000 in
set_option maxRecDepth 100000 in
theorem c_M_noRule (l : Launch) (D : va_G) (dA : Nat → ClassId) {z sz : Nat} {a0 : Int} (ra0 : q_R a0) {μ : q_M} {xo : Int} (h : f_M_noRule a0 μ = some xo) : Met l yX11_noRule (q_wc yX11_noRule cX11_noRule 2 (some .boolean)) ({ frames := 1, cells := 0, slots := 0, locals := 22 } : Room) (va_Pc [.ref (z + 0), .int (q_I a0)] (q_B (q_P D dA q_kdM q_rhoM 22 z sz μ) D dA)) (q_Q (some (.int (q_I xo))) (q_R xo) (q_P D dA q_kdM q_rhoM 22 z sz μ) (q_A z 22)) 0 0 (q_A z 22) := by
  refine Met.ofW (cc := cX11_noRule) (maxL := 2) (ret := (some .boolean)) (by decide) rfl ?_
  intro p e s m args below meth c s₁ B hml hv
  obtain ⟨hargs, hP, hK⟩ := hv
  have hx := B.exec
  have hb := B.bytes
  have hr := B.returns
  have hts : ∀ w ∈ q_W, w.before args s = true := fun w hw => atoms_spec (ws := q_wc yX11_noRule cX11_noRule 2 (some .boolean)) B.pre w (List.mem_cons_of_mem _ hw)
  have hown : s.vm.findClass RX11 = some m.cls := findClass_of_methodNamed B.named
  have hlocks := B.notSynchronized
  have hS : va_S (q_A z 22) s.heap s.heap [] := va_S.rf
  have hA : ∀ k, k < 22 → q_A z 22 (z + k) := fun k hk => ⟨Nat.le_add_right z k, Nat.add_lt_add_left hk z⟩
  have hl := lv_entry [.ref (z + 0), .int (q_I a0)] (n := 2) (Nat.le_of_ble_eq_true rfl)
  refine W.eq (by rw [hargs, lg_entry_eq]) ?_
  generalize (lg_sl [.ref (z + 0), .int (q_I a0)] ++ List.replicate (2 - (lg_sl [.ref (z + 0), .int (q_I a0)]).length) Slot.unset).toArray = ls at hl ⊢
  have hl : lv_has ls 2 [(0, .ref (z + 0)), (1, .int (q_I a0))] := hl
  generalize hQ : MQ below _ args s 0 0 _ = Qf
  change W p l e ({ frames := 1, cells := 0, slots := 0, locals := 22 } : Room) s m args below meth c s.heap [] 0 0 Qf (F0 m 0 ls [])
  unfold f_M_noRule at h
  refine lv_iload_n hx hb dX11_noRule_0 rfl (lv_at hl 1 rfl) ?_
  refine lv_iconst (v := q_I 0) hx hb dX11_noRule_1 rfl ?_
  refine lv_aload_n hx hb dX11_noRule_2 rfl (lv_at hl 0 rfl) ?_
  refine q_getI hx hb hts hown hK hP fd_RX11_90 (Nat.le_of_ble_eq_true rfl) q_kdM_0 rfl dX11_noRule_3 h ?_
  clear h; intro x1 r1 h
  refine lv_iconst (v := q_I 1) hx hb dX11_noRule_6 rfl ?_
  refine q_isub hx hb dX11_noRule_7 h ?_
  clear h; intro x2 r2 h
  obtain ⟨x4, hv3, h⟩ := q_b_some h
  refine q_callS hx hb hml hts hown hK hP hS (As := [.int (q_I a0), .int (q_I 0), .int (q_I x2)]) (rest := []) (st1 := [.int (q_I x4)]) cs_RX11_99 (c_M_in l D dA ra0 (q_r 0 rfl) r2 hv3) ⟨rfl, rfl, Nat.le_of_ble_eq_true rfl, Nat.le_of_ble_eq_true rfl⟩ ⟨Nat.le_refl _, Nat.le_refl _⟩ rfl hl.1 rfl (Nat.le_of_ble_eq_true rfl) rfl (fun _ g => g) dX11_noRule_8 ?_
  clear hP hS hv3; intro H locs r4 hP hS _
  refine q_jn_in h (fun J => ∀ (x5 : Int) (H : Heap) (locs : List Loc) (ls : Array Slot), q_R x5 → q_P D dA q_kdM q_rhoM 22 z sz μ H → va_S (q_A z 22) s.heap H locs → lv_has ls 2 [] → J x5 = some xo → W p l e ({ frames := 1, cells := 0, slots := 0, locals := 22 } : Room) s m args below meth c H locs 0 0 Qf (F0 m 19 ls [.int (q_I x5)])) ?_ ?_
  · clear h hl hP hS; intro x5 H locs ls r5 hP hS hl h
    rw [← hQ]
    obtain ⟨hz, h⟩ := q_rz_some h
    exact q_retz1 hx hb hr hlocks hP hS hz h dX11_noRule_19
  · clear h; intro j19 hj19 h
    refine q_zne hx hb r4 (tgt := 18) dX11_noRule_11 (by decide) h ?_ ?_
    · clear h; intro g6 h
      refine lv_iconst (v := q_I 1) hx hb dX11_noRule_14 rfl ?_
      refine lv_goto (tgt := 19) hx hb dX11_noRule_15 (by decide) ?_
      exact hj19 1 _ _ _ (q_r 1 rfl) hP hS (lv_sub hl [] rfl) h
    · clear h; intro g6 h
      refine lv_iconst (v := q_I 0) hx hb dX11_noRule_18 rfl ?_
      exact hj19 0 _ _ _ (q_r 0 rfl) hP hS (lv_sub hl [] rfl) h
set_option maxHeartbeats 4000000 in
set_option maxRecDepth 100000 in
theorem c_M_removeRule (l : Launch) (D : va_G) (dA : Nat → ClassId) {z sz : Nat} {N : Nat} {a0 : Int} (ra0 : q_R a0) {μ : q_M} {xo : Int} {μo : q_M} (h : f_M_removeRule N a0 μ = some (xo, μo)) : Met l yX11_removeRule (q_wc yX11_removeRule cX11_removeRule 3 (some .int)) ({ frames := 2, cells := 0, slots := 0, locals := 43 } : Room) (va_Pc [.ref (z + 0), .int (q_I a0)] (q_B (q_P D dA q_kdM q_rhoM 22 z sz μ) D dA)) (q_Q (some (.int (q_I xo))) (q_R xo) (q_P D dA q_kdM q_rhoM 22 z sz μo) (q_A z 22)) 0 0 (q_A z 22) := by
  refine Met.ofW (cc := cX11_removeRule) (maxL := 3) (ret := (some .int)) (by decide) rfl ?_
  intro p e s m args below meth c s₁ B hml hv
  obtain ⟨hargs, hP, hK⟩ := hv
  have hx := B.exec
  have hb := B.bytes
  have hr := B.returns
  have hts : ∀ w ∈ q_W, w.before args s = true := fun w hw => atoms_spec (ws := q_wc yX11_removeRule cX11_removeRule 3 (some .int)) B.pre w (List.mem_cons_of_mem _ hw)
  have hown : s.vm.findClass RX11 = some m.cls := findClass_of_methodNamed B.named
  have hlocks := B.notSynchronized
  have hS : va_S (q_A z 22) s.heap s.heap [] := va_S.rf
  have hA : ∀ k, k < 22 → q_A z 22 (z + k) := fun k hk => ⟨Nat.le_add_right z k, Nat.add_lt_add_left hk z⟩
  have hl := lv_entry [.ref (z + 0), .int (q_I a0)] (n := 3) (Nat.le_of_ble_eq_true rfl)
  refine W.eq (by rw [hargs, lg_entry_eq]) ?_
  generalize (lg_sl [.ref (z + 0), .int (q_I a0)] ++ List.replicate (3 - (lg_sl [.ref (z + 0), .int (q_I a0)]).length) Slot.unset).toArray = ls at hl ⊢
  have hl : lv_has ls 3 [(0, .ref (z + 0)), (1, .int (q_I a0))] := hl
  generalize hQ : MQ below _ args s 0 0 _ = Qf
  change W p l e ({ frames := 2, cells := 0, slots := 0, locals := 43 } : Room) s m args below meth c s.heap [] 0 0 Qf (F0 m 0 ls [])
  unfold f_M_removeRule at h
  refine lv_aload_n hx hb dX11_removeRule_0 rfl (lv_at hl 0 rfl) ?_
  refine lv_iload_n hx hb dX11_removeRule_1 rfl (lv_at hl 1 rfl) ?_
  obtain ⟨x2, hv1, h⟩ := q_b_some h
  refine q_callV hx hb hml hts hown hK hP hS (As := [.int (q_I a0)]) (rest := []) (st1 := [.int (q_I x2)]) cv_RX11_197 (c_M_noRule l D dA ra0 hv1) (Nat.le_of_ble_eq_true rfl) q_kdM_0 rfl ⟨rfl, rfl, Nat.le_of_ble_eq_true rfl, Nat.le_of_ble_eq_true rfl⟩ ⟨Nat.le_refl _, Nat.le_refl _⟩ rfl hl.1 rfl (Nat.le_of_ble_eq_true rfl) rfl (fun _ g => g) dX11_removeRule_2 ?_
  clear hP hS hv1; intro H locs r2 hP hS _
  refine q_zeq hx hb r2 (tgt := 11) dX11_removeRule_5 (by decide) h ?_ ?_
  · clear h; intro g25 h
    refine lv_aload_n hx hb dX11_removeRule_11 rfl (lv_at hl 0 rfl) ?_
    refine lv_dup hx hb dX11_removeRule_12 rfl ?_
    refine q_getI hx hb hts hown hK hP fd_RX11_90 (Nat.le_of_ble_eq_true rfl) q_kdM_0 rfl dX11_removeRule_13 h ?_
    clear h; intro x3 r3 h
    refine lv_iconst (v := q_I 1) hx hb dX11_removeRule_16 rfl ?_
    refine q_isub hx hb dX11_removeRule_17 h ?_
    clear h; intro x4 r4 h
    refine q_putI hx hb hts hown hK hP hS hA fd_RX11_90 (Nat.le_of_ble_eq_true rfl) q_kdM_0 rfl r4 dX11_removeRule_18 h ?_
    clear h hP hS; intro μ5 H locs hP hS h
    refine lv_iload_n hx hb dX11_removeRule_21 rfl (lv_at hl 1 rfl) ?_
    refine lv_istore_n (lv' := [(2, .int (q_I a0)), (0, .ref (z + 0)), (1, .int (q_I a0))]) hx hb dX11_removeRule_22 rfl hl (by decide) rfl ?_
    clear hl; intro ls hl
    have L23 : ∀ (k93 : q_M → Option (Int × q_M)), (∀ (μ8 : q_M) (H : Heap) (locs : List Loc) (ls : Array Slot), q_P D dA q_kdM q_rhoM 22 z sz μ8 H → va_S (q_A z 22) s.heap H locs → lv_has ls 3 [(0, .ref (z + 0))] → k93 μ8 = some (xo, μo) → W p l e ({ frames := 2, cells := 0, slots := 0, locals := 43 } : Room) s m args below meth c H locs 0 0 Qf (F0 m 93 ls [])) → ∀ (nf23 : Nat) (x6 : Int) (μ7 : q_M) (H : Heap) (locs : List Loc) (ls : Array Slot), q_R x6 → q_P D dA q_kdM q_rhoM 22 z sz μ7 H → va_S (q_A z 22) s.heap H locs → lv_has ls 3 [(0, .ref (z + 0)), (2, .int (q_I x6))] → f_M_removeRule_L23  k93 nf23 x6 μ7 = some (xo, μo) → W p l e ({ frames := 2, cells := 0, slots := 0, locals := 43 } : Room) s m args below meth c H locs 0 0 Qf (F0 m 23 ls []) := by
      clear h hl hP hS
      intro k93 hk93 nf23
      induction nf23 with
      | zero =>
        intro x6 μ7 H locs ls r6 hP hS hl h
        rw [f_M_removeRule_L23] at h
        cases h
      | succ nf23 ih23 =>
        intro x6 μ7 H locs ls r6 hP hS hl h
        rw [f_M_removeRule_L23] at h
        refine lv_iload_n hx hb dX11_removeRule_23 rfl (lv_at hl 1 rfl) ?_
        refine lv_aload_n hx hb dX11_removeRule_24 rfl (lv_at hl 0 rfl) ?_
        refine q_getI hx hb hts hown hK hP fd_RX11_90 (Nat.le_of_ble_eq_true rfl) q_kdM_0 rfl dX11_removeRule_25 h ?_
        clear h; intro x9 r9 h
        refine q_cge hx hb r6 r9 (tgt := 93) dX11_removeRule_28 (by decide) h ?_ ?_
        · clear h; intro g23 h
          exact hk93 μ7 _ _ _ hP hS (lv_sub hl [0] rfl) h
        · clear h; intro g23 h
          refine lv_aload_n hx hb dX11_removeRule_31 rfl (lv_at hl 0 rfl) ?_
          refine q_getR hx hb hts hown hK hP fd_RX11_20 (Nat.le_of_ble_eq_true rfl) q_kdM_0 rfl q_rhM_0_7 dX11_removeRule_32 ?_
          refine lv_iload_n hx hb dX11_removeRule_35 rfl (lv_at hl 1 rfl) ?_
          refine lv_aload_n hx hb dX11_removeRule_36 rfl (lv_at hl 0 rfl) ?_
          refine q_getR hx hb hts hown hK hP fd_RX11_20 (Nat.le_of_ble_eq_true rfl) q_kdM_0 rfl q_rhM_0_7 dX11_removeRule_37 ?_
          refine lv_iload_n hx hb dX11_removeRule_40 rfl (lv_at hl 1 rfl) ?_
          refine lv_iconst (v := q_I 1) hx hb dX11_removeRule_41 rfl ?_
          refine q_iadd hx hb dX11_removeRule_42 h ?_
          clear h; intro x10 r10 h
          refine q_iald hx hb hK hP (Nat.le_of_ble_eq_true rfl) q_kdM_4 r10 dX11_removeRule_43 h ?_
          clear h; intro x11 r11 h
          refine q_iast hx hb hK hP hS hA (Nat.le_of_ble_eq_true rfl) q_kdM_4 r6 r11 dX11_removeRule_44 h ?_
          clear h hP hS; intro μ12 H locs hP hS h
          refine lv_aload_n hx hb dX11_removeRule_45 rfl (lv_at hl 0 rfl) ?_
          refine q_getR hx hb hts hown hK hP fd_RX11_23 (Nat.le_of_ble_eq_true rfl) q_kdM_0 rfl q_rhM_0_8 dX11_removeRule_46 ?_
          refine lv_iload_n hx hb dX11_removeRule_49 rfl (lv_at hl 1 rfl) ?_
          refine lv_aload_n hx hb dX11_removeRule_50 rfl (lv_at hl 0 rfl) ?_
          refine q_getR hx hb hts hown hK hP fd_RX11_23 (Nat.le_of_ble_eq_true rfl) q_kdM_0 rfl q_rhM_0_8 dX11_removeRule_51 ?_
          refine lv_iload_n hx hb dX11_removeRule_54 rfl (lv_at hl 1 rfl) ?_
          refine lv_iconst (v := q_I 1) hx hb dX11_removeRule_55 rfl ?_
          refine q_iadd hx hb dX11_removeRule_56 h ?_
          clear h; intro x13 r13 h
          refine q_iald hx hb hK hP (Nat.le_of_ble_eq_true rfl) q_kdM_5 r13 dX11_removeRule_57 h ?_
          clear h; intro x14 r14 h
          refine q_iast hx hb hK hP hS hA (Nat.le_of_ble_eq_true rfl) q_kdM_5 r6 r14 dX11_removeRule_58 h ?_
          clear h hP hS; intro μ15 H locs hP hS h
          refine lv_aload_n hx hb dX11_removeRule_59 rfl (lv_at hl 0 rfl) ?_
          refine q_getR hx hb hts hown hK hP fd_RX11_26 (Nat.le_of_ble_eq_true rfl) q_kdM_0 rfl q_rhM_0_9 dX11_removeRule_60 ?_
          refine lv_iload_n hx hb dX11_removeRule_63 rfl (lv_at hl 1 rfl) ?_
          refine lv_aload_n hx hb dX11_removeRule_64 rfl (lv_at hl 0 rfl) ?_
          refine q_getR hx hb hts hown hK hP fd_RX11_26 (Nat.le_of_ble_eq_true rfl) q_kdM_0 rfl q_rhM_0_9 dX11_removeRule_65 ?_
          refine lv_iload_n hx hb dX11_removeRule_68 rfl (lv_at hl 1 rfl) ?_
          refine lv_iconst (v := q_I 1) hx hb dX11_removeRule_69 rfl ?_
          refine q_iadd hx hb dX11_removeRule_70 h ?_
          clear h; intro x16 r16 h
          refine q_iald hx hb hK hP (Nat.le_of_ble_eq_true rfl) q_kdM_6 r16 dX11_removeRule_71 h ?_
          clear h; intro x17 r17 h
          refine q_iast hx hb hK hP hS hA (Nat.le_of_ble_eq_true rfl) q_kdM_6 r6 r17 dX11_removeRule_72 h ?_
          clear h hP hS; intro μ18 H locs hP hS h
          refine lv_aload_n hx hb dX11_removeRule_73 rfl (lv_at hl 0 rfl) ?_
          refine q_getR hx hb hts hown hK hP fd_RX11_29 (Nat.le_of_ble_eq_true rfl) q_kdM_0 rfl q_rhM_0_10 dX11_removeRule_74 ?_
          refine lv_iload_n hx hb dX11_removeRule_77 rfl (lv_at hl 1 rfl) ?_
          refine lv_aload_n hx hb dX11_removeRule_78 rfl (lv_at hl 0 rfl) ?_
          refine q_getR hx hb hts hown hK hP fd_RX11_29 (Nat.le_of_ble_eq_true rfl) q_kdM_0 rfl q_rhM_0_10 dX11_removeRule_79 ?_
          refine lv_iload_n hx hb dX11_removeRule_82 rfl (lv_at hl 1 rfl) ?_
          refine lv_iconst (v := q_I 1) hx hb dX11_removeRule_83 rfl ?_
          refine q_iadd hx hb dX11_removeRule_84 h ?_
          clear h; intro x19 r19 h
          refine q_iald hx hb hK hP (Nat.le_of_ble_eq_true rfl) q_kdM_7 r19 dX11_removeRule_85 h ?_
          clear h; intro x20 r20 h
          refine q_iast hx hb hK hP hS hA (Nat.le_of_ble_eq_true rfl) q_kdM_7 r6 r20 dX11_removeRule_86 h ?_
          clear h hP hS; intro μ21 H locs hP hS h
          refine q_iinc (k := 1) (lv' := fun t => [(2, .int (q_I t)), (0, .ref (z + 0))]) hx hb dX11_removeRule_87 hl rfl (by decide) (fun _ => rfl) h ?_
          clear h hl; intro x22 ls r22 hl h
          refine lv_goto (tgt := 23) hx hb dX11_removeRule_90 (by decide) ?_
          exact ih23 x22 μ21 _ _ _ r22 hP hS (lv_sub hl [1, 0] rfl) h
    refine L23 _ ?_  _ a0 μ5 _ _ _ ra0 hP hS (lv_sub hl [1, 0] rfl) h
    · clear h hl hP hS; intro μ8 H locs ls  hP hS hl h
      refine lv_aload_n hx hb dX11_removeRule_93 rfl (lv_at hl 0 rfl) ?_
      refine q_getI hx hb hts hown hK hP fd_RX11_90 (Nat.le_of_ble_eq_true rfl) q_kdM_0 rfl dX11_removeRule_94 h ?_
      clear h; intro x24 r24 h
      rw [← hQ]
      exact q_ret2 hx hb hr hlocks hP hS r24 h dX11_removeRule_97
  · clear h; intro g25 h
    refine lv_ldc hx hb hown (hts _ ck_RX11_112) dX11_removeRule_8 ?_
    rw [← hQ]
    exact q_ret2 hx hb hr hlocks hP hS (q_r (-100001) rfl) h dX11_removeRule_10
set_option maxHeartbeats 4000000 in
set_option maxRecDepth 100000 in
theorem c_M_rule (l : Launch) (D : va_G) (dA : Nat → ClassId) {z sz : Nat} {a0 : Int} (ra0 : q_R a0) {a1 : Int} (ra1 : q_R a1) {μ : q_M} {xo : Int} (h : f_M_rule a0 a1 μ = some xo) : Met l yX11_rule (q_wc yX11_rule cX11_rule 3 (some .int)) ({ frames := 2, cells := 0, slots := 0, locals := 43 } : Room) (va_Pc [.ref (z + 0), .int (q_I a0), .int (q_I a1)] (q_B (q_P D dA q_kdM q_rhoM 22 z sz μ) D dA)) (q_Q (some (.int (q_I xo))) (q_R xo) (q_P D dA q_kdM q_rhoM 22 z sz μ) (q_A z 22)) 0 0 (q_A z 22) := by
  refine Met.ofW (cc := cX11_rule) (maxL := 3) (ret := (some .int)) (by decide) rfl ?_
  intro p e s m args below meth c s₁ B hml hv
  obtain ⟨hargs, hP, hK⟩ := hv
  have hx := B.exec
  have hb := B.bytes
  have hr := B.returns
  have hts : ∀ w ∈ q_W, w.before args s = true := fun w hw => atoms_spec (ws := q_wc yX11_rule cX11_rule 3 (some .int)) B.pre w (List.mem_cons_of_mem _ hw)
  have hown : s.vm.findClass RX11 = some m.cls := findClass_of_methodNamed B.named
  have hlocks := B.notSynchronized
  have hS : va_S (q_A z 22) s.heap s.heap [] := va_S.rf
  have hA : ∀ k, k < 22 → q_A z 22 (z + k) := fun k hk => ⟨Nat.le_add_right z k, Nat.add_lt_add_left hk z⟩
  have hl := lv_entry [.ref (z + 0), .int (q_I a0), .int (q_I a1)] (n := 3) (Nat.le_of_ble_eq_true rfl)
  refine W.eq (by rw [hargs, lg_entry_eq]) ?_
  generalize (lg_sl [.ref (z + 0), .int (q_I a0), .int (q_I a1)] ++ List.replicate (3 - (lg_sl [.ref (z + 0), .int (q_I a0), .int (q_I a1)]).length) Slot.unset).toArray = ls at hl ⊢
  have hl : lv_has ls 3 [(0, .ref (z + 0)), (1, .int (q_I a0)), (2, .int (q_I a1))] := hl
  generalize hQ : MQ below _ args s 0 0 _ = Qf
  change W p l e ({ frames := 2, cells := 0, slots := 0, locals := 43 } : Room) s m args below meth c s.heap [] 0 0 Qf (F0 m 0 ls [])
  unfold f_M_rule at h
  refine lv_aload_n hx hb dX11_rule_0 rfl (lv_at hl 0 rfl) ?_
  refine lv_iload_n hx hb dX11_rule_1 rfl (lv_at hl 1 rfl) ?_
  obtain ⟨x2, hv1, h⟩ := q_b_some h
  refine q_callV hx hb hml hts hown hK hP hS (As := [.int (q_I a0)]) (rest := []) (st1 := [.int (q_I x2)]) cv_RX11_197 (c_M_noRule l D dA ra0 hv1) (Nat.le_of_ble_eq_true rfl) q_kdM_0 rfl ⟨rfl, rfl, Nat.le_of_ble_eq_true rfl, Nat.le_of_ble_eq_true rfl⟩ ⟨Nat.le_refl _, Nat.le_refl _⟩ rfl hl.1 rfl (Nat.le_of_ble_eq_true rfl) rfl (fun _ g => g) dX11_rule_2 ?_
  clear hP hS hv1; intro H locs r2 hP hS _
  refine q_zeq hx hb r2 (tgt := 11) dX11_rule_5 (by decide) h ?_ ?_
  · clear h; intro g11 h
    refine lv_iload_n hx hb dX11_rule_11 rfl (lv_at hl 2 rfl) ?_
    by_cases g4 : a1 = 0
    · rw [if_pos g4] at h
      refine q_tabIn (tgt := 44) (v := 0) hx hb ra1 g4 dX11_rule_12 (by decide) (by decide) rfl (by decide) ?_
      refine lv_aload_n hx hb dX11_rule_44 rfl (lv_at hl 0 rfl) ?_
      refine q_getR hx hb hts hown hK hP fd_RX11_20 (Nat.le_of_ble_eq_true rfl) q_kdM_0 rfl q_rhM_0_7 dX11_rule_45 ?_
      refine lv_iload_n hx hb dX11_rule_48 rfl (lv_at hl 1 rfl) ?_
      refine q_iald hx hb hK hP (Nat.le_of_ble_eq_true rfl) q_kdM_4 ra0 dX11_rule_49 h ?_
      clear h; intro x3 r3 h
      rw [← hQ]
      exact q_ret1 hx hb hr hlocks hP hS r3 h dX11_rule_50
    · rw [if_neg g4] at h
      by_cases g6 : a1 = 1
      · rw [if_pos g6] at h
        refine q_tabIn (tgt := 51) (v := 1) hx hb ra1 g6 dX11_rule_12 (by decide) (by decide) rfl (by decide) ?_
        refine lv_aload_n hx hb dX11_rule_51 rfl (lv_at hl 0 rfl) ?_
        refine q_getR hx hb hts hown hK hP fd_RX11_23 (Nat.le_of_ble_eq_true rfl) q_kdM_0 rfl q_rhM_0_8 dX11_rule_52 ?_
        refine lv_iload_n hx hb dX11_rule_55 rfl (lv_at hl 1 rfl) ?_
        refine q_iald hx hb hK hP (Nat.le_of_ble_eq_true rfl) q_kdM_5 ra0 dX11_rule_56 h ?_
        clear h; intro x5 r5 h
        rw [← hQ]
        exact q_ret1 hx hb hr hlocks hP hS r5 h dX11_rule_57
      · rw [if_neg g6] at h
        by_cases g8 : a1 = 2
        · rw [if_pos g8] at h
          refine q_tabIn (tgt := 58) (v := 2) hx hb ra1 g8 dX11_rule_12 (by decide) (by decide) rfl (by decide) ?_
          refine lv_aload_n hx hb dX11_rule_58 rfl (lv_at hl 0 rfl) ?_
          refine q_getR hx hb hts hown hK hP fd_RX11_26 (Nat.le_of_ble_eq_true rfl) q_kdM_0 rfl q_rhM_0_9 dX11_rule_59 ?_
          refine lv_iload_n hx hb dX11_rule_62 rfl (lv_at hl 1 rfl) ?_
          refine q_iald hx hb hK hP (Nat.le_of_ble_eq_true rfl) q_kdM_6 ra0 dX11_rule_63 h ?_
          clear h; intro x7 r7 h
          rw [← hQ]
          exact q_ret1 hx hb hr hlocks hP hS r7 h dX11_rule_64
        · rw [if_neg g8] at h
          by_cases g10 : a1 = 3
          · rw [if_pos g10] at h
            refine q_tabIn (tgt := 65) (v := 3) hx hb ra1 g10 dX11_rule_12 (by decide) (by decide) rfl (by decide) ?_
            refine lv_aload_n hx hb dX11_rule_65 rfl (lv_at hl 0 rfl) ?_
            refine q_getR hx hb hts hown hK hP fd_RX11_29 (Nat.le_of_ble_eq_true rfl) q_kdM_0 rfl q_rhM_0_10 dX11_rule_66 ?_
            refine lv_iload_n hx hb dX11_rule_69 rfl (lv_at hl 1 rfl) ?_
            refine q_iald hx hb hK hP (Nat.le_of_ble_eq_true rfl) q_kdM_7 ra0 dX11_rule_70 h ?_
            clear h; intro x9 r9 h
            rw [← hQ]
            exact q_ret1 hx hb hr hlocks hP hS r9 h dX11_rule_71
          · rw [if_neg g10] at h
            refine q_tabOut (tgt := 72) hx hb ra1 dX11_rule_12 (by omega) (by decide) ?_
            refine lv_ldc hx hb hown (hts _ ck_RX11_103) dX11_rule_72 ?_
            rw [← hQ]
            exact q_ret1 hx hb hr hlocks hP hS (q_r (-100002) rfl) h dX11_rule_74
  · clear h; intro g11 h
    refine lv_ldc hx hb hown (hts _ ck_RX11_112) dX11_rule_8 ?_
    rw [← hQ]
    exact q_ret1 hx hb hr hlocks hP hS (q_r (-100001) rfl) h dX11_rule_10
set_option maxHeartbeats 4000000 in
set_option maxRecDepth 100000 in
theorem c_M_keeps (l : Launch) (D : va_G) (dA : Nat → ClassId) {z sz : Nat} {a0 : Int} (ra0 : q_R a0) {a1 : Int} (ra1 : q_R a1) {μ : q_M} {xo : Int} (h : f_M_keeps a0 a1 μ = some xo) : Met l yX11_keeps (q_wc yX11_keeps cX11_keeps 3 (some .boolean)) ({ frames := 0, cells := 0, slots := 0, locals := 0 } : Room) (va_Pc [.ref (z + 0), .int (q_I a0), .int (q_I a1)] (q_B (q_P D dA q_kdM q_rhoM 22 z sz μ) D dA)) (q_Q (some (.int (q_I xo))) (q_R xo) (q_P D dA q_kdM q_rhoM 22 z sz μ) (q_A z 22)) 0 0 (q_A z 22) := by
  refine Met.ofW (cc := cX11_keeps) (maxL := 3) (ret := (some .boolean)) (by decide) rfl ?_
  intro p e s m args below meth c s₁ B hml hv
  obtain ⟨hargs, hP, hK⟩ := hv
  have hx := B.exec
  have hb := B.bytes
  have hr := B.returns
  have hts : ∀ w ∈ q_W, w.before args s = true := fun w hw => atoms_spec (ws := q_wc yX11_keeps cX11_keeps 3 (some .boolean)) B.pre w (List.mem_cons_of_mem _ hw)
  have hown : s.vm.findClass RX11 = some m.cls := findClass_of_methodNamed B.named
  have hlocks := B.notSynchronized
  have hS : va_S (q_A z 22) s.heap s.heap [] := va_S.rf
  have hA : ∀ k, k < 22 → q_A z 22 (z + k) := fun k hk => ⟨Nat.le_add_right z k, Nat.add_lt_add_left hk z⟩
  have hl := lv_entry [.ref (z + 0), .int (q_I a0), .int (q_I a1)] (n := 3) (Nat.le_of_ble_eq_true rfl)
  refine W.eq (by rw [hargs, lg_entry_eq]) ?_
  generalize (lg_sl [.ref (z + 0), .int (q_I a0), .int (q_I a1)] ++ List.replicate (3 - (lg_sl [.ref (z + 0), .int (q_I a0), .int (q_I a1)]).length) Slot.unset).toArray = ls at hl ⊢
  have hl : lv_has ls 3 [(0, .ref (z + 0)), (1, .int (q_I a0)), (2, .int (q_I a1))] := hl
  generalize hQ : MQ below _ args s 0 0 _ = Qf
  change W p l e ({ frames := 0, cells := 0, slots := 0, locals := 0 } : Room) s m args below meth c s.heap [] 0 0 Qf (F0 m 0 ls [])
  unfold f_M_keeps at h
  refine lv_aload_n hx hb dX11_keeps_0 rfl (lv_at hl 0 rfl) ?_
  refine q_getR hx hb hts hown hK hP fd_RX11_26 (Nat.le_of_ble_eq_true rfl) q_kdM_0 rfl q_rhM_0_9 dX11_keeps_1 ?_
  refine lv_iload_n hx hb dX11_keeps_4 rfl (lv_at hl 1 rfl) ?_
  refine q_iald hx hb hK hP (Nat.le_of_ble_eq_true rfl) q_kdM_6 ra0 dX11_keeps_5 h ?_
  clear h; intro x1 r1 h
  refine q_jn_in h (fun J => ∀ (x2 : Int) (H : Heap) (locs : List Loc) (ls : Array Slot), q_R x2 → q_P D dA q_kdM q_rhoM 22 z sz μ H → va_S (q_A z 22) s.heap H locs → lv_has ls 3 [] → J x2 = some xo → W p l e ({ frames := 0, cells := 0, slots := 0, locals := 0 } : Room) s m args below meth c H locs 0 0 Qf (F0 m 70 ls [.int (q_I x2)])) ?_ ?_
  · clear h hl hP hS; intro x2 H locs ls r2 hP hS hl h
    rw [← hQ]
    obtain ⟨hz, h⟩ := q_rz_some h
    exact q_retz1 hx hb hr hlocks hP hS hz h dX11_keeps_70
  · clear h; intro j70 hj70 h
    refine q_zne hx hb r1 (tgt := 27) dX11_keeps_6 (by decide) h ?_ ?_
    · clear h; intro g11 h
      refine lv_iload_n hx hb dX11_keeps_9 rfl (lv_at hl 2 rfl) ?_
      refine lv_aload_n hx hb dX11_keeps_10 rfl (lv_at hl 0 rfl) ?_
      refine q_getR hx hb hts hown hK hP fd_RX11_29 (Nat.le_of_ble_eq_true rfl) q_kdM_0 rfl q_rhM_0_10 dX11_keeps_11 ?_
      refine lv_iload_n hx hb dX11_keeps_14 rfl (lv_at hl 1 rfl) ?_
      refine q_iald hx hb hK hP (Nat.le_of_ble_eq_true rfl) q_kdM_7 ra0 dX11_keeps_15 h ?_
      clear h; intro x9 r9 h
      refine q_cgt hx hb ra1 r9 (tgt := 23) dX11_keeps_16 (by decide) h ?_ ?_
      · clear h; intro g10 h
        refine lv_iconst (v := q_I 0) hx hb dX11_keeps_23 rfl ?_
        refine lv_goto (tgt := 70) hx hb dX11_keeps_24 (by decide) ?_
        exact hj70 0 _ _ _ (q_r 0 rfl) hP hS (lv_sub hl [] rfl) h
      · clear h; intro g10 h
        refine lv_iconst (v := q_I 1) hx hb dX11_keeps_19 rfl ?_
        refine lv_goto (tgt := 70) hx hb dX11_keeps_20 (by decide) ?_
        exact hj70 1 _ _ _ (q_r 1 rfl) hP hS (lv_sub hl [] rfl) h
    · clear h; intro g11 h
      refine lv_aload_n hx hb dX11_keeps_27 rfl (lv_at hl 0 rfl) ?_
      refine q_getR hx hb hts hown hK hP fd_RX11_26 (Nat.le_of_ble_eq_true rfl) q_kdM_0 rfl q_rhM_0_9 dX11_keeps_28 ?_
      refine lv_iload_n hx hb dX11_keeps_31 rfl (lv_at hl 1 rfl) ?_
      refine q_iald hx hb hK hP (Nat.le_of_ble_eq_true rfl) q_kdM_6 ra0 dX11_keeps_32 h ?_
      clear h; intro x3 r3 h
      refine lv_iconst (v := q_I 1) hx hb dX11_keeps_33 rfl ?_
      refine q_cne hx hb r3 (q_r 1 rfl) (tgt := 55) dX11_keeps_34 (by decide) h ?_ ?_
      · clear h; intro g8 h
        refine lv_iload_n hx hb dX11_keeps_37 rfl (lv_at hl 2 rfl) ?_
        refine lv_aload_n hx hb dX11_keeps_38 rfl (lv_at hl 0 rfl) ?_
        refine q_getR hx hb hts hown hK hP fd_RX11_29 (Nat.le_of_ble_eq_true rfl) q_kdM_0 rfl q_rhM_0_10 dX11_keeps_39 ?_
        refine lv_iload_n hx hb dX11_keeps_42 rfl (lv_at hl 1 rfl) ?_
        refine q_iald hx hb hK hP (Nat.le_of_ble_eq_true rfl) q_kdM_7 ra0 dX11_keeps_43 h ?_
        clear h; intro x6 r6 h
        refine q_clt hx hb ra1 r6 (tgt := 51) dX11_keeps_44 (by decide) h ?_ ?_
        · clear h; intro g7 h
          refine lv_iconst (v := q_I 0) hx hb dX11_keeps_51 rfl ?_
          refine lv_goto (tgt := 70) hx hb dX11_keeps_52 (by decide) ?_
          exact hj70 0 _ _ _ (q_r 0 rfl) hP hS (lv_sub hl [] rfl) h
        · clear h; intro g7 h
          refine lv_iconst (v := q_I 1) hx hb dX11_keeps_47 rfl ?_
          refine lv_goto (tgt := 70) hx hb dX11_keeps_48 (by decide) ?_
          exact hj70 1 _ _ _ (q_r 1 rfl) hP hS (lv_sub hl [] rfl) h
      · clear h; intro g8 h
        refine lv_iload_n hx hb dX11_keeps_55 rfl (lv_at hl 2 rfl) ?_
        refine lv_aload_n hx hb dX11_keeps_56 rfl (lv_at hl 0 rfl) ?_
        refine q_getR hx hb hts hown hK hP fd_RX11_29 (Nat.le_of_ble_eq_true rfl) q_kdM_0 rfl q_rhM_0_10 dX11_keeps_57 ?_
        refine lv_iload_n hx hb dX11_keeps_60 rfl (lv_at hl 1 rfl) ?_
        refine q_iald hx hb hK hP (Nat.le_of_ble_eq_true rfl) q_kdM_7 ra0 dX11_keeps_61 h ?_
        clear h; intro x4 r4 h
        refine q_cne hx hb ra1 r4 (tgt := 69) dX11_keeps_62 (by decide) h ?_ ?_
        · clear h; intro g5 h
          refine lv_iconst (v := q_I 1) hx hb dX11_keeps_65 rfl ?_
          refine lv_goto (tgt := 70) hx hb dX11_keeps_66 (by decide) ?_
          exact hj70 1 _ _ _ (q_r 1 rfl) hP hS (lv_sub hl [] rfl) h
        · clear h; intro g5 h
          refine lv_iconst (v := q_I 0) hx hb dX11_keeps_69 rfl ?_
          exact hj70 0 _ _ _ (q_r 0 rfl) hP hS (lv_sub hl [] rfl) h
set_option maxHeartbeats 4000000 in
set_option maxRecDepth 100000 in
theorem c_M_transitOf (l : Launch) (D : va_G) (dA : Nat → ClassId) {z sz : Nat} {N : Nat} {a0 : Int} (ra0 : q_R a0) {a1 : Int} (ra1 : q_R a1) {μ : q_M} {xo : Int} (h : f_M_transitOf N a0 a1 μ = some xo) : Met l yX11_transitOf (q_wc yX11_transitOf cX11_transitOf 6 (some .int)) ({ frames := 3, cells := 0, slots := 0, locals := 66 } : Room) (va_Pc [.ref (z + 0), .int (q_I a0), .int (q_I a1)] (q_B (q_P D dA q_kdM q_rhoM 22 z sz μ) D dA)) (q_Q (some (.int (q_I xo))) (q_R xo) (q_P D dA q_kdM q_rhoM 22 z sz μ) (q_A z 22)) 0 0 (q_A z 22) := by
  refine Met.ofW (cc := cX11_transitOf) (maxL := 6) (ret := (some .int)) (by decide) rfl ?_
  intro p e s m args below meth c s₁ B hml hv
  obtain ⟨hargs, hP, hK⟩ := hv
  have hx := B.exec
  have hb := B.bytes
  have hr := B.returns
  have hts : ∀ w ∈ q_W, w.before args s = true := fun w hw => atoms_spec (ws := q_wc yX11_transitOf cX11_transitOf 6 (some .int)) B.pre w (List.mem_cons_of_mem _ hw)
  have hown : s.vm.findClass RX11 = some m.cls := findClass_of_methodNamed B.named
  have hlocks := B.notSynchronized
  have hS : va_S (q_A z 22) s.heap s.heap [] := va_S.rf
  have hA : ∀ k, k < 22 → q_A z 22 (z + k) := fun k hk => ⟨Nat.le_add_right z k, Nat.add_lt_add_left hk z⟩
  have hl := lv_entry [.ref (z + 0), .int (q_I a0), .int (q_I a1)] (n := 6) (Nat.le_of_ble_eq_true rfl)
  refine W.eq (by rw [hargs, lg_entry_eq]) ?_
  generalize (lg_sl [.ref (z + 0), .int (q_I a0), .int (q_I a1)] ++ List.replicate (6 - (lg_sl [.ref (z + 0), .int (q_I a0), .int (q_I a1)]).length) Slot.unset).toArray = ls at hl ⊢
  have hl : lv_has ls 6 [(0, .ref (z + 0)), (1, .int (q_I a0)), (2, .int (q_I a1))] := hl
  generalize hQ : MQ below _ args s 0 0 _ = Qf
  change W p l e ({ frames := 3, cells := 0, slots := 0, locals := 66 } : Room) s m args below meth c s.heap [] 0 0 Qf (F0 m 0 ls [])
  unfold f_M_transitOf at h
  refine lv_iconst (v := q_I 0) hx hb dX11_transitOf_0 rfl ?_
  refine lv_istore_n (lv' := [(3, .int (q_I 0)), (0, .ref (z + 0)), (1, .int (q_I a0)), (2, .int (q_I a1))]) hx hb dX11_transitOf_1 rfl hl (by decide) rfl ?_
  clear hl; intro ls hl
  refine lv_iconst (v := q_I 0) hx hb dX11_transitOf_2 rfl ?_
  refine lv_istore (lv' := [(4, .int (q_I 0)), (3, .int (q_I 0)), (0, .ref (z + 0)), (1, .int (q_I a0)), (2, .int (q_I a1))]) hx hb dX11_transitOf_3 hl (by decide) rfl ?_
  clear hl; intro ls hl
  have L5 : ∀ (k83 : Int → Option Int), (∀ (x3 : Int) (H : Heap) (locs : List Loc) (ls : Array Slot), q_R x3 → q_P D dA q_kdM q_rhoM 22 z sz μ H → va_S (q_A z 22) s.heap H locs → lv_has ls 6 [(3, .int (q_I x3))] → k83 x3 = some xo → W p l e ({ frames := 3, cells := 0, slots := 0, locals := 66 } : Room) s m args below meth c H locs 0 0 Qf (F0 m 83 ls [])) → ∀ (nf5 : Nat) (x1 : Int) (x2 : Int) (H : Heap) (locs : List Loc) (ls : Array Slot), q_R x1 → q_R x2 → q_P D dA q_kdM q_rhoM 22 z sz μ H → va_S (q_A z 22) s.heap H locs → lv_has ls 6 [(0, .ref (z + 0)), (1, .int (q_I a0)), (2, .int (q_I a1)), (3, .int (q_I x1)), (4, .int (q_I x2))] → f_M_transitOf_L5 a0 a1 μ k83 nf5 x1 x2 = some xo → W p l e ({ frames := 3, cells := 0, slots := 0, locals := 66 } : Room) s m args below meth c H locs 0 0 Qf (F0 m 5 ls []) := by
    clear h hl hP hS
    intro k83 hk83 nf5
    induction nf5 with
    | zero =>
      intro x1 x2 H locs ls r1 r2 hP hS hl h
      rw [f_M_transitOf_L5] at h
      cases h
    | succ nf5 ih5 =>
      intro x1 x2 H locs ls r1 r2 hP hS hl h
      rw [f_M_transitOf_L5] at h
      refine lv_iload hx hb dX11_transitOf_5 (lv_at hl 4 rfl) ?_
      refine lv_aload_n hx hb dX11_transitOf_7 rfl (lv_at hl 0 rfl) ?_
      refine q_getR hx hb hts hown hK hP fd_RX11_7 (Nat.le_of_ble_eq_true rfl) q_kdM_0 rfl q_rhM_0_1 dX11_transitOf_8 ?_
      refine lv_bipush (v := q_I 37) hx hb dX11_transitOf_11 (by decide) ?_
      refine q_iald hx hb hK hP (Nat.le_of_ble_eq_true rfl) q_kdM_1 (q_r 37 rfl) dX11_transitOf_13 h ?_
      clear h; intro x4 r4 h
      refine q_cge hx hb r2 r4 (tgt := 83) dX11_transitOf_14 (by decide) h ?_ ?_
      · clear h; intro g21 h
        exact hk83 x1 _ _ _ r1 hP hS (lv_sub hl [3] rfl) h
      · clear h; intro g21 h
        refine lv_iload_n hx hb dX11_transitOf_17 rfl (lv_at hl 2 rfl) ?_
        refine q_jn_in h (fun J => ∀ (x5 : Int) (H : Heap) (locs : List Loc) (ls : Array Slot), q_R x5 → q_P D dA q_kdM q_rhoM 22 z sz μ H → va_S (q_A z 22) s.heap H locs → lv_has ls 6 [(0, .ref (z + 0)), (1, .int (q_I a0)), (2, .int (q_I a1)), (3, .int (q_I x1)), (4, .int (q_I x2))] → J x5 = some xo → W p l e ({ frames := 3, cells := 0, slots := 0, locals := 66 } : Room) s m args below meth c H locs 0 0 Qf (F0 m 45 ls [.int (q_I x5)])) ?_ ?_
        · clear h hl hP hS; intro x5 H locs ls r5 hP hS hl h
          refine lv_istore (lv' := [(5, .int (q_I x5)), (0, .ref (z + 0)), (1, .int (q_I a0)), (2, .int (q_I a1)), (3, .int (q_I x1)), (4, .int (q_I x2))]) hx hb dX11_transitOf_45 hl (by decide) rfl ?_
          clear hl; intro ls hl
          refine lv_iload_n hx hb dX11_transitOf_47 rfl (lv_at hl 4 rfl) ?_
          refine lv_iload hx hb dX11_transitOf_48 (lv_at hl 0 rfl) ?_
          refine q_jn_in h (fun J => ∀ (x6 : Int) (H : Heap) (locs : List Loc) (ls : Array Slot), q_R x6 → q_P D dA q_kdM q_rhoM 22 z sz μ H → va_S (q_A z 22) s.heap H locs → lv_has ls 6 [(0, .ref (z + 0)), (1, .int (q_I a0)), (2, .int (q_I a1)), (4, .int (q_I x2))] → J x6 = some xo → W p l e ({ frames := 3, cells := 0, slots := 0, locals := 66 } : Room) s m args below meth c H locs 0 0 Qf (F0 m 75 ls [.int (q_I x6), .int (q_I x1)])) ?_ ?_
          · clear h hl hP hS; intro x6 H locs ls r6 hP hS hl h
            refine q_iadd hx hb dX11_transitOf_75 h ?_
            clear h; intro x7 r7 h
            refine lv_istore_n (lv' := [(3, .int (q_I x7)), (0, .ref (z + 0)), (1, .int (q_I a0)), (2, .int (q_I a1)), (4, .int (q_I x2))]) hx hb dX11_transitOf_76 rfl hl (by decide) rfl ?_
            clear hl; intro ls hl
            refine q_iinc (k := 4) (lv' := fun t => [(4, .int (q_I t)), (3, .int (q_I x7)), (0, .ref (z + 0)), (1, .int (q_I a0)), (2, .int (q_I a1))]) hx hb dX11_transitOf_77 hl rfl (by decide) (fun _ => rfl) h ?_
            clear h hl; intro x8 ls r8 hl h
            refine lv_goto (tgt := 5) hx hb dX11_transitOf_80 (by decide) ?_
            exact ih5 x7 x8 _ _ _ r7 r8 hP hS (lv_sub hl [2, 3, 4, 1, 0] rfl) h
          · clear h; intro j75 hj75 h
            refine q_jn_in h (fun J => ∀ (H : Heap) (locs : List Loc) (ls : Array Slot), q_P D dA q_kdM q_rhoM 22 z sz μ H → va_S (q_A z 22) s.heap H locs → lv_has ls 6 [(0, .ref (z + 0)), (1, .int (q_I a0)), (2, .int (q_I a1)), (4, .int (q_I x2))] → J = some xo → W p l e ({ frames := 3, cells := 0, slots := 0, locals := 66 } : Room) s m args below meth c H locs 0 0 Qf (F0 m 74 ls [.int (q_I x1)])) ?_ ?_
            · clear h hl hP hS; intro  H locs ls  hP hS hl h
              refine lv_iconst (v := q_I 0) hx hb dX11_transitOf_74 rfl ?_
              exact hj75 0 _ _ _ (q_r 0 rfl) hP hS (lv_sub hl [0, 1, 2, 3] rfl) h
            · clear h; intro j74 hj74 h
              refine q_zeq hx hb r5 (tgt := 74) dX11_transitOf_50 (by decide) h ?_ ?_
              · clear h; intro g14 h
                exact hj74  _ _ _ hP hS (lv_sub hl [1, 2, 3, 5] rfl) h
              · clear h; intro g14 h
                refine lv_aload_n hx hb dX11_transitOf_53 rfl (lv_at hl 1 rfl) ?_
                refine lv_iload hx hb dX11_transitOf_54 (lv_at hl 5 rfl) ?_
                refine lv_iconst (v := q_I 2) hx hb dX11_transitOf_56 rfl ?_
                obtain ⟨x10, hv9, h⟩ := q_b_some h
                refine q_callV hx hb hml hts hown hK hP hS (As := [.int (q_I x2), .int (q_I 2)]) (rest := [.int (q_I x1)]) (st1 := [.int (q_I x10), .int (q_I x1)]) cv_RX11_114 (c_M_ofMessage l D dA r2 (q_r 2 rfl) hv9) (Nat.le_of_ble_eq_true rfl) q_kdM_0 rfl ⟨rfl, rfl, Nat.le_of_ble_eq_true rfl, Nat.le_of_ble_eq_true rfl⟩ ⟨Nat.le_refl _, Nat.le_refl _⟩ rfl hl.1 rfl (Nat.le_of_ble_eq_true rfl) rfl (fun _ g => g) dX11_transitOf_57 ?_
                clear hP hS hv9; intro H locs r10 hP hS _
                refine lv_iload_n hx hb dX11_transitOf_60 rfl (lv_at hl 2 rfl) ?_
                refine q_cne hx hb r10 ra0 (tgt := 74) dX11_transitOf_61 (by decide) h ?_ ?_
                · clear h; intro g13 h
                  refine lv_aload_n hx hb dX11_transitOf_64 rfl (lv_at hl 1 rfl) ?_
                  refine lv_iload hx hb dX11_transitOf_65 (lv_at hl 5 rfl) ?_
                  refine lv_iconst (v := q_I 3) hx hb dX11_transitOf_67 rfl ?_
                  obtain ⟨x12, hv11, h⟩ := q_b_some h
                  refine q_callV hx hb hml hts hown hK hP hS (As := [.int (q_I x2), .int (q_I 3)]) (rest := [.int (q_I x1)]) (st1 := [.int (q_I x12), .int (q_I x1)]) cv_RX11_114 (c_M_ofMessage l D dA r2 (q_r 3 rfl) hv11) (Nat.le_of_ble_eq_true rfl) q_kdM_0 rfl ⟨rfl, rfl, Nat.le_of_ble_eq_true rfl, Nat.le_of_ble_eq_true rfl⟩ ⟨Nat.le_refl _, Nat.le_refl _⟩ rfl hl.1 rfl (Nat.le_of_ble_eq_true rfl) rfl (fun _ g => g) dX11_transitOf_68 ?_
                  clear hP hS hv11; intro H locs r12 hP hS _
                  refine lv_goto (tgt := 75) hx hb dX11_transitOf_71 (by decide) ?_
                  exact hj75 x12 _ _ _ r12 hP hS (lv_sub hl [1, 2, 3, 5] rfl) h
                · clear h; intro g13 h
                  exact hj74  _ _ _ hP hS (lv_sub hl [1, 2, 3, 5] rfl) h
        · clear h; intro j45 hj45 h
          refine q_zeq hx hb ra1 (tgt := 30) dX11_transitOf_18 (by decide) h ?_ ?_
          · clear h; intro g20 h
            refine lv_aload_n hx hb dX11_transitOf_30 rfl (lv_at hl 0 rfl) ?_
            refine lv_iload hx hb dX11_transitOf_31 (lv_at hl 4 rfl) ?_
            refine lv_iconst (v := q_I 5) hx hb dX11_transitOf_33 rfl ?_
            obtain ⟨x16, hv15, h⟩ := q_b_some h
            refine q_callV hx hb hml hts hown hK hP hS (As := [.int (q_I x2), .int (q_I 5)]) (rest := []) (st1 := [.int (q_I x16)]) cv_RX11_114 (c_M_ofMessage l D dA r2 (q_r 5 rfl) hv15) (Nat.le_of_ble_eq_true rfl) q_kdM_0 rfl ⟨rfl, rfl, Nat.le_of_ble_eq_true rfl, Nat.le_of_ble_eq_true rfl⟩ ⟨Nat.le_refl _, Nat.le_refl _⟩ rfl hl.1 rfl (Nat.le_of_ble_eq_true rfl) rfl (fun _ g => g) dX11_transitOf_34 ?_
            clear hP hS hv15; intro H locs r16 hP hS _
            refine q_zge hx hb r16 (tgt := 44) dX11_transitOf_37 (by decide) h ?_ ?_
            · clear h; intro g17 h
              refine lv_iconst (v := q_I 0) hx hb dX11_transitOf_44 rfl ?_
              exact hj45 0 _ _ _ (q_r 0 rfl) hP hS (lv_sub hl [0, 1, 2, 3, 4] rfl) h
            · clear h; intro g17 h
              refine lv_iconst (v := q_I 1) hx hb dX11_transitOf_40 rfl ?_
              refine lv_goto (tgt := 45) hx hb dX11_transitOf_41 (by decide) ?_
              exact hj45 1 _ _ _ (q_r 1 rfl) hP hS (lv_sub hl [0, 1, 2, 3, 4] rfl) h
          · clear h; intro g20 h
            refine lv_aload_n hx hb dX11_transitOf_21 rfl (lv_at hl 0 rfl) ?_
            refine lv_iload hx hb dX11_transitOf_22 (lv_at hl 4 rfl) ?_
            obtain ⟨x19, hv18, h⟩ := q_b_some h
            refine q_callV hx hb hml hts hown hK hP hS (As := [.int (q_I x2)]) (rest := []) (st1 := [.int (q_I x19)]) cv_RX11_184 (c_M_isInTransit l D dA r2 hv18) (Nat.le_of_ble_eq_true rfl) q_kdM_0 rfl ⟨rfl, rfl, Nat.le_of_ble_eq_true rfl, Nat.le_of_ble_eq_true rfl⟩ ⟨Nat.le_refl _, Nat.le_refl _⟩ rfl hl.1 rfl (Nat.le_of_ble_eq_true rfl) rfl (fun _ g => g) dX11_transitOf_24 ?_
            clear hP hS hv18; intro H locs r19 hP hS _
            refine lv_goto (tgt := 45) hx hb dX11_transitOf_27 (by decide) ?_
            exact hj45 x19 _ _ _ r19 hP hS (lv_sub hl [0, 1, 2, 3, 4] rfl) h
  refine L5 _ ?_  _ 0 0 _ _ _ (q_r 0 rfl) (q_r 0 rfl) hP hS (lv_sub hl [2, 3, 4, 1, 0] rfl) h
  · clear h hl hP hS; intro x3 H locs ls r3 hP hS hl h
    refine lv_iload_n hx hb dX11_transitOf_83 rfl (lv_at hl 0 rfl) ?_
    rw [← hQ]
    exact q_ret1 hx hb hr hlocks hP hS r3 h dX11_transitOf_84
set_option maxHeartbeats 4000000 in
set_option maxRecDepth 100000 in
theorem c_M_valueOf (l : Launch) (D : va_G) (dA : Nat → ClassId) {z sz : Nat} {N : Nat} {a0 : Int} (ra0 : q_R a0) {a1 : Int} (ra1 : q_R a1) {μ : q_M} {xo : Int} (h : f_M_valueOf N a0 a1 μ = some xo) : Met l yX11_valueOf (q_wc yX11_valueOf cX11_valueOf 7 (some .int)) ({ frames := 4, cells := 0, slots := 0, locals := 91 } : Room) (va_Pc [.ref (z + 0), .int (q_I a0), .int (q_I a1)] (q_B (q_P D dA q_kdM q_rhoM 22 z sz μ) D dA)) (q_Q (some (.int (q_I xo))) (q_R xo) (q_P D dA q_kdM q_rhoM 22 z sz μ) (q_A z 22)) 0 0 (q_A z 22) := by
  refine Met.ofW (cc := cX11_valueOf) (maxL := 7) (ret := (some .int)) (by decide) rfl ?_
  intro p e s m args below meth c s₁ B hml hv
  obtain ⟨hargs, hP, hK⟩ := hv
  have hx := B.exec
  have hb := B.bytes
  have hr := B.returns
  have hts : ∀ w ∈ q_W, w.before args s = true := fun w hw => atoms_spec (ws := q_wc yX11_valueOf cX11_valueOf 7 (some .int)) B.pre w (List.mem_cons_of_mem _ hw)
  have hown : s.vm.findClass RX11 = some m.cls := findClass_of_methodNamed B.named
  have hlocks := B.notSynchronized
  have hS : va_S (q_A z 22) s.heap s.heap [] := va_S.rf
  have hA : ∀ k, k < 22 → q_A z 22 (z + k) := fun k hk => ⟨Nat.le_add_right z k, Nat.add_lt_add_left hk z⟩
  have hl := lv_entry [.ref (z + 0), .int (q_I a0), .int (q_I a1)] (n := 7) (Nat.le_of_ble_eq_true rfl)
  refine W.eq (by rw [hargs, lg_entry_eq]) ?_
  generalize (lg_sl [.ref (z + 0), .int (q_I a0), .int (q_I a1)] ++ List.replicate (7 - (lg_sl [.ref (z + 0), .int (q_I a0), .int (q_I a1)]).length) Slot.unset).toArray = ls at hl ⊢
  have hl : lv_has ls 7 [(0, .ref (z + 0)), (1, .int (q_I a0)), (2, .int (q_I a1))] := hl
  generalize hQ : MQ below _ args s 0 0 _ = Qf
  change W p l e ({ frames := 4, cells := 0, slots := 0, locals := 91 } : Room) s m args below meth c s.heap [] 0 0 Qf (F0 m 0 ls [])
  unfold f_M_valueOf at h
  refine lv_aload_n hx hb dX11_valueOf_0 rfl (lv_at hl 0 rfl) ?_
  refine q_getR hx hb hts hown hK hP fd_RX11_23 (Nat.le_of_ble_eq_true rfl) q_kdM_0 rfl q_rhM_0_8 dX11_valueOf_1 ?_
  refine lv_iload_n hx hb dX11_valueOf_4 rfl (lv_at hl 1 rfl) ?_
  refine q_iald hx hb hK hP (Nat.le_of_ble_eq_true rfl) q_kdM_5 ra0 dX11_valueOf_5 h ?_
  clear h; intro x1 r1 h
  refine lv_istore_n (lv' := [(3, .int (q_I x1)), (0, .ref (z + 0)), (1, .int (q_I a0)), (2, .int (q_I a1))]) hx hb dX11_valueOf_6 rfl hl (by decide) rfl ?_
  clear hl; intro ls hl
  refine lv_aload_n hx hb dX11_valueOf_7 rfl (lv_at hl 1 rfl) ?_
  refine q_getR hx hb hts hown hK hP fd_RX11_20 (Nat.le_of_ble_eq_true rfl) q_kdM_0 rfl q_rhM_0_7 dX11_valueOf_8 ?_
  refine lv_iload_n hx hb dX11_valueOf_11 rfl (lv_at hl 2 rfl) ?_
  refine q_iald hx hb hK hP (Nat.le_of_ble_eq_true rfl) q_kdM_4 ra0 dX11_valueOf_12 h ?_
  clear h; intro x2 r2 h
  refine lv_bipush (v := q_I 7) hx hb dX11_valueOf_13 (by decide) ?_
  refine q_jn_in h (fun J => ∀ (x3 : Int) (H : Heap) (locs : List Loc) (ls : Array Slot), q_R x3 → q_P D dA q_kdM q_rhoM 22 z sz μ H → va_S (q_A z 22) s.heap H locs → lv_has ls 7 [(0, .ref (z + 0)), (1, .int (q_I a0)), (2, .int (q_I a1)), (3, .int (q_I x1))] → J x3 = some xo → W p l e ({ frames := 4, cells := 0, slots := 0, locals := 91 } : Room) s m args below meth c H locs 0 0 Qf (F0 m 28 ls [.int (q_I x3)])) ?_ ?_
  · clear h hl hP hS; intro x3 H locs ls r3 hP hS hl h
    refine lv_istore (lv' := [(4, .int (q_I x3)), (0, .ref (z + 0)), (1, .int (q_I a0)), (2, .int (q_I a1)), (3, .int (q_I x1))]) hx hb dX11_valueOf_28 hl (by decide) rfl ?_
    clear hl; intro ls hl
    refine lv_iconst (v := q_I 0) hx hb dX11_valueOf_30 rfl ?_
    refine lv_istore (lv' := [(5, .int (q_I 0)), (4, .int (q_I x3)), (0, .ref (z + 0)), (1, .int (q_I a0)), (2, .int (q_I a1)), (3, .int (q_I x1))]) hx hb dX11_valueOf_31 hl (by decide) rfl ?_
    clear hl; intro ls hl
    have L33 : ∀ (k118 : Int → Option Int), (∀ (x6 : Int) (H : Heap) (locs : List Loc) (ls : Array Slot), q_R x6 → q_P D dA q_kdM q_rhoM 22 z sz μ H → va_S (q_A z 22) s.heap H locs → lv_has ls 7 [(4, .int (q_I x6))] → k118 x6 = some xo → W p l e ({ frames := 4, cells := 0, slots := 0, locals := 91 } : Room) s m args below meth c H locs 0 0 Qf (F0 m 118 ls [])) → ∀ (nf33 : Nat) (x4 : Int) (x5 : Int) (H : Heap) (locs : List Loc) (ls : Array Slot), q_R x4 → q_R x5 → q_P D dA q_kdM q_rhoM 22 z sz μ H → va_S (q_A z 22) s.heap H locs → lv_has ls 7 [(0, .ref (z + 0)), (1, .int (q_I a0)), (2, .int (q_I a1)), (3, .int (q_I x1)), (4, .int (q_I x4)), (5, .int (q_I x5))] → f_M_valueOf_L33 N a0 a1 x1 μ k118 nf33 x4 x5 = some xo → W p l e ({ frames := 4, cells := 0, slots := 0, locals := 91 } : Room) s m args below meth c H locs 0 0 Qf (F0 m 33 ls []) := by
      clear h hl hP hS
      intro k118 hk118 nf33
      induction nf33 with
      | zero =>
        intro x4 x5 H locs ls r4 r5 hP hS hl h
        rw [f_M_valueOf_L33] at h
        cases h
      | succ nf33 ih33 =>
        intro x4 x5 H locs ls r4 r5 hP hS hl h
        rw [f_M_valueOf_L33] at h
        refine lv_iload hx hb dX11_valueOf_33 (lv_at hl 5 rfl) ?_
        refine lv_aload_n hx hb dX11_valueOf_35 rfl (lv_at hl 0 rfl) ?_
        refine q_getI hx hb hts hown hK hP fd_RX11_79 (Nat.le_of_ble_eq_true rfl) q_kdM_0 rfl dX11_valueOf_36 h ?_
        clear h; intro x7 r7 h
        refine q_cge hx hb r5 r7 (tgt := 118) dX11_valueOf_39 (by decide) h ?_ ?_
        · clear h; intro g24 h
          exact hk118 x4 _ _ _ r4 hP hS (lv_sub hl [4] rfl) h
        · clear h; intro g24 h
          refine lv_aload_n hx hb dX11_valueOf_42 rfl (lv_at hl 0 rfl) ?_
          refine q_getR hx hb hts hown hK hP fd_RX11_20 (Nat.le_of_ble_eq_true rfl) q_kdM_0 rfl q_rhM_0_7 dX11_valueOf_43 ?_
          refine lv_iload_n hx hb dX11_valueOf_46 rfl (lv_at hl 1 rfl) ?_
          refine q_iald hx hb hK hP (Nat.le_of_ble_eq_true rfl) q_kdM_4 ra0 dX11_valueOf_47 h ?_
          clear h; intro x8 r8 h
          refine lv_bipush (v := q_I 8) hx hb dX11_valueOf_48 (by decide) ?_
          refine q_jn_in h (fun J => ∀ (x9 : Int) (H : Heap) (locs : List Loc) (ls : Array Slot), q_R x9 → q_P D dA q_kdM q_rhoM 22 z sz μ H → va_S (q_A z 22) s.heap H locs → lv_has ls 7 [(0, .ref (z + 0)), (1, .int (q_I a0)), (2, .int (q_I a1)), (3, .int (q_I x1)), (4, .int (q_I x4)), (5, .int (q_I x5))] → J x9 = some xo → W p l e ({ frames := 4, cells := 0, slots := 0, locals := 91 } : Room) s m args below meth c H locs 0 0 Qf (F0 m 69 ls [.int (q_I x9)])) ?_ ?_
          · clear h hl hP hS; intro x9 H locs ls r9 hP hS hl h
            refine lv_istore (lv' := [(6, .int (q_I x9)), (0, .ref (z + 0)), (1, .int (q_I a0)), (2, .int (q_I a1)), (3, .int (q_I x1)), (4, .int (q_I x4)), (5, .int (q_I x5))]) hx hb dX11_valueOf_69 hl (by decide) rfl ?_
            clear hl; intro ls hl
            refine lv_iload hx hb dX11_valueOf_71 (lv_at hl 5 rfl) ?_
            refine lv_iload hx hb dX11_valueOf_73 (lv_at hl 0 rfl) ?_
            refine q_jn_in h (fun J => ∀ (x10 : Int) (H : Heap) (locs : List Loc) (ls : Array Slot), q_R x10 → q_P D dA q_kdM q_rhoM 22 z sz μ H → va_S (q_A z 22) s.heap H locs → lv_has ls 7 [(0, .ref (z + 0)), (1, .int (q_I a0)), (2, .int (q_I a1)), (3, .int (q_I x1)), (5, .int (q_I x5))] → J x10 = some xo → W p l e ({ frames := 4, cells := 0, slots := 0, locals := 91 } : Room) s m args below meth c H locs 0 0 Qf (F0 m 109 ls [.int (q_I x10), .int (q_I x4)])) ?_ ?_
            · clear h hl hP hS; intro x10 H locs ls r10 hP hS hl h
              refine q_iadd hx hb dX11_valueOf_109 h ?_
              clear h; intro x11 r11 h
              refine lv_istore (lv' := [(4, .int (q_I x11)), (0, .ref (z + 0)), (1, .int (q_I a0)), (2, .int (q_I a1)), (3, .int (q_I x1)), (5, .int (q_I x5))]) hx hb dX11_valueOf_110 hl (by decide) rfl ?_
              clear hl; intro ls hl
              refine q_iinc (k := 5) (lv' := fun t => [(5, .int (q_I t)), (4, .int (q_I x11)), (0, .ref (z + 0)), (1, .int (q_I a0)), (2, .int (q_I a1)), (3, .int (q_I x1))]) hx hb dX11_valueOf_112 hl rfl (by decide) (fun _ => rfl) h ?_
              clear h hl; intro x12 ls r12 hl h
              refine lv_goto (tgt := 33) hx hb dX11_valueOf_115 (by decide) ?_
              exact ih33 x11 x12 _ _ _ r11 r12 hP hS (lv_sub hl [2, 3, 4, 5, 1, 0] rfl) h
            · clear h; intro j109 hj109 h
              refine q_zne hx hb r9 (tgt := 82) dX11_valueOf_75 (by decide) h ?_ ?_
              · clear h; intro g20 h
                refine lv_iconst (v := q_I 0) hx hb dX11_valueOf_78 rfl ?_
                refine lv_goto (tgt := 109) hx hb dX11_valueOf_79 (by decide) ?_
                exact hj109 0 _ _ _ (q_r 0 rfl) hP hS (lv_sub hl [1, 2, 3, 4, 6] rfl) h
              · clear h; intro g20 h
                refine lv_iload_n hx hb dX11_valueOf_82 rfl (lv_at hl 3 rfl) ?_
                refine q_zeq hx hb ra1 (tgt := 96) dX11_valueOf_83 (by decide) h ?_ ?_
                · clear h; intro g19 h
                  refine lv_aload_n hx hb dX11_valueOf_96 rfl (lv_at hl 1 rfl) ?_
                  refine q_getR hx hb hts hown hK hP fd_RX11_7 (Nat.le_of_ble_eq_true rfl) q_kdM_0 rfl q_rhM_0_1 dX11_valueOf_97 ?_
                  refine lv_iconst (v := q_I 0) hx hb dX11_valueOf_100 rfl ?_
                  refine lv_iconst (v := q_I 2) hx hb dX11_valueOf_101 rfl ?_
                  refine lv_iload hx hb dX11_valueOf_102 (lv_at hl 6 rfl) ?_
                  refine q_imul hx hb dX11_valueOf_104 h ?_
                  clear h; intro x13 r13 h
                  refine q_iadd hx hb dX11_valueOf_105 h ?_
                  clear h; intro x14 r14 h
                  refine lv_iload_n hx hb dX11_valueOf_106 rfl (lv_at hl 4 rfl) ?_
                  refine q_iadd hx hb dX11_valueOf_107 h ?_
                  clear h; intro x15 r15 h
                  refine q_iald hx hb hK hP (Nat.le_of_ble_eq_true rfl) q_kdM_1 r15 dX11_valueOf_108 h ?_
                  clear h; intro x16 r16 h
                  exact hj109 x16 _ _ _ r16 hP hS (lv_sub hl [1, 2, 3, 4, 6] rfl) h
                · clear h; intro g19 h
                  refine lv_aload_n hx hb dX11_valueOf_86 rfl (lv_at hl 1 rfl) ?_
                  refine lv_iload hx hb dX11_valueOf_87 (lv_at hl 6 rfl) ?_
                  refine lv_iload_n hx hb dX11_valueOf_89 rfl (lv_at hl 4 rfl) ?_
                  obtain ⟨x18, hv17, h⟩ := q_b_some h
                  refine q_callV hx hb hml hts hown hK hP hS (As := [.int (q_I x5), .int (q_I x1)]) (rest := [.int (q_I x4)]) (st1 := [.int (q_I x18), .int (q_I x4)]) cv_RX11_181 (c_M_stockThen l D dA r5 r1 hv17) (Nat.le_of_ble_eq_true rfl) q_kdM_0 rfl ⟨rfl, rfl, Nat.le_of_ble_eq_true rfl, Nat.le_of_ble_eq_true rfl⟩ ⟨Nat.le_refl _, Nat.le_refl _⟩ rfl hl.1 rfl (Nat.le_of_ble_eq_true rfl) rfl (fun _ g => g) dX11_valueOf_90 ?_
                  clear hP hS hv17; intro H locs r18 hP hS _
                  refine lv_goto (tgt := 109) hx hb dX11_valueOf_93 (by decide) ?_
                  exact hj109 x18 _ _ _ r18 hP hS (lv_sub hl [1, 2, 3, 4, 6] rfl) h
          · clear h; intro j69 hj69 h
            refine q_jn_in h (fun J => ∀ (H : Heap) (locs : List Loc) (ls : Array Slot), q_P D dA q_kdM q_rhoM 22 z sz μ H → va_S (q_A z 22) s.heap H locs → lv_has ls 7 [(0, .ref (z + 0)), (1, .int (q_I a0)), (2, .int (q_I a1)), (3, .int (q_I x1)), (4, .int (q_I x4)), (5, .int (q_I x5))] → J = some xo → W p l e ({ frames := 4, cells := 0, slots := 0, locals := 91 } : Room) s m args below meth c H locs 0 0 Qf (F0 m 64 ls [])) ?_ ?_
            · clear h hl hP hS; intro  H locs ls  hP hS hl h
              refine lv_iconst (v := q_I 1) hx hb dX11_valueOf_64 rfl ?_
              refine lv_goto (tgt := 69) hx hb dX11_valueOf_65 (by decide) ?_
              exact hj69 1 _ _ _ (q_r 1 rfl) hP hS (lv_sub hl [0, 1, 2, 3, 4, 5] rfl) h
            · clear h; intro j64 hj64 h
              refine q_ceq hx hb r8 (q_r 8 rfl) (tgt := 64) dX11_valueOf_50 (by decide) h ?_ ?_
              · clear h; intro g23 h
                exact hj64  _ _ _ hP hS (lv_sub hl [0, 1, 2, 3, 4, 5] rfl) h
              · clear h; intro g23 h
                refine lv_aload_n hx hb dX11_valueOf_53 rfl (lv_at hl 0 rfl) ?_
                refine q_getR hx hb hts hown hK hP fd_RX11_20 (Nat.le_of_ble_eq_true rfl) q_kdM_0 rfl q_rhM_0_7 dX11_valueOf_54 ?_
                refine lv_iload_n hx hb dX11_valueOf_57 rfl (lv_at hl 1 rfl) ?_
                refine q_iald hx hb hK hP (Nat.le_of_ble_eq_true rfl) q_kdM_4 ra0 dX11_valueOf_58 h ?_
                clear h; intro x21 r21 h
                refine lv_iload hx hb dX11_valueOf_59 (lv_at hl 5 rfl) ?_
                refine q_cne hx hb r21 r5 (tgt := 68) dX11_valueOf_61 (by decide) h ?_ ?_
                · clear h; intro g22 h
                  exact hj64  _ _ _ hP hS (lv_sub hl [0, 1, 2, 3, 4, 5] rfl) h
                · clear h; intro g22 h
                  refine lv_iconst (v := q_I 0) hx hb dX11_valueOf_68 rfl ?_
                  exact hj69 0 _ _ _ (q_r 0 rfl) hP hS (lv_sub hl [0, 1, 2, 3, 4, 5] rfl) h
    refine L33 _ ?_  _ x3 0 _ _ _ r3 (q_r 0 rfl) hP hS (lv_sub hl [2, 3, 4, 5, 1, 0] rfl) h
    · clear h hl hP hS; intro x6 H locs ls r6 hP hS hl h
      refine lv_iload hx hb dX11_valueOf_118 (lv_at hl 0 rfl) ?_
      rw [← hQ]
      exact q_ret1 hx hb hr hlocks hP hS r6 h dX11_valueOf_120
  · clear h; intro j28 hj28 h
    refine q_cle hx hb r2 (q_r 7 rfl) (tgt := 27) dX11_valueOf_15 (by decide) h ?_ ?_
    · clear h; intro g27 h
      refine lv_iconst (v := q_I 0) hx hb dX11_valueOf_27 rfl ?_
      exact hj28 0 _ _ _ (q_r 0 rfl) hP hS (lv_sub hl [1, 2, 3, 0] rfl) h
    · clear h; intro g27 h
      refine lv_aload_n hx hb dX11_valueOf_18 rfl (lv_at hl 1 rfl) ?_
      refine lv_iload_n hx hb dX11_valueOf_19 rfl (lv_at hl 0 rfl) ?_
      refine lv_iload_n hx hb dX11_valueOf_20 rfl (lv_at hl 3 rfl) ?_
      obtain ⟨x26, hv25, h⟩ := q_b_some h
      refine q_callV hx hb hml hts hown hK hP hS (As := [.int (q_I x1), .int (q_I a1)]) (rest := []) (st1 := [.int (q_I x26)]) cv_RX11_200 (c_M_transitOf l D dA r1 ra1 hv25) (Nat.le_of_ble_eq_true rfl) q_kdM_0 rfl ⟨rfl, rfl, Nat.le_of_ble_eq_true rfl, Nat.le_of_ble_eq_true rfl⟩ ⟨Nat.le_refl _, Nat.le_refl _⟩ rfl hl.1 rfl (Nat.le_of_ble_eq_true rfl) rfl (fun _ g => g) dX11_valueOf_21 ?_
      clear hP hS hv25; intro H locs r26 hP hS _
      refine lv_goto (tgt := 28) hx hb dX11_valueOf_24 (by decide) ?_
      exact hj28 x26 _ _ _ r26 hP hS (lv_sub hl [1, 2, 3, 0] rfl) h
set_option maxHeartbeats 4000000 in
set_option maxRecDepth 100000 in
theorem c_M_brokenNow (l : Launch) (D : va_G) (dA : Nat → ClassId) {z sz : Nat} {N : Nat} {a0 : Int} (ra0 : q_R a0) {μ : q_M} {xo : Int} (h : f_M_brokenNow N a0 μ = some xo) : Met l yX11_brokenNow (q_wc yX11_brokenNow cX11_brokenNow 4 (some .int)) ({ frames := 5, cells := 0, slots := 0, locals := 117 } : Room) (va_Pc [.ref (z + 0), .int (q_I a0)] (q_B (q_P D dA q_kdM q_rhoM 22 z sz μ) D dA)) (q_Q (some (.int (q_I xo))) (q_R xo) (q_P D dA q_kdM q_rhoM 22 z sz μ) (q_A z 22)) 0 0 (q_A z 22) := by
  refine Met.ofW (cc := cX11_brokenNow) (maxL := 4) (ret := (some .int)) (by decide) rfl ?_
  intro p e s m args below meth c s₁ B hml hv
  obtain ⟨hargs, hP, hK⟩ := hv
  have hx := B.exec
  have hb := B.bytes
  have hr := B.returns
  have hts : ∀ w ∈ q_W, w.before args s = true := fun w hw => atoms_spec (ws := q_wc yX11_brokenNow cX11_brokenNow 4 (some .int)) B.pre w (List.mem_cons_of_mem _ hw)
  have hown : s.vm.findClass RX11 = some m.cls := findClass_of_methodNamed B.named
  have hlocks := B.notSynchronized
  have hS : va_S (q_A z 22) s.heap s.heap [] := va_S.rf
  have hA : ∀ k, k < 22 → q_A z 22 (z + k) := fun k hk => ⟨Nat.le_add_right z k, Nat.add_lt_add_left hk z⟩
  have hl := lv_entry [.ref (z + 0), .int (q_I a0)] (n := 4) (Nat.le_of_ble_eq_true rfl)
  refine W.eq (by rw [hargs, lg_entry_eq]) ?_
  generalize (lg_sl [.ref (z + 0), .int (q_I a0)] ++ List.replicate (4 - (lg_sl [.ref (z + 0), .int (q_I a0)]).length) Slot.unset).toArray = ls at hl ⊢
  have hl : lv_has ls 4 [(0, .ref (z + 0)), (1, .int (q_I a0))] := hl
  generalize hQ : MQ below _ args s 0 0 _ = Qf
  change W p l e ({ frames := 5, cells := 0, slots := 0, locals := 117 } : Room) s m args below meth c s.heap [] 0 0 Qf (F0 m 0 ls [])
  unfold f_M_brokenNow at h
  refine lv_iconst (v := q_I 0) hx hb dX11_brokenNow_0 rfl ?_
  refine lv_istore_n (lv' := [(2, .int (q_I 0)), (0, .ref (z + 0)), (1, .int (q_I a0))]) hx hb dX11_brokenNow_1 rfl hl (by decide) rfl ?_
  clear hl; intro ls hl
  refine lv_iconst (v := q_I 0) hx hb dX11_brokenNow_2 rfl ?_
  refine lv_istore_n (lv' := [(3, .int (q_I 0)), (2, .int (q_I 0)), (0, .ref (z + 0)), (1, .int (q_I a0))]) hx hb dX11_brokenNow_3 rfl hl (by decide) rfl ?_
  clear hl; intro ls hl
  have L4 : ∀ (k42 : Int → Option Int), (∀ (x3 : Int) (H : Heap) (locs : List Loc) (ls : Array Slot), q_R x3 → q_P D dA q_kdM q_rhoM 22 z sz μ H → va_S (q_A z 22) s.heap H locs → lv_has ls 4 [(2, .int (q_I x3))] → k42 x3 = some xo → W p l e ({ frames := 5, cells := 0, slots := 0, locals := 117 } : Room) s m args below meth c H locs 0 0 Qf (F0 m 42 ls [])) → ∀ (nf4 : Nat) (x1 : Int) (x2 : Int) (H : Heap) (locs : List Loc) (ls : Array Slot), q_R x1 → q_R x2 → q_P D dA q_kdM q_rhoM 22 z sz μ H → va_S (q_A z 22) s.heap H locs → lv_has ls 4 [(0, .ref (z + 0)), (1, .int (q_I a0)), (2, .int (q_I x1)), (3, .int (q_I x2))] → f_M_brokenNow_L4 N a0 μ k42 nf4 x1 x2 = some xo → W p l e ({ frames := 5, cells := 0, slots := 0, locals := 117 } : Room) s m args below meth c H locs 0 0 Qf (F0 m 4 ls []) := by
    clear h hl hP hS
    intro k42 hk42 nf4
    induction nf4 with
    | zero =>
      intro x1 x2 H locs ls r1 r2 hP hS hl h
      rw [f_M_brokenNow_L4] at h
      cases h
    | succ nf4 ih4 =>
      intro x1 x2 H locs ls r1 r2 hP hS hl h
      rw [f_M_brokenNow_L4] at h
      refine lv_iload_n hx hb dX11_brokenNow_4 rfl (lv_at hl 3 rfl) ?_
      refine lv_aload_n hx hb dX11_brokenNow_5 rfl (lv_at hl 0 rfl) ?_
      refine q_getI hx hb hts hown hK hP fd_RX11_90 (Nat.le_of_ble_eq_true rfl) q_kdM_0 rfl dX11_brokenNow_6 h ?_
      clear h; intro x4 r4 h
      refine q_cge hx hb r2 r4 (tgt := 42) dX11_brokenNow_9 (by decide) h ?_ ?_
      · clear h; intro g14 h
        exact hk42 x1 _ _ _ r1 hP hS (lv_sub hl [2] rfl) h
      · clear h; intro g14 h
        refine lv_iload_n hx hb dX11_brokenNow_12 rfl (lv_at hl 2 rfl) ?_
        refine lv_aload_n hx hb dX11_brokenNow_13 rfl (lv_at hl 0 rfl) ?_
        refine lv_iload_n hx hb dX11_brokenNow_14 rfl (lv_at hl 3 rfl) ?_
        refine lv_aload_n hx hb dX11_brokenNow_15 rfl (lv_at hl 0 rfl) ?_
        refine lv_iload_n hx hb dX11_brokenNow_16 rfl (lv_at hl 3 rfl) ?_
        refine lv_iload_n hx hb dX11_brokenNow_17 rfl (lv_at hl 1 rfl) ?_
        obtain ⟨x6, hv5, h⟩ := q_b_some h
        refine q_callV hx hb hml hts hown hK hP hS (As := [.int (q_I x2), .int (q_I a0)]) (rest := [.int (q_I x2), .ref (z + 0), .int (q_I x1)]) (st1 := [.int (q_I x6), .int (q_I x2), .ref (z + 0), .int (q_I x1)]) cv_RX11_204 (c_M_valueOf l D dA r2 ra0 hv5) (Nat.le_of_ble_eq_true rfl) q_kdM_0 rfl ⟨rfl, rfl, Nat.le_of_ble_eq_true rfl, Nat.le_of_ble_eq_true rfl⟩ ⟨Nat.le_refl _, Nat.le_refl _⟩ rfl hl.1 rfl (Nat.le_of_ble_eq_true rfl) rfl (fun _ g => g) dX11_brokenNow_18 ?_
        clear hP hS hv5; intro H locs r6 hP hS _
        obtain ⟨x8, hv7, h⟩ := q_b_some h
        refine q_callV hx hb hml hts hown hK hP hS (As := [.int (q_I x2), .int (q_I x6)]) (rest := [.int (q_I x1)]) (st1 := [.int (q_I x8), .int (q_I x1)]) cv_RX11_207 (c_M_keeps l D dA r2 r6 hv7) (Nat.le_of_ble_eq_true rfl) q_kdM_0 rfl ⟨rfl, rfl, Nat.le_of_ble_eq_true rfl, Nat.le_of_ble_eq_true rfl⟩ ⟨Nat.le_refl _, Nat.le_refl _⟩ rfl hl.1 rfl (Nat.le_of_ble_eq_true rfl) rfl (fun _ g => g) dX11_brokenNow_21 ?_
        clear hP hS hv7; intro H locs r8 hP hS _
        refine q_jn_in h (fun J => ∀ (x9 : Int) (H : Heap) (locs : List Loc) (ls : Array Slot), q_R x9 → q_P D dA q_kdM q_rhoM 22 z sz μ H → va_S (q_A z 22) s.heap H locs → lv_has ls 4 [(0, .ref (z + 0)), (1, .int (q_I a0)), (3, .int (q_I x2))] → J x9 = some xo → W p l e ({ frames := 5, cells := 0, slots := 0, locals := 117 } : Room) s m args below meth c H locs 0 0 Qf (F0 m 34 ls [.int (q_I x9), .int (q_I x1)])) ?_ ?_
        · clear h hl hP hS; intro x9 H locs ls r9 hP hS hl h
          refine q_ior hx hb dX11_brokenNow_34 h ?_
          clear h; intro x10 r10 h
          refine lv_istore_n (lv' := [(2, .int (q_I x10)), (0, .ref (z + 0)), (1, .int (q_I a0)), (3, .int (q_I x2))]) hx hb dX11_brokenNow_35 rfl hl (by decide) rfl ?_
          clear hl; intro ls hl
          refine q_iinc (k := 3) (lv' := fun t => [(3, .int (q_I t)), (2, .int (q_I x10)), (0, .ref (z + 0)), (1, .int (q_I a0))]) hx hb dX11_brokenNow_36 hl rfl (by decide) (fun _ => rfl) h ?_
          clear h hl; intro x11 ls r11 hl h
          refine lv_goto (tgt := 4) hx hb dX11_brokenNow_39 (by decide) ?_
          exact ih4 x10 x11 _ _ _ r10 r11 hP hS (lv_sub hl [2, 3, 1, 0] rfl) h
        · clear h; intro j34 hj34 h
          refine q_zeq hx hb r8 (tgt := 31) dX11_brokenNow_24 (by decide) h ?_ ?_
          · clear h; intro g13 h
            refine lv_iconst (v := q_I 1) hx hb dX11_brokenNow_31 rfl ?_
            refine lv_iload_n hx hb dX11_brokenNow_32 rfl (lv_at hl 3 rfl) ?_
            refine q_ishl hx hb dX11_brokenNow_33 h ?_
            clear h; intro x12 r12 h
            exact hj34 x12 _ _ _ r12 hP hS (lv_sub hl [0, 1, 3] rfl) h
          · clear h; intro g13 h
            refine lv_iconst (v := q_I 0) hx hb dX11_brokenNow_27 rfl ?_
            refine lv_goto (tgt := 34) hx hb dX11_brokenNow_28 (by decide) ?_
            exact hj34 0 _ _ _ (q_r 0 rfl) hP hS (lv_sub hl [0, 1, 3] rfl) h
  refine L4 _ ?_  _ 0 0 _ _ _ (q_r 0 rfl) (q_r 0 rfl) hP hS (lv_sub hl [2, 3, 1, 0] rfl) h
  · clear h hl hP hS; intro x3 H locs ls r3 hP hS hl h
    refine lv_iload_n hx hb dX11_brokenNow_42 rfl (lv_at hl 0 rfl) ?_
    rw [← hQ]
    exact q_ret1 hx hb hr hlocks hP hS r3 h dX11_brokenNow_43
set_option maxHeartbeats 4000000 in
set_option maxRecDepth 100000 in
theorem c_M_broken (l : Launch) (D : va_G) (dA : Nat → ClassId) {z sz : Nat} {N : Nat} {a0 : Int} (ra0 : q_R a0) {μ : q_M} {xo : Int} (h : f_M_broken N a0 μ = some xo) : Met l yX11_broken (q_wc yX11_broken cX11_broken 2 (some .int)) ({ frames := 6, cells := 0, slots := 0, locals := 140 } : Room) (va_Pc [.ref (z + 0), .int (q_I a0)] (q_B (q_P D dA q_kdM q_rhoM 22 z sz μ) D dA)) (q_Q (some (.int (q_I xo))) (q_R xo) (q_P D dA q_kdM q_rhoM 22 z sz μ) (q_A z 22)) 0 0 (q_A z 22) := by
  refine Met.ofW (cc := cX11_broken) (maxL := 2) (ret := (some .int)) (by decide) rfl ?_
  intro p e s m args below meth c s₁ B hml hv
  obtain ⟨hargs, hP, hK⟩ := hv
  have hx := B.exec
  have hb := B.bytes
  have hr := B.returns
  have hts : ∀ w ∈ q_W, w.before args s = true := fun w hw => atoms_spec (ws := q_wc yX11_broken cX11_broken 2 (some .int)) B.pre w (List.mem_cons_of_mem _ hw)
  have hown : s.vm.findClass RX11 = some m.cls := findClass_of_methodNamed B.named
  have hlocks := B.notSynchronized
  have hS : va_S (q_A z 22) s.heap s.heap [] := va_S.rf
  have hA : ∀ k, k < 22 → q_A z 22 (z + k) := fun k hk => ⟨Nat.le_add_right z k, Nat.add_lt_add_left hk z⟩
  have hl := lv_entry [.ref (z + 0), .int (q_I a0)] (n := 2) (Nat.le_of_ble_eq_true rfl)
  refine W.eq (by rw [hargs, lg_entry_eq]) ?_
  generalize (lg_sl [.ref (z + 0), .int (q_I a0)] ++ List.replicate (2 - (lg_sl [.ref (z + 0), .int (q_I a0)]).length) Slot.unset).toArray = ls at hl ⊢
  have hl : lv_has ls 2 [(0, .ref (z + 0)), (1, .int (q_I a0))] := hl
  generalize hQ : MQ below _ args s 0 0 _ = Qf
  change W p l e ({ frames := 6, cells := 0, slots := 0, locals := 140 } : Room) s m args below meth c s.heap [] 0 0 Qf (F0 m 0 ls [])
  unfold f_M_broken at h
  refine lv_iload_n hx hb dX11_broken_0 rfl (lv_at hl 1 rfl) ?_
  refine q_jn_in h (fun J => ∀ (x1 : Int) (H : Heap) (locs : List Loc) (ls : Array Slot), q_R x1 → q_P D dA q_kdM q_rhoM 22 z sz μ H → va_S (q_A z 22) s.heap H locs → lv_has ls 2 [] → J x1 = some xo → W p l e ({ frames := 6, cells := 0, slots := 0, locals := 140 } : Room) s m args below meth c H locs 0 0 Qf (F0 m 21 ls [.int (q_I x1)])) ?_ ?_
  · clear h hl hP hS; intro x1 H locs ls r1 hP hS hl h
    rw [← hQ]
    exact q_ret1 hx hb hr hlocks hP hS r1 h dX11_broken_21
  · clear h; intro j21 hj21 h
    refine q_jn_in h (fun J => ∀ (H : Heap) (locs : List Loc) (ls : Array Slot), q_P D dA q_kdM q_rhoM 22 z sz μ H → va_S (q_A z 22) s.heap H locs → lv_has ls 2 [(0, .ref (z + 0)), (1, .int (q_I a0))] → J = some xo → W p l e ({ frames := 6, cells := 0, slots := 0, locals := 140 } : Room) s m args below meth c H locs 0 0 Qf (F0 m 16 ls [])) ?_ ?_
    · clear h hl hP hS; intro  H locs ls  hP hS hl h
      refine lv_aload_n hx hb dX11_broken_16 rfl (lv_at hl 0 rfl) ?_
      refine lv_iload_n hx hb dX11_broken_17 rfl (lv_at hl 1 rfl) ?_
      obtain ⟨x3, hv2, h⟩ := q_b_some h
      refine q_callV hx hb hml hts hown hK hP hS (As := [.int (q_I a0)]) (rest := []) (st1 := [.int (q_I x3)]) cv_RX11_210 (c_M_brokenNow l D dA ra0 hv2) (Nat.le_of_ble_eq_true rfl) q_kdM_0 rfl ⟨rfl, rfl, Nat.le_of_ble_eq_true rfl, Nat.le_of_ble_eq_true rfl⟩ ⟨Nat.le_refl _, Nat.le_refl _⟩ rfl hl.1 rfl (Nat.le_of_ble_eq_true rfl) rfl (fun _ g => g) dX11_broken_18 ?_
      clear hP hS hv2; intro H locs r3 hP hS _
      exact hj21 x3 _ _ _ r3 hP hS (lv_sub hl [] rfl) h
    · clear h; intro j16 hj16 h
      refine q_zeq hx hb ra0 (tgt := 16) dX11_broken_1 (by decide) h ?_ ?_
      · clear h; intro g7 h
        exact hj16  _ _ _ hP hS (lv_sub hl [0, 1] rfl) h
      · clear h; intro g7 h
        refine lv_aload_n hx hb dX11_broken_4 rfl (lv_at hl 0 rfl) ?_
        obtain ⟨x5, hv4, h⟩ := q_b_some h
        refine q_callV hx hb hml hts hown hK hP hS (As := []) (rest := []) (st1 := [.int (q_I x5)]) cv_RX11_178 (c_M_orphansNow l D dA hv4) (Nat.le_of_ble_eq_true rfl) q_kdM_0 rfl ⟨rfl, rfl, Nat.le_of_ble_eq_true rfl, Nat.le_of_ble_eq_true rfl⟩ ⟨Nat.le_refl _, Nat.le_refl _⟩ rfl hl.1 rfl (Nat.le_of_ble_eq_true rfl) rfl (fun _ g => g) dX11_broken_5 ?_
        clear hP hS hv4; intro H locs r5 hP hS _
        refine q_zle hx hb r5 (tgt := 16) dX11_broken_8 (by decide) h ?_ ?_
        · clear h; intro g6 h
          exact hj16  _ _ _ hP hS (lv_sub hl [0, 1] rfl) h
        · clear h; intro g6 h
          refine lv_ldc hx hb hown (hts _ ck_RX11_125) dX11_broken_11 ?_
          refine lv_goto (tgt := 21) hx hb dX11_broken_13 (by decide) ?_
          exact hj21 ((-100004)) _ _ _ (q_r (-100004) rfl) hP hS (lv_sub hl [] rfl) h
set_option maxHeartbeats 4000000 in
set_option maxRecDepth 100000 in
theorem c_M_setMoveCost (l : Launch) (D : va_G) (dA : Nat → ClassId) {z sz : Nat} {a0 : Int} (ra0 : q_R a0) {a1 : Int} (ra1 : q_R a1) {a2 : Int} (ra2 : q_R a2) {μ : q_M} {xo : Int} {μo : q_M} (h : f_M_setMoveCost a0 a1 a2 μ = some (xo, μo)) : Met l yX11_setMoveCost (q_wc yX11_setMoveCost cX11_setMoveCost 5 (some .int)) ({ frames := 3, cells := 0, slots := 0, locals := 65 } : Room) (va_Pc [.ref (z + 0), .int (q_I a0), .int (q_I a1), .int (q_I a2)] (q_B (q_P D dA q_kdM q_rhoM 22 z sz μ) D dA)) (q_Q (some (.int (q_I xo))) (q_R xo) (q_P D dA q_kdM q_rhoM 22 z sz μo) (q_A z 22)) 0 0 (q_A z 22) := by
  refine Met.ofW (cc := cX11_setMoveCost) (maxL := 5) (ret := (some .int)) (by decide) rfl ?_
  intro p e s m args below meth c s₁ B hml hv
  obtain ⟨hargs, hP, hK⟩ := hv
  have hx := B.exec
  have hb := B.bytes
  have hr := B.returns
  have hts : ∀ w ∈ q_W, w.before args s = true := fun w hw => atoms_spec (ws := q_wc yX11_setMoveCost cX11_setMoveCost 5 (some .int)) B.pre w (List.mem_cons_of_mem _ hw)
  have hown : s.vm.findClass RX11 = some m.cls := findClass_of_methodNamed B.named
  have hlocks := B.notSynchronized
  have hS : va_S (q_A z 22) s.heap s.heap [] := va_S.rf
  have hA : ∀ k, k < 22 → q_A z 22 (z + k) := fun k hk => ⟨Nat.le_add_right z k, Nat.add_lt_add_left hk z⟩
  have hl := lv_entry [.ref (z + 0), .int (q_I a0), .int (q_I a1), .int (q_I a2)] (n := 5) (Nat.le_of_ble_eq_true rfl)
  refine W.eq (by rw [hargs, lg_entry_eq]) ?_
  generalize (lg_sl [.ref (z + 0), .int (q_I a0), .int (q_I a1), .int (q_I a2)] ++ List.replicate (5 - (lg_sl [.ref (z + 0), .int (q_I a0), .int (q_I a1), .int (q_I a2)]).length) Slot.unset).toArray = ls at hl ⊢
  have hl : lv_has ls 5 [(0, .ref (z + 0)), (1, .int (q_I a0)), (2, .int (q_I a1)), (3, .int (q_I a2))] := hl
  generalize hQ : MQ below _ args s 0 0 _ = Qf
  change W p l e ({ frames := 3, cells := 0, slots := 0, locals := 65 } : Room) s m args below meth c s.heap [] 0 0 Qf (F0 m 0 ls [])
  unfold f_M_setMoveCost at h
  refine lv_aload_n hx hb dX11_setMoveCost_0 rfl (lv_at hl 0 rfl) ?_
  refine lv_iload_n hx hb dX11_setMoveCost_1 rfl (lv_at hl 1 rfl) ?_
  refine lv_iload_n hx hb dX11_setMoveCost_2 rfl (lv_at hl 2 rfl) ?_
  obtain ⟨x2, hv1, h⟩ := q_b_some h
  refine q_callV hx hb hml hts hown hK hP hS (As := [.int (q_I a0), .int (q_I a1)]) (rest := []) (st1 := [.int (q_I x2)]) cv_RX11_142 (c_M_noChannel l D dA ra0 ra1 hv1) (Nat.le_of_ble_eq_true rfl) q_kdM_0 rfl ⟨rfl, rfl, Nat.le_of_ble_eq_true rfl, Nat.le_of_ble_eq_true rfl⟩ ⟨Nat.le_refl _, Nat.le_refl _⟩ rfl hl.1 rfl (Nat.le_of_ble_eq_true rfl) rfl (fun _ g => g) dX11_setMoveCost_3 ?_
  clear hP hS hv1; intro H locs r2 hP hS _
  refine q_zeq hx hb r2 (tgt := 12) dX11_setMoveCost_6 (by decide) h ?_ ?_
  · clear h; intro g12 h
    refine lv_iload_n hx hb dX11_setMoveCost_12 rfl (lv_at hl 3 rfl) ?_
    refine lv_iconst (v := q_I 1) hx hb dX11_setMoveCost_13 rfl ?_
    refine lv_sipush (v := q_I 1000) hx hb dX11_setMoveCost_14 (by decide) ?_
    obtain ⟨x4, hv3, h⟩ := q_b_some h
    refine q_callS hx hb hml hts hown hK hP hS (As := [.int (q_I a2), .int (q_I 1), .int (q_I 1000)]) (rest := []) (st1 := [.int (q_I x4)]) cs_RX11_99 (c_M_in l D dA ra2 (q_r 1 rfl) (q_r 1000 rfl) hv3) ⟨rfl, rfl, Nat.le_of_ble_eq_true rfl, Nat.le_of_ble_eq_true rfl⟩ ⟨Nat.le_refl _, Nat.le_refl _⟩ rfl hl.1 rfl (Nat.le_of_ble_eq_true rfl) rfl (fun _ g => g) dX11_setMoveCost_17 ?_
    clear hP hS hv3; intro H locs r4 hP hS _
    refine q_zne hx hb r4 (tgt := 26) dX11_setMoveCost_20 (by decide) h ?_ ?_
    · clear h; intro g11 h
      refine lv_ldc hx hb hown (hts _ ck_RX11_103) dX11_setMoveCost_23 ?_
      rw [← hQ]
      exact q_ret2 hx hb hr hlocks hP hS (q_r (-100002) rfl) h dX11_setMoveCost_25
    · clear h; intro g11 h
      refine lv_aload_n hx hb dX11_setMoveCost_26 rfl (lv_at hl 0 rfl) ?_
      refine q_getR hx hb hts hown hK hP fd_RX11_32 (Nat.le_of_ble_eq_true rfl) q_kdM_0 rfl q_rhM_0_11 dX11_setMoveCost_27 ?_
      refine lv_iconst (v := q_I 5) hx hb dX11_setMoveCost_30 rfl ?_
      refine lv_iload_n hx hb dX11_setMoveCost_31 rfl (lv_at hl 1 rfl) ?_
      refine q_imul hx hb dX11_setMoveCost_32 h ?_
      clear h; intro x5 r5 h
      refine lv_iload_n hx hb dX11_setMoveCost_33 rfl (lv_at hl 2 rfl) ?_
      refine q_iadd hx hb dX11_setMoveCost_34 h ?_
      clear h; intro x6 r6 h
      refine q_iald hx hb hK hP (Nat.le_of_ble_eq_true rfl) q_kdM_8 r6 dX11_setMoveCost_35 h ?_
      clear h; intro x7 r7 h
      refine lv_istore (lv' := [(4, .int (q_I x7)), (0, .ref (z + 0)), (1, .int (q_I a0)), (2, .int (q_I a1)), (3, .int (q_I a2))]) hx hb dX11_setMoveCost_36 hl (by decide) rfl ?_
      clear hl; intro ls hl
      refine lv_aload_n hx hb dX11_setMoveCost_38 rfl (lv_at hl 1 rfl) ?_
      refine q_getR hx hb hts hown hK hP fd_RX11_32 (Nat.le_of_ble_eq_true rfl) q_kdM_0 rfl q_rhM_0_11 dX11_setMoveCost_39 ?_
      refine lv_iconst (v := q_I 5) hx hb dX11_setMoveCost_42 rfl ?_
      refine lv_iload_n hx hb dX11_setMoveCost_43 rfl (lv_at hl 2 rfl) ?_
      refine q_imul hx hb dX11_setMoveCost_44 h ?_
      clear h; intro x8 r8 h
      refine lv_iload_n hx hb dX11_setMoveCost_45 rfl (lv_at hl 3 rfl) ?_
      refine q_iadd hx hb dX11_setMoveCost_46 h ?_
      clear h; intro x9 r9 h
      refine lv_iload_n hx hb dX11_setMoveCost_47 rfl (lv_at hl 4 rfl) ?_
      refine q_iast hx hb hK hP hS hA (Nat.le_of_ble_eq_true rfl) q_kdM_8 r9 ra2 dX11_setMoveCost_48 h ?_
      clear h hP hS; intro μ10 H locs hP hS h
      refine lv_iload hx hb dX11_setMoveCost_49 (lv_at hl 0 rfl) ?_
      rw [← hQ]
      exact q_ret2 hx hb hr hlocks hP hS r7 h dX11_setMoveCost_51
  · clear h; intro g12 h
    refine lv_ldc hx hb hown (hts _ ck_RX11_112) dX11_setMoveCost_9 ?_
    rw [← hQ]
    exact q_ret2 hx hb hr hlocks hP hS (q_r (-100001) rfl) h dX11_setMoveCost_11
set_option maxHeartbeats 4000000 in
set_option maxRecDepth 100000 in
theorem c_M_setOutsideCosts (l : Launch) (D : va_G) (dA : Nat → ClassId) {z sz : Nat} {a0 : Int} (ra0 : q_R a0) {a1 : Int} (ra1 : q_R a1) {μ : q_M} {xo : Int} {μo : q_M} (h : f_M_setOutsideCosts a0 a1 μ = some (xo, μo)) : Met l yX11_setOutsideCosts (q_wc yX11_setOutsideCosts cX11_setOutsideCosts 4 (some .int)) ({ frames := 1, cells := 0, slots := 0, locals := 22 } : Room) (va_Pc [.ref (z + 0), .int (q_I a0), .int (q_I a1)] (q_B (q_P D dA q_kdM q_rhoM 22 z sz μ) D dA)) (q_Q (some (.int (q_I xo))) (q_R xo) (q_P D dA q_kdM q_rhoM 22 z sz μo) (q_A z 22)) 0 0 (q_A z 22) := by
  refine Met.ofW (cc := cX11_setOutsideCosts) (maxL := 4) (ret := (some .int)) (by decide) rfl ?_
  intro p e s m args below meth c s₁ B hml hv
  obtain ⟨hargs, hP, hK⟩ := hv
  have hx := B.exec
  have hb := B.bytes
  have hr := B.returns
  have hts : ∀ w ∈ q_W, w.before args s = true := fun w hw => atoms_spec (ws := q_wc yX11_setOutsideCosts cX11_setOutsideCosts 4 (some .int)) B.pre w (List.mem_cons_of_mem _ hw)
  have hown : s.vm.findClass RX11 = some m.cls := findClass_of_methodNamed B.named
  have hlocks := B.notSynchronized
  have hS : va_S (q_A z 22) s.heap s.heap [] := va_S.rf
  have hA : ∀ k, k < 22 → q_A z 22 (z + k) := fun k hk => ⟨Nat.le_add_right z k, Nat.add_lt_add_left hk z⟩
  have hl := lv_entry [.ref (z + 0), .int (q_I a0), .int (q_I a1)] (n := 4) (Nat.le_of_ble_eq_true rfl)
  refine W.eq (by rw [hargs, lg_entry_eq]) ?_
  generalize (lg_sl [.ref (z + 0), .int (q_I a0), .int (q_I a1)] ++ List.replicate (4 - (lg_sl [.ref (z + 0), .int (q_I a0), .int (q_I a1)]).length) Slot.unset).toArray = ls at hl ⊢
  have hl : lv_has ls 4 [(0, .ref (z + 0)), (1, .int (q_I a0)), (2, .int (q_I a1))] := hl
  generalize hQ : MQ below _ args s 0 0 _ = Qf
  change W p l e ({ frames := 1, cells := 0, slots := 0, locals := 22 } : Room) s m args below meth c s.heap [] 0 0 Qf (F0 m 0 ls [])
  unfold f_M_setOutsideCosts at h
  refine lv_iload_n hx hb dX11_setOutsideCosts_0 rfl (lv_at hl 1 rfl) ?_
  refine lv_iconst (v := q_I 1) hx hb dX11_setOutsideCosts_1 rfl ?_
  refine lv_sipush (v := q_I 1000) hx hb dX11_setOutsideCosts_2 (by decide) ?_
  obtain ⟨x2, hv1, h⟩ := q_b_some h
  refine q_callS hx hb hml hts hown hK hP hS (As := [.int (q_I a0), .int (q_I 1), .int (q_I 1000)]) (rest := []) (st1 := [.int (q_I x2)]) cs_RX11_99 (c_M_in l D dA ra0 (q_r 1 rfl) (q_r 1000 rfl) hv1) ⟨rfl, rfl, Nat.le_of_ble_eq_true rfl, Nat.le_of_ble_eq_true rfl⟩ ⟨Nat.le_refl _, Nat.le_refl _⟩ rfl hl.1 rfl (Nat.le_of_ble_eq_true rfl) rfl (fun _ g => g) dX11_setOutsideCosts_5 ?_
  clear hP hS hv1; intro H locs r2 hP hS _
  refine q_jn_in h (fun J => ∀ (H : Heap) (locs : List Loc) (ls : Array Slot), q_P D dA q_kdM q_rhoM 22 z sz μ H → va_S (q_A z 22) s.heap H locs → lv_has ls 4 [] → J = some (xo, μo) → W p l e ({ frames := 1, cells := 0, slots := 0, locals := 22 } : Room) s m args below meth c H locs 0 0 Qf (F0 m 22 ls [])) ?_ ?_
  · clear h hl hP hS; intro  H locs ls  hP hS hl h
    refine lv_ldc hx hb hown (hts _ ck_RX11_103) dX11_setOutsideCosts_22 ?_
    rw [← hQ]
    exact q_ret2 hx hb hr hlocks hP hS (q_r (-100002) rfl) h dX11_setOutsideCosts_24
  · clear h; intro j22 hj22 h
    refine q_zeq hx hb r2 (tgt := 22) dX11_setOutsideCosts_8 (by decide) h ?_ ?_
    · clear h; intro g13 h
      exact hj22  _ _ _ hP hS (lv_sub hl [] rfl) h
    · clear h; intro g13 h
      refine lv_iload_n hx hb dX11_setOutsideCosts_11 rfl (lv_at hl 2 rfl) ?_
      refine lv_iconst (v := q_I 1) hx hb dX11_setOutsideCosts_12 rfl ?_
      refine lv_sipush (v := q_I 1000) hx hb dX11_setOutsideCosts_13 (by decide) ?_
      obtain ⟨x4, hv3, h⟩ := q_b_some h
      refine q_callS hx hb hml hts hown hK hP hS (As := [.int (q_I a1), .int (q_I 1), .int (q_I 1000)]) (rest := []) (st1 := [.int (q_I x4)]) cs_RX11_99 (c_M_in l D dA ra1 (q_r 1 rfl) (q_r 1000 rfl) hv3) ⟨rfl, rfl, Nat.le_of_ble_eq_true rfl, Nat.le_of_ble_eq_true rfl⟩ ⟨Nat.le_refl _, Nat.le_refl _⟩ rfl hl.1 rfl (Nat.le_of_ble_eq_true rfl) rfl (fun _ g => g) dX11_setOutsideCosts_16 ?_
      clear hP hS hv3; intro H locs r4 hP hS _
      refine q_zne hx hb r4 (tgt := 25) dX11_setOutsideCosts_19 (by decide) h ?_ ?_
      · clear h; intro g12 h
        exact hj22  _ _ _ hP hS (lv_sub hl [] rfl) h
      · clear h; intro g12 h
        refine lv_aload_n hx hb dX11_setOutsideCosts_25 rfl (lv_at hl 0 rfl) ?_
        refine q_getI hx hb hts hown hK hP fd_RX11_93 (Nat.le_of_ble_eq_true rfl) q_kdM_0 rfl dX11_setOutsideCosts_26 h ?_
        clear h; intro x5 r5 h
        refine lv_iload_n hx hb dX11_setOutsideCosts_29 rfl (lv_at hl 1 rfl) ?_
        refine q_jn_in h (fun J => ∀ (x6 : Int) (H : Heap) (locs : List Loc) (ls : Array Slot), q_R x6 → q_P D dA q_kdM q_rhoM 22 z sz μ H → va_S (q_A z 22) s.heap H locs → lv_has ls 4 [(0, .ref (z + 0)), (1, .int (q_I a0)), (2, .int (q_I a1))] → J x6 = some (xo, μo) → W p l e ({ frames := 1, cells := 0, slots := 0, locals := 22 } : Room) s m args below meth c H locs 0 0 Qf (F0 m 46 ls [.int (q_I x6)])) ?_ ?_
        · clear h hl hP hS; intro x6 H locs ls r6 hP hS hl h
          refine lv_istore_n (lv' := [(3, .int (q_I x6)), (0, .ref (z + 0)), (1, .int (q_I a0)), (2, .int (q_I a1))]) hx hb dX11_setOutsideCosts_46 rfl hl (by decide) rfl ?_
          clear hl; intro ls hl
          refine lv_aload_n hx hb dX11_setOutsideCosts_47 rfl (lv_at hl 1 rfl) ?_
          refine lv_iload_n hx hb dX11_setOutsideCosts_48 rfl (lv_at hl 2 rfl) ?_
          refine q_putI hx hb hts hown hK hP hS hA fd_RX11_93 (Nat.le_of_ble_eq_true rfl) q_kdM_0 rfl ra0 dX11_setOutsideCosts_49 h ?_
          clear h hP hS; intro μ7 H locs hP hS h
          refine lv_aload_n hx hb dX11_setOutsideCosts_52 rfl (lv_at hl 1 rfl) ?_
          refine lv_iload_n hx hb dX11_setOutsideCosts_53 rfl (lv_at hl 3 rfl) ?_
          refine q_putI hx hb hts hown hK hP hS hA fd_RX11_96 (Nat.le_of_ble_eq_true rfl) q_kdM_0 rfl ra1 dX11_setOutsideCosts_54 h ?_
          clear h hP hS; intro μ8 H locs hP hS h
          refine lv_iload_n hx hb dX11_setOutsideCosts_57 rfl (lv_at hl 0 rfl) ?_
          rw [← hQ]
          exact q_ret2 hx hb hr hlocks hP hS r6 h dX11_setOutsideCosts_58
        · clear h; intro j46 hj46 h
          refine q_jn_in h (fun J => ∀ (H : Heap) (locs : List Loc) (ls : Array Slot), q_P D dA q_kdM q_rhoM 22 z sz μ H → va_S (q_A z 22) s.heap H locs → lv_has ls 4 [(0, .ref (z + 0)), (1, .int (q_I a0)), (2, .int (q_I a1))] → J = some (xo, μo) → W p l e ({ frames := 1, cells := 0, slots := 0, locals := 22 } : Room) s m args below meth c H locs 0 0 Qf (F0 m 41 ls [])) ?_ ?_
          · clear h hl hP hS; intro  H locs ls  hP hS hl h
            refine lv_iconst (v := q_I 1) hx hb dX11_setOutsideCosts_41 rfl ?_
            refine lv_goto (tgt := 46) hx hb dX11_setOutsideCosts_42 (by decide) ?_
            exact hj46 1 _ _ _ (q_r 1 rfl) hP hS (lv_sub hl [0, 1, 2] rfl) h
          · clear h; intro j41 hj41 h
            refine q_cne hx hb r5 ra0 (tgt := 41) dX11_setOutsideCosts_30 (by decide) h ?_ ?_
            · clear h; intro g11 h
              refine lv_aload_n hx hb dX11_setOutsideCosts_33 rfl (lv_at hl 0 rfl) ?_
              refine q_getI hx hb hts hown hK hP fd_RX11_96 (Nat.le_of_ble_eq_true rfl) q_kdM_0 rfl dX11_setOutsideCosts_34 h ?_
              clear h; intro x9 r9 h
              refine lv_iload_n hx hb dX11_setOutsideCosts_37 rfl (lv_at hl 2 rfl) ?_
              refine q_ceq hx hb r9 ra1 (tgt := 45) dX11_setOutsideCosts_38 (by decide) h ?_ ?_
              · clear h; intro g10 h
                refine lv_iconst (v := q_I 0) hx hb dX11_setOutsideCosts_45 rfl ?_
                exact hj46 0 _ _ _ (q_r 0 rfl) hP hS (lv_sub hl [0, 1, 2] rfl) h
              · clear h; intro g10 h
                exact hj41  _ _ _ hP hS (lv_sub hl [0, 1, 2] rfl) h
            · clear h; intro g11 h
              exact hj41  _ _ _ hP hS (lv_sub hl [0, 1, 2] rfl) h
set_option maxHeartbeats 4000000 in
set_option maxRecDepth 100000 in
theorem c_M_edge (l : Launch) (D : va_G) (dA : Nat → ClassId) {z sz : Nat} {a0 : Int} (ra0 : q_R a0) {a1 : Int} (ra1 : q_R a1) {a2 : Int} (ra2 : q_R a2) {a3 : Int} (ra3 : q_R a3) {a4 : Int} (ra4 : q_R a4) {a5 : Int} (ra5 : q_R a5) {μ : q_M} {μo : q_M} (h : f_M_edge a0 a1 a2 a3 a4 a5 μ = some μo) : Met l yX11_edge (q_wc yX11_edge cX11_edge 7 none) ({ frames := 0, cells := 0, slots := 0, locals := 0 } : Room) (va_Pc [.ref (z + 0), .int (q_I a0), .int (q_I a1), .int (q_I a2), .int (q_I a3), .int (q_I a4), .int (q_I a5)] (q_B (q_P D dA q_kdM q_rhoM 22 z sz μ) D dA)) (q_Q none True (q_P D dA q_kdM q_rhoM 22 z sz μo) (q_A z 22)) 0 0 (q_A z 22) := by
  refine Met.ofW (cc := cX11_edge) (maxL := 7) (ret := none) (by decide) rfl ?_
  intro p e s m args below meth c s₁ B hml hv
  obtain ⟨hargs, hP, hK⟩ := hv
  have hx := B.exec
  have hb := B.bytes
  have hr := B.returns
  have hts : ∀ w ∈ q_W, w.before args s = true := fun w hw => atoms_spec (ws := q_wc yX11_edge cX11_edge 7 none) B.pre w (List.mem_cons_of_mem _ hw)
  have hown : s.vm.findClass RX11 = some m.cls := findClass_of_methodNamed B.named
  have hlocks := B.notSynchronized
  have hS : va_S (q_A z 22) s.heap s.heap [] := va_S.rf
  have hA : ∀ k, k < 22 → q_A z 22 (z + k) := fun k hk => ⟨Nat.le_add_right z k, Nat.add_lt_add_left hk z⟩
  have hl := lv_entry [.ref (z + 0), .int (q_I a0), .int (q_I a1), .int (q_I a2), .int (q_I a3), .int (q_I a4), .int (q_I a5)] (n := 7) (Nat.le_of_ble_eq_true rfl)
  refine W.eq (by rw [hargs, lg_entry_eq]) ?_
  generalize (lg_sl [.ref (z + 0), .int (q_I a0), .int (q_I a1), .int (q_I a2), .int (q_I a3), .int (q_I a4), .int (q_I a5)] ++ List.replicate (7 - (lg_sl [.ref (z + 0), .int (q_I a0), .int (q_I a1), .int (q_I a2), .int (q_I a3), .int (q_I a4), .int (q_I a5)]).length) Slot.unset).toArray = ls at hl ⊢
  have hl : lv_has ls 7 [(0, .ref (z + 0)), (1, .int (q_I a0)), (2, .int (q_I a1)), (3, .int (q_I a2)), (4, .int (q_I a3)), (5, .int (q_I a4)), (6, .int (q_I a5))] := hl
  generalize hQ : MQ below _ args s 0 0 _ = Qf
  change W p l e ({ frames := 0, cells := 0, slots := 0, locals := 0 } : Room) s m args below meth c s.heap [] 0 0 Qf (F0 m 0 ls [])
  unfold f_M_edge at h
  refine lv_aload_n hx hb dX11_edge_0 rfl (lv_at hl 0 rfl) ?_
  refine q_getR hx hb hts hown hK hP fd_RX11_35 (Nat.le_of_ble_eq_true rfl) q_kdM_0 rfl q_rhM_0_15 dX11_edge_1 ?_
  refine lv_aload_n hx hb dX11_edge_4 rfl (lv_at hl 0 rfl) ?_
  refine q_getI hx hb hts hown hK hP fd_RX11_214 (Nat.le_of_ble_eq_true rfl) q_kdM_0 rfl dX11_edge_5 h ?_
  clear h; intro x1 r1 h
  refine lv_iload_n hx hb dX11_edge_8 rfl (lv_at hl 1 rfl) ?_
  refine q_iast hx hb hK hP hS hA (Nat.le_of_ble_eq_true rfl) q_kdM_9 r1 ra0 dX11_edge_9 h ?_
  clear h hP hS; intro μ2 H locs hP hS h
  refine lv_aload_n hx hb dX11_edge_10 rfl (lv_at hl 0 rfl) ?_
  refine q_getR hx hb hts hown hK hP fd_RX11_38 (Nat.le_of_ble_eq_true rfl) q_kdM_0 rfl q_rhM_0_16 dX11_edge_11 ?_
  refine lv_aload_n hx hb dX11_edge_14 rfl (lv_at hl 0 rfl) ?_
  refine q_getI hx hb hts hown hK hP fd_RX11_214 (Nat.le_of_ble_eq_true rfl) q_kdM_0 rfl dX11_edge_15 h ?_
  clear h; intro x3 r3 h
  refine lv_iload_n hx hb dX11_edge_18 rfl (lv_at hl 2 rfl) ?_
  refine q_iast hx hb hK hP hS hA (Nat.le_of_ble_eq_true rfl) q_kdM_10 r3 ra1 dX11_edge_19 h ?_
  clear h hP hS; intro μ4 H locs hP hS h
  refine lv_aload_n hx hb dX11_edge_20 rfl (lv_at hl 0 rfl) ?_
  refine q_getR hx hb hts hown hK hP fd_RX11_44 (Nat.le_of_ble_eq_true rfl) q_kdM_0 rfl q_rhM_0_18 dX11_edge_21 ?_
  refine lv_aload_n hx hb dX11_edge_24 rfl (lv_at hl 0 rfl) ?_
  refine q_getI hx hb hts hown hK hP fd_RX11_214 (Nat.le_of_ble_eq_true rfl) q_kdM_0 rfl dX11_edge_25 h ?_
  clear h; intro x5 r5 h
  refine lv_iload_n hx hb dX11_edge_28 rfl (lv_at hl 3 rfl) ?_
  refine q_iast hx hb hK hP hS hA (Nat.le_of_ble_eq_true rfl) q_kdM_12 r5 ra2 dX11_edge_29 h ?_
  clear h hP hS; intro μ6 H locs hP hS h
  refine lv_aload_n hx hb dX11_edge_30 rfl (lv_at hl 0 rfl) ?_
  refine q_getR hx hb hts hown hK hP fd_RX11_41 (Nat.le_of_ble_eq_true rfl) q_kdM_0 rfl q_rhM_0_17 dX11_edge_31 ?_
  refine lv_aload_n hx hb dX11_edge_34 rfl (lv_at hl 0 rfl) ?_
  refine q_getI hx hb hts hown hK hP fd_RX11_214 (Nat.le_of_ble_eq_true rfl) q_kdM_0 rfl dX11_edge_35 h ?_
  clear h; intro x7 r7 h
  refine lv_iload hx hb dX11_edge_38 (lv_at hl 4 rfl) ?_
  refine q_iast hx hb hK hP hS hA (Nat.le_of_ble_eq_true rfl) q_kdM_11 r7 ra3 dX11_edge_40 h ?_
  clear h hP hS; intro μ8 H locs hP hS h
  refine lv_aload_n hx hb dX11_edge_41 rfl (lv_at hl 0 rfl) ?_
  refine q_getR hx hb hts hown hK hP fd_RX11_47 (Nat.le_of_ble_eq_true rfl) q_kdM_0 rfl q_rhM_0_19 dX11_edge_42 ?_
  refine lv_aload_n hx hb dX11_edge_45 rfl (lv_at hl 0 rfl) ?_
  refine q_getI hx hb hts hown hK hP fd_RX11_214 (Nat.le_of_ble_eq_true rfl) q_kdM_0 rfl dX11_edge_46 h ?_
  clear h; intro x9 r9 h
  refine lv_iload hx hb dX11_edge_49 (lv_at hl 5 rfl) ?_
  refine q_iast hx hb hK hP hS hA (Nat.le_of_ble_eq_true rfl) q_kdM_13 r9 ra4 dX11_edge_51 h ?_
  clear h hP hS; intro μ10 H locs hP hS h
  refine lv_aload_n hx hb dX11_edge_52 rfl (lv_at hl 0 rfl) ?_
  refine q_getR hx hb hts hown hK hP fd_RX11_50 (Nat.le_of_ble_eq_true rfl) q_kdM_0 rfl q_rhM_0_20 dX11_edge_53 ?_
  refine lv_aload_n hx hb dX11_edge_56 rfl (lv_at hl 0 rfl) ?_
  refine q_getI hx hb hts hown hK hP fd_RX11_214 (Nat.le_of_ble_eq_true rfl) q_kdM_0 rfl dX11_edge_57 h ?_
  clear h; intro x11 r11 h
  refine lv_iload hx hb dX11_edge_60 (lv_at hl 6 rfl) ?_
  refine q_iast hx hb hK hP hS hA (Nat.le_of_ble_eq_true rfl) q_kdM_14 r11 ra5 dX11_edge_62 h ?_
  clear h hP hS; intro μ12 H locs hP hS h
  refine lv_aload_n hx hb dX11_edge_63 rfl (lv_at hl 0 rfl) ?_
  refine q_getR hx hb hts hown hK hP fd_RX11_53 (Nat.le_of_ble_eq_true rfl) q_kdM_0 rfl q_rhM_0_21 dX11_edge_64 ?_
  refine lv_aload_n hx hb dX11_edge_67 rfl (lv_at hl 0 rfl) ?_
  refine q_getI hx hb hts hown hK hP fd_RX11_214 (Nat.le_of_ble_eq_true rfl) q_kdM_0 rfl dX11_edge_68 h ?_
  clear h; intro x13 r13 h
  refine lv_iload_n hx hb dX11_edge_71 rfl (lv_at hl 3 rfl) ?_
  refine q_iast hx hb hK hP hS hA (Nat.le_of_ble_eq_true rfl) q_kdM_15 r13 ra2 dX11_edge_72 h ?_
  clear h hP hS; intro μ14 H locs hP hS h
  refine lv_aload_n hx hb dX11_edge_73 rfl (lv_at hl 0 rfl) ?_
  refine q_getR hx hb hts hown hK hP fd_RX11_56 (Nat.le_of_ble_eq_true rfl) q_kdM_0 rfl q_rhM_0_22 dX11_edge_74 ?_
  refine lv_iload_n hx hb dX11_edge_77 rfl (lv_at hl 1 rfl) ?_
  refine lv_dup2_11 hx hb dX11_edge_78 rfl rfl ?_
  refine q_iald hx hb hK hP (Nat.le_of_ble_eq_true rfl) q_kdM_16 ra0 dX11_edge_79 h ?_
  clear h; intro x15 r15 h
  refine lv_iload_n hx hb dX11_edge_80 rfl (lv_at hl 3 rfl) ?_
  refine q_isub hx hb dX11_edge_81 h ?_
  clear h; intro x16 r16 h
  refine q_iast hx hb hK hP hS hA (Nat.le_of_ble_eq_true rfl) q_kdM_16 ra0 r16 dX11_edge_82 h ?_
  clear h hP hS; intro μ17 H locs hP hS h
  refine lv_aload_n hx hb dX11_edge_83 rfl (lv_at hl 0 rfl) ?_
  refine q_getR hx hb hts hown hK hP fd_RX11_56 (Nat.le_of_ble_eq_true rfl) q_kdM_0 rfl q_rhM_0_22 dX11_edge_84 ?_
  refine lv_iload_n hx hb dX11_edge_87 rfl (lv_at hl 2 rfl) ?_
  refine lv_dup2_11 hx hb dX11_edge_88 rfl rfl ?_
  refine q_iald hx hb hK hP (Nat.le_of_ble_eq_true rfl) q_kdM_16 ra1 dX11_edge_89 h ?_
  clear h; intro x18 r18 h
  refine lv_iload_n hx hb dX11_edge_90 rfl (lv_at hl 3 rfl) ?_
  refine q_iadd hx hb dX11_edge_91 h ?_
  clear h; intro x19 r19 h
  refine q_iast hx hb hK hP hS hA (Nat.le_of_ble_eq_true rfl) q_kdM_16 ra1 r19 dX11_edge_92 h ?_
  clear h hP hS; intro μ20 H locs hP hS h
  refine lv_aload_n hx hb dX11_edge_93 rfl (lv_at hl 0 rfl) ?_
  refine lv_dup hx hb dX11_edge_94 rfl ?_
  refine q_getI hx hb hts hown hK hP fd_RX11_214 (Nat.le_of_ble_eq_true rfl) q_kdM_0 rfl dX11_edge_95 h ?_
  clear h; intro x21 r21 h
  refine lv_iconst (v := q_I 1) hx hb dX11_edge_98 rfl ?_
  refine q_iadd hx hb dX11_edge_99 h ?_
  clear h; intro x22 r22 h
  refine q_putI hx hb hts hown hK hP hS hA fd_RX11_214 (Nat.le_of_ble_eq_true rfl) q_kdM_0 rfl r22 dX11_edge_100 h ?_
  clear h hP hS; intro μ23 H locs hP hS h
  rw [← hQ]
  exact q_retv hx hb hr hlocks hP hS h dX11_edge_103
set_option maxHeartbeats 4000000 in
set_option maxRecDepth 100000 in
theorem c_M_findBounds (l : Launch) (D : va_G) (dA : Nat → ClassId) {z sz : Nat} {N : Nat} {a0 : Int} (ra0 : q_R a0) {a1 : Int} (ra1 : q_R a1) {a2 : Int} (ra2 : q_R a2) {μ : q_M} {μo : q_M} (h : f_M_findBounds N a0 a1 a2 μ = some μo) : Met l yX11_findBounds (q_wc yX11_findBounds cX11_findBounds 6 none) ({ frames := 0, cells := 0, slots := 0, locals := 0 } : Room) (va_Pc [.ref (z + 0), .int (q_I a0), .int (q_I a1), .int (q_I a2)] (q_B (q_P D dA q_kdM q_rhoM 22 z sz μ) D dA)) (q_Q none True (q_P D dA q_kdM q_rhoM 22 z sz μo) (q_A z 22)) 0 0 (q_A z 22) := by
  refine Met.ofW (cc := cX11_findBounds) (maxL := 6) (ret := none) (by decide) rfl ?_
  intro p e s m args below meth c s₁ B hml hv
  obtain ⟨hargs, hP, hK⟩ := hv
  have hx := B.exec
  have hb := B.bytes
  have hr := B.returns
  have hts : ∀ w ∈ q_W, w.before args s = true := fun w hw => atoms_spec (ws := q_wc yX11_findBounds cX11_findBounds 6 none) B.pre w (List.mem_cons_of_mem _ hw)
  have hown : s.vm.findClass RX11 = some m.cls := findClass_of_methodNamed B.named
  have hlocks := B.notSynchronized
  have hS : va_S (q_A z 22) s.heap s.heap [] := va_S.rf
  have hA : ∀ k, k < 22 → q_A z 22 (z + k) := fun k hk => ⟨Nat.le_add_right z k, Nat.add_lt_add_left hk z⟩
  have hl := lv_entry [.ref (z + 0), .int (q_I a0), .int (q_I a1), .int (q_I a2)] (n := 6) (Nat.le_of_ble_eq_true rfl)
  refine W.eq (by rw [hargs, lg_entry_eq]) ?_
  generalize (lg_sl [.ref (z + 0), .int (q_I a0), .int (q_I a1), .int (q_I a2)] ++ List.replicate (6 - (lg_sl [.ref (z + 0), .int (q_I a0), .int (q_I a1), .int (q_I a2)]).length) Slot.unset).toArray = ls at hl ⊢
  have hl : lv_has ls 6 [(0, .ref (z + 0)), (1, .int (q_I a0)), (2, .int (q_I a1)), (3, .int (q_I a2))] := hl
  generalize hQ : MQ below _ args s 0 0 _ = Qf
  change W p l e ({ frames := 0, cells := 0, slots := 0, locals := 0 } : Room) s m args below meth c s.heap [] 0 0 Qf (F0 m 0 ls [])
  unfold f_M_findBounds at h
  refine lv_aload_n hx hb dX11_findBounds_0 rfl (lv_at hl 0 rfl) ?_
  refine lv_iconst (v := q_I 0) hx hb dX11_findBounds_1 rfl ?_
  refine q_putI hx hb hts hown hK hP hS hA fd_RX11_217 (Nat.le_of_ble_eq_true rfl) q_kdM_0 rfl (q_r 0 rfl) dX11_findBounds_2 h ?_
  clear h hP hS; intro μ1 H locs hP hS h
  refine lv_aload_n hx hb dX11_findBounds_5 rfl (lv_at hl 0 rfl) ?_
  refine lv_iload_n hx hb dX11_findBounds_6 rfl (lv_at hl 3 rfl) ?_
  refine q_putI hx hb hts hown hK hP hS hA fd_RX11_220 (Nat.le_of_ble_eq_true rfl) q_kdM_0 rfl ra2 dX11_findBounds_7 h ?_
  clear h hP hS; intro μ2 H locs hP hS h
  refine lv_iconst (v := q_I 0) hx hb dX11_findBounds_10 rfl ?_
  refine lv_istore (lv' := [(4, .int (q_I 0)), (0, .ref (z + 0)), (1, .int (q_I a0)), (2, .int (q_I a1)), (3, .int (q_I a2))]) hx hb dX11_findBounds_11 hl (by decide) rfl ?_
  clear hl; intro ls hl
  have L13 : ∀ (k152 : q_M → Option q_M), (∀ (μ5 : q_M) (H : Heap) (locs : List Loc) (ls : Array Slot), q_P D dA q_kdM q_rhoM 22 z sz μ5 H → va_S (q_A z 22) s.heap H locs → lv_has ls 6 [] → k152 μ5 = some μo → W p l e ({ frames := 0, cells := 0, slots := 0, locals := 0 } : Room) s m args below meth c H locs 0 0 Qf (F0 m 152 ls [])) → ∀ (nf13 : Nat) (x3 : Int) (μ4 : q_M) (H : Heap) (locs : List Loc) (ls : Array Slot), q_R x3 → q_P D dA q_kdM q_rhoM 22 z sz μ4 H → va_S (q_A z 22) s.heap H locs → lv_has ls 6 [(0, .ref (z + 0)), (1, .int (q_I a0)), (2, .int (q_I a1)), (4, .int (q_I x3))] → f_M_findBounds_L13 a0 a1 k152 nf13 x3 μ4 = some μo → W p l e ({ frames := 0, cells := 0, slots := 0, locals := 0 } : Room) s m args below meth c H locs 0 0 Qf (F0 m 13 ls []) := by
    clear h hl hP hS
    intro k152 hk152 nf13
    induction nf13 with
    | zero =>
      intro x3 μ4 H locs ls r3 hP hS hl h
      rw [f_M_findBounds_L13] at h
      cases h
    | succ nf13 ih13 =>
      intro x3 μ4 H locs ls r3 hP hS hl h
      rw [f_M_findBounds_L13] at h
      refine lv_iload hx hb dX11_findBounds_13 (lv_at hl 3 rfl) ?_
      refine lv_aload_n hx hb dX11_findBounds_15 rfl (lv_at hl 0 rfl) ?_
      refine q_getI hx hb hts hown hK hP fd_RX11_90 (Nat.le_of_ble_eq_true rfl) q_kdM_0 rfl dX11_findBounds_16 h ?_
      clear h; intro x6 r6 h
      refine q_cge hx hb r3 r6 (tgt := 152) dX11_findBounds_19 (by decide) h ?_ ?_
      · clear h; intro g33 h
        exact hk152 μ4 _ _ _ hP hS (lv_sub hl [] rfl) h
      · clear h; intro g33 h
        refine lv_aload_n hx hb dX11_findBounds_22 rfl (lv_at hl 0 rfl) ?_
        refine q_getR hx hb hts hown hK hP fd_RX11_20 (Nat.le_of_ble_eq_true rfl) q_kdM_0 rfl q_rhM_0_7 dX11_findBounds_23 ?_
        refine lv_iload hx hb dX11_findBounds_26 (lv_at hl 3 rfl) ?_
        refine q_iald hx hb hK hP (Nat.le_of_ble_eq_true rfl) q_kdM_4 r3 dX11_findBounds_28 h ?_
        clear h; intro x7 r7 h
        refine lv_iload_n hx hb dX11_findBounds_29 rfl (lv_at hl 1 rfl) ?_
        refine q_jn_in h (fun J => ∀ (x8 : Int) (H : Heap) (locs : List Loc) (ls : Array Slot), q_R x8 → q_P D dA q_kdM q_rhoM 22 z sz μ4 H → va_S (q_A z 22) s.heap H locs → lv_has ls 6 [(0, .ref (z + 0)), (1, .int (q_I a0)), (2, .int (q_I a1)), (4, .int (q_I x3))] → J x8 = some μo → W p l e ({ frames := 0, cells := 0, slots := 0, locals := 0 } : Room) s m args below meth c H locs 0 0 Qf (F0 m 49 ls [.int (q_I x8)])) ?_ ?_
        · clear h hl hP hS; intro x8 H locs ls r8 hP hS hl h
          refine lv_istore (lv' := [(5, .int (q_I x8)), (0, .ref (z + 0)), (1, .int (q_I a0)), (2, .int (q_I a1)), (4, .int (q_I x3))]) hx hb dX11_findBounds_49 hl (by decide) rfl ?_
          clear hl; intro ls hl
          refine lv_aload_n hx hb dX11_findBounds_51 rfl (lv_at hl 1 rfl) ?_
          refine lv_iload hx hb dX11_findBounds_52 (lv_at hl 0 rfl) ?_
          refine q_jn_in h (fun J => ∀ (x9 : Int) (H : Heap) (locs : List Loc) (ls : Array Slot), q_R x9 → q_P D dA q_kdM q_rhoM 22 z sz μ4 H → va_S (q_A z 22) s.heap H locs → lv_has ls 6 [(0, .ref (z + 0)), (1, .int (q_I a0)), (2, .int (q_I a1)), (4, .int (q_I x3)), (5, .int (q_I x8))] → J x9 = some μo → W p l e ({ frames := 0, cells := 0, slots := 0, locals := 0 } : Room) s m args below meth c H locs 0 0 Qf (F0 m 95 ls [.int (q_I x9), .ref (z + 0)])) ?_ ?_
          · clear h hl hP hS; intro x9 H locs ls r9 hP hS hl h
            refine q_putI hx hb hts hown hK hP hS hA fd_RX11_217 (Nat.le_of_ble_eq_true rfl) q_kdM_0 rfl r9 dX11_findBounds_95 h ?_
            clear h hP hS; intro μ10 H locs hP hS h
            refine lv_aload_n hx hb dX11_findBounds_98 rfl (lv_at hl 0 rfl) ?_
            refine lv_iload hx hb dX11_findBounds_99 (lv_at hl 4 rfl) ?_
            refine q_jn_in h (fun J => ∀ (x11 : Int) (H : Heap) (locs : List Loc) (ls : Array Slot), q_R x11 → q_P D dA q_kdM q_rhoM 22 z sz μ10 H → va_S (q_A z 22) s.heap H locs → lv_has ls 6 [(0, .ref (z + 0)), (1, .int (q_I a0)), (2, .int (q_I a1)), (4, .int (q_I x3))] → J x11 = some μo → W p l e ({ frames := 0, cells := 0, slots := 0, locals := 0 } : Room) s m args below meth c H locs 0 0 Qf (F0 m 143 ls [.int (q_I x11), .ref (z + 0)])) ?_ ?_
            · clear h hl hP hS; intro x11 H locs ls r11 hP hS hl h
              refine q_putI hx hb hts hown hK hP hS hA fd_RX11_220 (Nat.le_of_ble_eq_true rfl) q_kdM_0 rfl r11 dX11_findBounds_143 h ?_
              clear h hP hS; intro μ12 H locs hP hS h
              refine q_iinc (k := 3) (lv' := fun t => [(4, .int (q_I t)), (0, .ref (z + 0)), (1, .int (q_I a0)), (2, .int (q_I a1))]) hx hb dX11_findBounds_146 hl rfl (by decide) (fun _ => rfl) h ?_
              clear h hl; intro x13 ls r13 hl h
              refine lv_goto (tgt := 13) hx hb dX11_findBounds_149 (by decide) ?_
              exact ih13 x13 μ12 _ _ _ r13 hP hS (lv_sub hl [1, 2, 3, 0] rfl) h
            · clear h; intro j143 hj143 h
              refine q_jn_in h (fun J => ∀ (H : Heap) (locs : List Loc) (ls : Array Slot), q_P D dA q_kdM q_rhoM 22 z sz μ10 H → va_S (q_A z 22) s.heap H locs → lv_has ls 6 [(0, .ref (z + 0)), (1, .int (q_I a0)), (2, .int (q_I a1)), (4, .int (q_I x3))] → J = some μo → W p l e ({ frames := 0, cells := 0, slots := 0, locals := 0 } : Room) s m args below meth c H locs 0 0 Qf (F0 m 139 ls [.ref (z + 0)])) ?_ ?_
              · clear h hl hP hS; intro  H locs ls  hP hS hl h
                refine lv_aload_n hx hb dX11_findBounds_139 rfl (lv_at hl 0 rfl) ?_
                refine q_getI hx hb hts hown hK hP fd_RX11_220 (Nat.le_of_ble_eq_true rfl) q_kdM_0 rfl dX11_findBounds_140 h ?_
                clear h; intro x14 r14 h
                exact hj143 x14 _ _ _ r14 hP hS (lv_sub hl [0, 1, 2, 3] rfl) h
              · clear h; intro j139 hj139 h
                refine q_zeq hx hb r8 (tgt := 139) dX11_findBounds_101 (by decide) h ?_ ?_
                · clear h; intro g21 h
                  exact hj139  _ _ _ hP hS (lv_sub hl [0, 1, 2, 3] rfl) h
                · clear h; intro g21 h
                  refine lv_aload_n hx hb dX11_findBounds_104 rfl (lv_at hl 0 rfl) ?_
                  refine q_getR hx hb hts hown hK hP fd_RX11_26 (Nat.le_of_ble_eq_true rfl) q_kdM_0 rfl q_rhM_0_9 dX11_findBounds_105 ?_
                  refine lv_iload hx hb dX11_findBounds_108 (lv_at hl 3 rfl) ?_
                  refine q_iald hx hb hK hP (Nat.le_of_ble_eq_true rfl) q_kdM_6 r3 dX11_findBounds_110 h ?_
                  clear h; intro x15 r15 h
                  refine lv_iconst (v := q_I 1) hx hb dX11_findBounds_111 rfl ?_
                  refine q_ceq hx hb r15 (q_r 1 rfl) (tgt := 139) dX11_findBounds_112 (by decide) h ?_ ?_
                  · clear h; intro g20 h
                    exact hj139  _ _ _ hP hS (lv_sub hl [0, 1, 2, 3] rfl) h
                  · clear h; intro g20 h
                    refine lv_aload_n hx hb dX11_findBounds_115 rfl (lv_at hl 0 rfl) ?_
                    refine q_getR hx hb hts hown hK hP fd_RX11_29 (Nat.le_of_ble_eq_true rfl) q_kdM_0 rfl q_rhM_0_10 dX11_findBounds_116 ?_
                    refine lv_iload hx hb dX11_findBounds_119 (lv_at hl 3 rfl) ?_
                    refine q_iald hx hb hK hP (Nat.le_of_ble_eq_true rfl) q_kdM_7 r3 dX11_findBounds_121 h ?_
                    clear h; intro x16 r16 h
                    refine lv_aload_n hx hb dX11_findBounds_122 rfl (lv_at hl 0 rfl) ?_
                    refine q_getI hx hb hts hown hK hP fd_RX11_220 (Nat.le_of_ble_eq_true rfl) q_kdM_0 rfl dX11_findBounds_123 h ?_
                    clear h; intro x17 r17 h
                    refine q_cge hx hb r16 r17 (tgt := 139) dX11_findBounds_126 (by decide) h ?_ ?_
                    · clear h; intro g19 h
                      exact hj139  _ _ _ hP hS (lv_sub hl [0, 1, 2, 3] rfl) h
                    · clear h; intro g19 h
                      refine lv_aload_n hx hb dX11_findBounds_129 rfl (lv_at hl 0 rfl) ?_
                      refine q_getR hx hb hts hown hK hP fd_RX11_29 (Nat.le_of_ble_eq_true rfl) q_kdM_0 rfl q_rhM_0_10 dX11_findBounds_130 ?_
                      refine lv_iload hx hb dX11_findBounds_133 (lv_at hl 3 rfl) ?_
                      refine q_iald hx hb hK hP (Nat.le_of_ble_eq_true rfl) q_kdM_7 r3 dX11_findBounds_135 h ?_
                      clear h; intro x18 r18 h
                      refine lv_goto (tgt := 143) hx hb dX11_findBounds_136 (by decide) ?_
                      exact hj143 x18 _ _ _ r18 hP hS (lv_sub hl [0, 1, 2, 3] rfl) h
          · clear h; intro j95 hj95 h
            refine q_jn_in h (fun J => ∀ (H : Heap) (locs : List Loc) (ls : Array Slot), q_P D dA q_kdM q_rhoM 22 z sz μ4 H → va_S (q_A z 22) s.heap H locs → lv_has ls 6 [(0, .ref (z + 0)), (1, .int (q_I a0)), (2, .int (q_I a1)), (4, .int (q_I x3)), (5, .int (q_I x8))] → J = some μo → W p l e ({ frames := 0, cells := 0, slots := 0, locals := 0 } : Room) s m args below meth c H locs 0 0 Qf (F0 m 91 ls [.ref (z + 0)])) ?_ ?_
            · clear h hl hP hS; intro  H locs ls  hP hS hl h
              refine lv_aload_n hx hb dX11_findBounds_91 rfl (lv_at hl 0 rfl) ?_
              refine q_getI hx hb hts hown hK hP fd_RX11_217 (Nat.le_of_ble_eq_true rfl) q_kdM_0 rfl dX11_findBounds_92 h ?_
              clear h; intro x22 r22 h
              exact hj95 x22 _ _ _ r22 hP hS (lv_sub hl [0, 1, 2, 3, 4] rfl) h
            · clear h; intro j91 hj91 h
              refine q_zeq hx hb r8 (tgt := 91) dX11_findBounds_54 (by decide) h ?_ ?_
              · clear h; intro g29 h
                exact hj91  _ _ _ hP hS (lv_sub hl [1, 2, 3, 4, 0] rfl) h
              · clear h; intro g29 h
                refine lv_aload_n hx hb dX11_findBounds_57 rfl (lv_at hl 1 rfl) ?_
                refine q_getR hx hb hts hown hK hP fd_RX11_26 (Nat.le_of_ble_eq_true rfl) q_kdM_0 rfl q_rhM_0_9 dX11_findBounds_58 ?_
                refine lv_iload hx hb dX11_findBounds_61 (lv_at hl 4 rfl) ?_
                refine q_iald hx hb hK hP (Nat.le_of_ble_eq_true rfl) q_kdM_6 r3 dX11_findBounds_63 h ?_
                clear h; intro x23 r23 h
                refine q_zle hx hb r23 (tgt := 91) dX11_findBounds_64 (by decide) h ?_ ?_
                · clear h; intro g28 h
                  exact hj91  _ _ _ hP hS (lv_sub hl [1, 2, 3, 4, 0] rfl) h
                · clear h; intro g28 h
                  refine lv_aload_n hx hb dX11_findBounds_67 rfl (lv_at hl 1 rfl) ?_
                  refine q_getR hx hb hts hown hK hP fd_RX11_29 (Nat.le_of_ble_eq_true rfl) q_kdM_0 rfl q_rhM_0_10 dX11_findBounds_68 ?_
                  refine lv_iload hx hb dX11_findBounds_71 (lv_at hl 4 rfl) ?_
                  refine q_iald hx hb hK hP (Nat.le_of_ble_eq_true rfl) q_kdM_7 r3 dX11_findBounds_73 h ?_
                  clear h; intro x24 r24 h
                  refine lv_aload_n hx hb dX11_findBounds_74 rfl (lv_at hl 1 rfl) ?_
                  refine q_getI hx hb hts hown hK hP fd_RX11_217 (Nat.le_of_ble_eq_true rfl) q_kdM_0 rfl dX11_findBounds_75 h ?_
                  clear h; intro x25 r25 h
                  refine q_cle hx hb r24 r25 (tgt := 91) dX11_findBounds_78 (by decide) h ?_ ?_
                  · clear h; intro g27 h
                    exact hj91  _ _ _ hP hS (lv_sub hl [1, 2, 3, 4, 0] rfl) h
                  · clear h; intro g27 h
                    refine lv_aload_n hx hb dX11_findBounds_81 rfl (lv_at hl 1 rfl) ?_
                    refine q_getR hx hb hts hown hK hP fd_RX11_29 (Nat.le_of_ble_eq_true rfl) q_kdM_0 rfl q_rhM_0_10 dX11_findBounds_82 ?_
                    refine lv_iload hx hb dX11_findBounds_85 (lv_at hl 4 rfl) ?_
                    refine q_iald hx hb hK hP (Nat.le_of_ble_eq_true rfl) q_kdM_7 r3 dX11_findBounds_87 h ?_
                    clear h; intro x26 r26 h
                    refine lv_goto (tgt := 95) hx hb dX11_findBounds_88 (by decide) ?_
                    exact hj95 x26 _ _ _ r26 hP hS (lv_sub hl [1, 2, 3, 4, 0] rfl) h
        · clear h; intro j49 hj49 h
          refine q_jn_in h (fun J => ∀ (H : Heap) (locs : List Loc) (ls : Array Slot), q_P D dA q_kdM q_rhoM 22 z sz μ4 H → va_S (q_A z 22) s.heap H locs → lv_has ls 6 [(0, .ref (z + 0)), (1, .int (q_I a0)), (2, .int (q_I a1)), (4, .int (q_I x3))] → J = some μo → W p l e ({ frames := 0, cells := 0, slots := 0, locals := 0 } : Room) s m args below meth c H locs 0 0 Qf (F0 m 48 ls [])) ?_ ?_
          · clear h hl hP hS; intro  H locs ls  hP hS hl h
            refine lv_iconst (v := q_I 0) hx hb dX11_findBounds_48 rfl ?_
            exact hj49 0 _ _ _ (q_r 0 rfl) hP hS (lv_sub hl [0, 1, 2, 3] rfl) h
          · clear h; intro j48 hj48 h
            refine q_cne hx hb r7 ra0 (tgt := 48) dX11_findBounds_30 (by decide) h ?_ ?_
            · clear h; intro g32 h
              refine lv_aload_n hx hb dX11_findBounds_33 rfl (lv_at hl 0 rfl) ?_
              refine q_getR hx hb hts hown hK hP fd_RX11_23 (Nat.le_of_ble_eq_true rfl) q_kdM_0 rfl q_rhM_0_8 dX11_findBounds_34 ?_
              refine lv_iload hx hb dX11_findBounds_37 (lv_at hl 3 rfl) ?_
              refine q_iald hx hb hK hP (Nat.le_of_ble_eq_true rfl) q_kdM_5 r3 dX11_findBounds_39 h ?_
              clear h; intro x30 r30 h
              refine lv_iload_n hx hb dX11_findBounds_40 rfl (lv_at hl 2 rfl) ?_
              refine q_cne hx hb r30 ra1 (tgt := 48) dX11_findBounds_41 (by decide) h ?_ ?_
              · clear h; intro g31 h
                refine lv_iconst (v := q_I 1) hx hb dX11_findBounds_44 rfl ?_
                refine lv_goto (tgt := 49) hx hb dX11_findBounds_45 (by decide) ?_
                exact hj49 1 _ _ _ (q_r 1 rfl) hP hS (lv_sub hl [0, 1, 2, 3] rfl) h
              · clear h; intro g31 h
                exact hj48  _ _ _ hP hS (lv_sub hl [0, 1, 2, 3] rfl) h
            · clear h; intro g32 h
              exact hj48  _ _ _ hP hS (lv_sub hl [0, 1, 2, 3] rfl) h
  refine L13 _ ?_  _ 0 μ2 _ _ _ (q_r 0 rfl) hP hS (lv_sub hl [1, 2, 3, 0] rfl) h
  · clear h hl hP hS; intro μ5 H locs ls  hP hS hl h
    rw [← hQ]
    exact q_retv hx hb hr hlocks hP hS h dX11_findBounds_152
set_option maxHeartbeats 4000000 in
set_option maxRecDepth 100000 in
theorem c_M_layEdges (l : Launch) (D : va_G) (dA : Nat → ClassId) {z sz : Nat} {N : Nat} {a0 : Int} (ra0 : q_R a0) {μ : q_M} {xo : Int} {μo : q_M} (h : f_M_layEdges N a0 μ = some (xo, μo)) : Met l yX11_layEdges (q_wc yX11_layEdges cX11_layEdges 8 (some .boolean)) ({ frames := 4, cells := 0, slots := 0, locals := 91 } : Room) (va_Pc [.ref (z + 0), .int (q_I a0)] (q_B (q_P D dA q_kdM q_rhoM 22 z sz μ) D dA)) (q_Q (some (.int (q_I xo))) (q_R xo) (q_P D dA q_kdM q_rhoM 22 z sz μo) (q_A z 22)) 0 0 (q_A z 22) := by
  refine Met.ofW (cc := cX11_layEdges) (maxL := 8) (ret := (some .boolean)) (by decide) rfl ?_
  intro p e s m args below meth c s₁ B hml hv
  obtain ⟨hargs, hP, hK⟩ := hv
  have hx := B.exec
  have hb := B.bytes
  have hr := B.returns
  have hts : ∀ w ∈ q_W, w.before args s = true := fun w hw => atoms_spec (ws := q_wc yX11_layEdges cX11_layEdges 8 (some .boolean)) B.pre w (List.mem_cons_of_mem _ hw)
  have hown : s.vm.findClass RX11 = some m.cls := findClass_of_methodNamed B.named
  have hlocks := B.notSynchronized
  have hS : va_S (q_A z 22) s.heap s.heap [] := va_S.rf
  have hA : ∀ k, k < 22 → q_A z 22 (z + k) := fun k hk => ⟨Nat.le_add_right z k, Nat.add_lt_add_left hk z⟩
  have hl := lv_entry [.ref (z + 0), .int (q_I a0)] (n := 8) (Nat.le_of_ble_eq_true rfl)
  refine W.eq (by rw [hargs, lg_entry_eq]) ?_
  generalize (lg_sl [.ref (z + 0), .int (q_I a0)] ++ List.replicate (8 - (lg_sl [.ref (z + 0), .int (q_I a0)]).length) Slot.unset).toArray = ls at hl ⊢
  have hl : lv_has ls 8 [(0, .ref (z + 0)), (1, .int (q_I a0))] := hl
  generalize hQ : MQ below _ args s 0 0 _ = Qf
  change W p l e ({ frames := 4, cells := 0, slots := 0, locals := 91 } : Room) s m args below meth c s.heap [] 0 0 Qf (F0 m 0 ls [])
  unfold f_M_layEdges at h
  refine lv_aload_n hx hb dX11_layEdges_0 rfl (lv_at hl 0 rfl) ?_
  refine q_getI hx hb hts hown hK hP fd_RX11_79 (Nat.le_of_ble_eq_true rfl) q_kdM_0 rfl dX11_layEdges_1 h ?_
  clear h; intro x1 r1 h
  refine lv_istore_n (lv' := [(2, .int (q_I x1)), (0, .ref (z + 0)), (1, .int (q_I a0))]) hx hb dX11_layEdges_4 rfl hl (by decide) rfl ?_
  clear hl; intro ls hl
  refine lv_aload_n hx hb dX11_layEdges_5 rfl (lv_at hl 1 rfl) ?_
  refine lv_iconst (v := q_I 0) hx hb dX11_layEdges_6 rfl ?_
  refine q_putI hx hb hts hown hK hP hS hA fd_RX11_214 (Nat.le_of_ble_eq_true rfl) q_kdM_0 rfl (q_r 0 rfl) dX11_layEdges_7 h ?_
  clear h hP hS; intro μ2 H locs hP hS h
  refine lv_iconst (v := q_I 0) hx hb dX11_layEdges_10 rfl ?_
  refine lv_istore_n (lv' := [(3, .int (q_I 0)), (2, .int (q_I x1)), (0, .ref (z + 0)), (1, .int (q_I a0))]) hx hb dX11_layEdges_11 rfl hl (by decide) rfl ?_
  clear hl; intro ls hl
  have L12 : ∀ (k31 : q_M → Option (Int × q_M)), (∀ (μ5 : q_M) (H : Heap) (locs : List Loc) (ls : Array Slot), q_P D dA q_kdM q_rhoM 22 z sz μ5 H → va_S (q_A z 22) s.heap H locs → lv_has ls 8 [(0, .ref (z + 0)), (1, .int (q_I a0)), (2, .int (q_I x1))] → k31 μ5 = some (xo, μo) → W p l e ({ frames := 4, cells := 0, slots := 0, locals := 91 } : Room) s m args below meth c H locs 0 0 Qf (F0 m 31 ls [])) → ∀ (nf12 : Nat) (x3 : Int) (μ4 : q_M) (H : Heap) (locs : List Loc) (ls : Array Slot), q_R x3 → q_P D dA q_kdM q_rhoM 22 z sz μ4 H → va_S (q_A z 22) s.heap H locs → lv_has ls 8 [(0, .ref (z + 0)), (1, .int (q_I a0)), (2, .int (q_I x1)), (3, .int (q_I x3))] → f_M_layEdges_L12  k31 nf12 x3 μ4 = some (xo, μo) → W p l e ({ frames := 4, cells := 0, slots := 0, locals := 91 } : Room) s m args below meth c H locs 0 0 Qf (F0 m 12 ls []) := by
    clear h hl hP hS
    intro k31 hk31 nf12
    induction nf12 with
    | zero =>
      intro x3 μ4 H locs ls r3 hP hS hl h
      rw [f_M_layEdges_L12] at h
      cases h
    | succ nf12 ih12 =>
      intro x3 μ4 H locs ls r3 hP hS hl h
      rw [f_M_layEdges_L12] at h
      refine lv_iload_n hx hb dX11_layEdges_12 rfl (lv_at hl 3 rfl) ?_
      refine lv_bipush (v := q_I 7) hx hb dX11_layEdges_13 (by decide) ?_
      refine q_cge hx hb r3 (q_r 7 rfl) (tgt := 31) dX11_layEdges_15 (by decide) h ?_ ?_
      · clear h; intro g8 h
        exact hk31 μ4 _ _ _ hP hS (lv_sub hl [0, 1, 2] rfl) h
      · clear h; intro g8 h
        refine lv_aload_n hx hb dX11_layEdges_18 rfl (lv_at hl 0 rfl) ?_
        refine q_getR hx hb hts hown hK hP fd_RX11_56 (Nat.le_of_ble_eq_true rfl) q_kdM_0 rfl q_rhM_0_22 dX11_layEdges_19 ?_
        refine lv_iload_n hx hb dX11_layEdges_22 rfl (lv_at hl 3 rfl) ?_
        refine lv_iconst (v := q_I 0) hx hb dX11_layEdges_23 rfl ?_
        refine q_iast hx hb hK hP hS hA (Nat.le_of_ble_eq_true rfl) q_kdM_16 r3 (q_r 0 rfl) dX11_layEdges_24 h ?_
        clear h hP hS; intro μ6 H locs hP hS h
        refine q_iinc (k := 3) (lv' := fun t => [(3, .int (q_I t)), (0, .ref (z + 0)), (1, .int (q_I a0)), (2, .int (q_I x1))]) hx hb dX11_layEdges_25 hl rfl (by decide) (fun _ => rfl) h ?_
        clear h hl; intro x7 ls r7 hl h
        refine lv_goto (tgt := 12) hx hb dX11_layEdges_28 (by decide) ?_
        exact ih12 x7 μ6 _ _ _ r7 hP hS (lv_sub hl [1, 2, 3, 0] rfl) h
  refine L12 _ ?_  _ 0 μ2 _ _ _ (q_r 0 rfl) hP hS (lv_sub hl [2, 3, 1, 0] rfl) h
  · clear h hl hP hS; intro μ5 H locs ls  hP hS hl h
    refine lv_aload_n hx hb dX11_layEdges_31 rfl (lv_at hl 0 rfl) ?_
    refine lv_iload_n hx hb dX11_layEdges_32 rfl (lv_at hl 1 rfl) ?_
    refine lv_iconst (v := q_I 1) hx hb dX11_layEdges_33 rfl ?_
    obtain ⟨x10, hv9, h⟩ := q_b_some h
    refine q_callV hx hb hml hts hown hK hP hS (As := [.int (q_I a0), .int (q_I 1)]) (rest := []) (st1 := [.int (q_I x10)]) cv_RX11_200 (c_M_transitOf l D dA ra0 (q_r 1 rfl) hv9) (Nat.le_of_ble_eq_true rfl) q_kdM_0 rfl ⟨rfl, rfl, Nat.le_of_ble_eq_true rfl, Nat.le_of_ble_eq_true rfl⟩ ⟨Nat.le_refl _, Nat.le_refl _⟩ rfl hl.1 rfl (Nat.le_of_ble_eq_true rfl) rfl (fun _ g => g) dX11_layEdges_34 ?_
    clear hP hS hv9; intro H locs r10 hP hS _
    refine lv_istore_n (lv' := [(3, .int (q_I x10)), (0, .ref (z + 0)), (1, .int (q_I a0)), (2, .int (q_I x1))]) hx hb dX11_layEdges_37 rfl hl (by decide) rfl ?_
    clear hl; intro ls hl
    refine lv_aload_n hx hb dX11_layEdges_38 rfl (lv_at hl 1 rfl) ?_
    refine lv_bipush (v := q_I 9) hx hb dX11_layEdges_39 (by decide) ?_
    refine lv_iload_n hx hb dX11_layEdges_41 rfl (lv_at hl 2 rfl) ?_
    refine lv_ldc hx hb hown (hts _ ck_RX11_223) dX11_layEdges_42 ?_
    obtain ⟨μ12, hv11, h⟩ := q_b_some h
    refine q_callV hx hb hml hts hown hK hP hS (As := [.int (q_I 9), .int (q_I a0), .int (q_I 100000)]) (rest := []) (st1 := []) cv_RX11_224 (c_M_findBounds l D dA (q_r 9 rfl) ra0 (q_r 100000 rfl) hv11) (Nat.le_of_ble_eq_true rfl) q_kdM_0 rfl ⟨rfl, rfl, Nat.le_of_ble_eq_true rfl, Nat.le_of_ble_eq_true rfl⟩ ⟨Nat.le_refl _, Nat.le_refl _⟩ rfl hl.1 rfl (Nat.le_of_ble_eq_true rfl) rfl (fun _ g => g) dX11_layEdges_44 ?_
    clear hP hS hv11; intro H locs _ hP hS _
    refine lv_iload_n hx hb dX11_layEdges_47 rfl (lv_at hl 0 rfl) ?_
    refine lv_aload_n hx hb dX11_layEdges_48 rfl (lv_at hl 1 rfl) ?_
    refine q_getI hx hb hts hown hK hP fd_RX11_217 (Nat.le_of_ble_eq_true rfl) q_kdM_0 rfl dX11_layEdges_49 h ?_
    clear h; intro x13 r13 h
    refine lv_aload_n hx hb dX11_layEdges_52 rfl (lv_at hl 1 rfl) ?_
    refine q_getI hx hb hts hown hK hP fd_RX11_220 (Nat.le_of_ble_eq_true rfl) q_kdM_0 rfl dX11_layEdges_53 h ?_
    clear h; intro x14 r14 h
    obtain ⟨x16, hv15, h⟩ := q_b_some h
    refine q_callS hx hb hml hts hown hK hP hS (As := [.int (q_I x10), .int (q_I x13), .int (q_I x14)]) (rest := []) (st1 := [.int (q_I x16)]) cs_RX11_99 (c_M_in l D dA r10 r13 r14 hv15) ⟨rfl, rfl, Nat.le_of_ble_eq_true rfl, Nat.le_of_ble_eq_true rfl⟩ ⟨Nat.le_refl _, Nat.le_refl _⟩ rfl hl.1 rfl (Nat.le_of_ble_eq_true rfl) rfl (fun _ g => g) dX11_layEdges_56 ?_
    clear hP hS hv15; intro H locs r16 hP hS _
    refine lv_istore (lv' := [(4, .int (q_I x16)), (3, .int (q_I x10)), (0, .ref (z + 0)), (1, .int (q_I a0)), (2, .int (q_I x1))]) hx hb dX11_layEdges_59 hl (by decide) rfl ?_
    clear hl; intro ls hl
    refine lv_iconst (v := q_I 0) hx hb dX11_layEdges_61 rfl ?_
    refine lv_istore (lv' := [(5, .int (q_I 0)), (4, .int (q_I x16)), (3, .int (q_I x10)), (0, .ref (z + 0)), (1, .int (q_I a0)), (2, .int (q_I x1))]) hx hb dX11_layEdges_62 hl (by decide) rfl ?_
    clear hl; intro ls hl
    refine lv_iconst (v := q_I 0) hx hb dX11_layEdges_64 rfl ?_
    refine lv_istore (lv' := [(6, .int (q_I 0)), (5, .int (q_I 0)), (4, .int (q_I x16)), (3, .int (q_I x10)), (0, .ref (z + 0)), (1, .int (q_I a0)), (2, .int (q_I x1))]) hx hb dX11_layEdges_65 hl (by decide) rfl ?_
    clear hl; intro ls hl
    have L67 : ∀ (k128 : Int → q_M → Option (Int × q_M)), (∀ (x20 : Int) (μ21 : q_M) (H : Heap) (locs : List Loc) (ls : Array Slot), q_R x20 → q_P D dA q_kdM q_rhoM 22 z sz μ21 H → va_S (q_A z 22) s.heap H locs → lv_has ls 8 [(0, .ref (z + 0)), (1, .int (q_I a0)), (2, .int (q_I x1)), (3, .int (q_I x10)), (4, .int (q_I x16)), (5, .int (q_I x20))] → k128 x20 μ21 = some (xo, μo) → W p l e ({ frames := 4, cells := 0, slots := 0, locals := 91 } : Room) s m args below meth c H locs 0 0 Qf (F0 m 128 ls [])) → ∀ (nf67 : Nat) (x17 : Int) (x18 : Int) (μ19 : q_M) (H : Heap) (locs : List Loc) (ls : Array Slot), q_R x17 → q_R x18 → q_P D dA q_kdM q_rhoM 22 z sz μ19 H → va_S (q_A z 22) s.heap H locs → lv_has ls 8 [(0, .ref (z + 0)), (1, .int (q_I a0)), (2, .int (q_I x1)), (3, .int (q_I x10)), (4, .int (q_I x16)), (5, .int (q_I x17)), (6, .int (q_I x18))] → f_M_layEdges_L67 x1 k128 nf67 x17 x18 μ19 = some (xo, μo) → W p l e ({ frames := 4, cells := 0, slots := 0, locals := 91 } : Room) s m args below meth c H locs 0 0 Qf (F0 m 67 ls []) := by
      clear h hl hP hS
      intro k128 hk128 nf67
      induction nf67 with
      | zero =>
        intro x17 x18 μ19 H locs ls r17 r18 hP hS hl h
        rw [f_M_layEdges_L67] at h
        cases h
      | succ nf67 ih67 =>
        intro x17 x18 μ19 H locs ls r17 r18 hP hS hl h
        rw [f_M_layEdges_L67] at h
        refine lv_iload hx hb dX11_layEdges_67 (lv_at hl 6 rfl) ?_
        refine lv_iload_n hx hb dX11_layEdges_69 rfl (lv_at hl 2 rfl) ?_
        refine lv_iload_n hx hb dX11_layEdges_70 rfl (lv_at hl 2 rfl) ?_
        refine q_imul hx hb dX11_layEdges_71 h ?_
        clear h; intro x22 r22 h
        refine q_cge hx hb r18 r22 (tgt := 128) dX11_layEdges_72 (by decide) h ?_ ?_
        · clear h; intro g39 h
          exact hk128 x17 μ19 _ _ _ r17 hP hS (lv_sub hl [0, 1, 2, 3, 4, 5] rfl) h
        · clear h; intro g39 h
          refine lv_iload hx hb dX11_layEdges_75 (lv_at hl 6 rfl) ?_
          refine lv_iload_n hx hb dX11_layEdges_77 rfl (lv_at hl 2 rfl) ?_
          refine q_idiv hx hb r18 r1 dX11_layEdges_78 h ?_
          clear h; intro x23 r23 h
          refine lv_iload hx hb dX11_layEdges_79 (lv_at hl 6 rfl) ?_
          refine lv_iload_n hx hb dX11_layEdges_81 rfl (lv_at hl 2 rfl) ?_
          refine q_irem hx hb r18 r1 dX11_layEdges_82 h ?_
          clear h; intro x24 r24 h
          refine q_jn_in h (fun J => ∀ (x25 : Int) (μ26 : q_M) (H : Heap) (locs : List Loc) (ls : Array Slot), q_R x25 → q_P D dA q_kdM q_rhoM 22 z sz μ26 H → va_S (q_A z 22) s.heap H locs → lv_has ls 8 [(0, .ref (z + 0)), (1, .int (q_I a0)), (2, .int (q_I x1)), (3, .int (q_I x10)), (4, .int (q_I x16)), (5, .int (q_I x25)), (6, .int (q_I x18))] → J x25 μ26 = some (xo, μo) → W p l e ({ frames := 4, cells := 0, slots := 0, locals := 91 } : Room) s m args below meth c H locs 0 0 Qf (F0 m 122 ls [])) ?_ ?_
          · clear h hl hP hS; intro x25 μ26 H locs ls r25 hP hS hl h
            refine q_iinc (k := 6) (lv' := fun t => [(6, .int (q_I t)), (0, .ref (z + 0)), (1, .int (q_I a0)), (2, .int (q_I x1)), (3, .int (q_I x10)), (4, .int (q_I x16)), (5, .int (q_I x25))]) hx hb dX11_layEdges_122 hl rfl (by decide) (fun _ => rfl) h ?_
            clear h hl; intro x27 ls r27 hl h
            refine lv_goto (tgt := 67) hx hb dX11_layEdges_125 (by decide) ?_
            exact ih67 x25 x27 μ26 _ _ _ r25 r27 hP hS (lv_sub hl [1, 2, 3, 4, 5, 6, 0] rfl) h
          · clear h; intro j122 hj122 h
            refine q_ceq hx hb r23 r24 (tgt := 122) dX11_layEdges_83 (by decide) h ?_ ?_
            · clear h; intro g38 h
              exact hj122 x17 μ19 _ _ _ r17 hP hS (lv_sub hl [0, 1, 2, 3, 4, 5, 6] rfl) h
            · clear h; intro g38 h
              refine lv_aload_n hx hb dX11_layEdges_86 rfl (lv_at hl 0 rfl) ?_
              refine lv_iload hx hb dX11_layEdges_87 (lv_at hl 6 rfl) ?_
              refine lv_iload_n hx hb dX11_layEdges_89 rfl (lv_at hl 2 rfl) ?_
              refine q_idiv hx hb r18 r1 dX11_layEdges_90 h ?_
              clear h; intro x28 r28 h
              refine lv_iload hx hb dX11_layEdges_91 (lv_at hl 6 rfl) ?_
              refine lv_iload_n hx hb dX11_layEdges_93 rfl (lv_at hl 2 rfl) ?_
              refine q_irem hx hb r18 r1 dX11_layEdges_94 h ?_
              clear h; intro x29 r29 h
              refine lv_iconst (v := q_I 0) hx hb dX11_layEdges_95 rfl ?_
              refine lv_ldc hx hb hown (hts _ ck_RX11_223) dX11_layEdges_96 ?_
              refine lv_aload_n hx hb dX11_layEdges_98 rfl (lv_at hl 0 rfl) ?_
              refine q_getR hx hb hts hown hK hP fd_RX11_32 (Nat.le_of_ble_eq_true rfl) q_kdM_0 rfl q_rhM_0_11 dX11_layEdges_99 ?_
              refine lv_iconst (v := q_I 5) hx hb dX11_layEdges_102 rfl ?_
              refine lv_iload hx hb dX11_layEdges_103 (lv_at hl 6 rfl) ?_
              refine lv_iload_n hx hb dX11_layEdges_105 rfl (lv_at hl 2 rfl) ?_
              refine q_idiv hx hb r18 r1 dX11_layEdges_106 h ?_
              clear h; intro x30 r30 h
              refine q_imul hx hb dX11_layEdges_107 h ?_
              clear h; intro x31 r31 h
              refine lv_iload hx hb dX11_layEdges_108 (lv_at hl 6 rfl) ?_
              refine lv_iload_n hx hb dX11_layEdges_110 rfl (lv_at hl 2 rfl) ?_
              refine q_irem hx hb r18 r1 dX11_layEdges_111 h ?_
              clear h; intro x32 r32 h
              refine q_iadd hx hb dX11_layEdges_112 h ?_
              clear h; intro x33 r33 h
              refine q_iald hx hb hK hP (Nat.le_of_ble_eq_true rfl) q_kdM_8 r33 dX11_layEdges_113 h ?_
              clear h; intro x34 r34 h
              refine lv_iload hx hb dX11_layEdges_114 (lv_at hl 5 rfl) ?_
              obtain ⟨μ36, hv35, h⟩ := q_b_some h
              refine q_callV hx hb hml hts hown hK hP hS (As := [.int (q_I x28), .int (q_I x29), .int (q_I 0), .int (q_I 100000), .int (q_I x34), .int (q_I x17)]) (rest := []) (st1 := []) cv_RX11_228 (c_M_edge l D dA r28 r29 (q_r 0 rfl) (q_r 100000 rfl) r34 r17 hv35) (Nat.le_of_ble_eq_true rfl) q_kdM_0 rfl ⟨rfl, rfl, Nat.le_of_ble_eq_true rfl, Nat.le_of_ble_eq_true rfl⟩ ⟨Nat.le_refl _, Nat.le_refl _⟩ rfl hl.1 rfl (Nat.le_of_ble_eq_true rfl) rfl (fun _ g => g) dX11_layEdges_116 ?_
              clear hP hS hv35; intro H locs _ hP hS _
              refine q_iinc (k := 5) (lv' := fun t => [(5, .int (q_I t)), (0, .ref (z + 0)), (1, .int (q_I a0)), (2, .int (q_I x1)), (3, .int (q_I x10)), (4, .int (q_I x16)), (6, .int (q_I x18))]) hx hb dX11_layEdges_119 hl rfl (by decide) (fun _ => rfl) h ?_
              clear h hl; intro x37 ls r37 hl h
              exact hj122 x37 μ36 _ _ _ r37 hP hS (lv_sub hl [1, 2, 3, 4, 5, 0, 6] rfl) h
    refine L67 _ ?_  _ 0 0 μ12 _ _ _ (q_r 0 rfl) (q_r 0 rfl) hP hS (lv_sub hl [4, 5, 6, 3, 2, 1, 0] rfl) h
    · clear h hl hP hS; intro x20 μ21 H locs ls r20 hP hS hl h
      refine lv_iconst (v := q_I 0) hx hb dX11_layEdges_128 rfl ?_
      refine lv_istore (lv' := [(6, .int (q_I 0)), (0, .ref (z + 0)), (1, .int (q_I a0)), (2, .int (q_I x1)), (3, .int (q_I x10)), (4, .int (q_I x16)), (5, .int (q_I x20))]) hx hb dX11_layEdges_129 hl (by decide) rfl ?_
      clear hl; intro ls hl
      have L131 : ∀ (k276 : Int → q_M → Option (Int × q_M)), (∀ (x43 : Int) (μ44 : q_M) (H : Heap) (locs : List Loc) (ls : Array Slot), q_R x43 → q_P D dA q_kdM q_rhoM 22 z sz μ44 H → va_S (q_A z 22) s.heap H locs → lv_has ls 8 [(0, .ref (z + 0)), (1, .int (q_I a0)), (3, .int (q_I x10)), (4, .int (q_I x43))] → k276 x43 μ44 = some (xo, μo) → W p l e ({ frames := 4, cells := 0, slots := 0, locals := 91 } : Room) s m args below meth c H locs 0 0 Qf (F0 m 276 ls [])) → ∀ (nf131 : Nat) (x40 : Int) (x41 : Int) (μ42 : q_M) (H : Heap) (locs : List Loc) (ls : Array Slot), q_R x40 → q_R x41 → q_P D dA q_kdM q_rhoM 22 z sz μ42 H → va_S (q_A z 22) s.heap H locs → lv_has ls 8 [(0, .ref (z + 0)), (1, .int (q_I a0)), (2, .int (q_I x1)), (3, .int (q_I x10)), (4, .int (q_I x40)), (5, .int (q_I x20)), (6, .int (q_I x41))] → f_M_layEdges_L131 N a0 x1 x20 k276 nf131 x40 x41 μ42 = some (xo, μo) → W p l e ({ frames := 4, cells := 0, slots := 0, locals := 91 } : Room) s m args below meth c H locs 0 0 Qf (F0 m 131 ls []) := by
        clear h hl hP hS
        intro k276 hk276 nf131
        induction nf131 with
        | zero =>
          intro x40 x41 μ42 H locs ls r40 r41 hP hS hl h
          rw [f_M_layEdges_L131] at h
          cases h
        | succ nf131 ih131 =>
          intro x40 x41 μ42 H locs ls r40 r41 hP hS hl h
          rw [f_M_layEdges_L131] at h
          refine lv_iload hx hb dX11_layEdges_131 (lv_at hl 6 rfl) ?_
          refine lv_iload_n hx hb dX11_layEdges_133 rfl (lv_at hl 2 rfl) ?_
          refine q_cge hx hb r41 r1 (tgt := 276) dX11_layEdges_134 (by decide) h ?_ ?_
          · clear h; intro g75 h
            exact hk276 x40 μ42 _ _ _ r40 hP hS (lv_sub hl [0, 1, 3, 4] rfl) h
          · clear h; intro g75 h
            refine lv_aload_n hx hb dX11_layEdges_137 rfl (lv_at hl 0 rfl) ?_
            refine lv_iload hx hb dX11_layEdges_138 (lv_at hl 6 rfl) ?_
            refine lv_iload_n hx hb dX11_layEdges_140 rfl (lv_at hl 1 rfl) ?_
            obtain ⟨x46, hv45, h⟩ := q_b_some h
            refine q_callV hx hb hml hts hown hK hP hS (As := [.int (q_I x41), .int (q_I a0)]) (rest := []) (st1 := [.int (q_I x46)]) cv_RX11_181 (c_M_stockThen l D dA r41 ra0 hv45) (Nat.le_of_ble_eq_true rfl) q_kdM_0 rfl ⟨rfl, rfl, Nat.le_of_ble_eq_true rfl, Nat.le_of_ble_eq_true rfl⟩ ⟨Nat.le_refl _, Nat.le_refl _⟩ rfl hl.1 rfl (Nat.le_of_ble_eq_true rfl) rfl (fun _ g => g) dX11_layEdges_141 ?_
            clear hP hS hv45; intro H locs r46 hP hS _
            refine lv_istore (lv' := [(7, .int (q_I x46)), (0, .ref (z + 0)), (1, .int (q_I a0)), (2, .int (q_I x1)), (3, .int (q_I x10)), (4, .int (q_I x40)), (5, .int (q_I x20)), (6, .int (q_I x41))]) hx hb dX11_layEdges_144 hl (by decide) rfl ?_
            clear hl; intro ls hl
            refine lv_aload_n hx hb dX11_layEdges_146 rfl (lv_at hl 1 rfl) ?_
            refine lv_iload hx hb dX11_layEdges_147 (lv_at hl 7 rfl) ?_
            refine lv_iload_n hx hb dX11_layEdges_149 rfl (lv_at hl 2 rfl) ?_
            refine lv_sipush (v := q_I 1000) hx hb dX11_layEdges_150 (by decide) ?_
            obtain ⟨μ48, hv47, h⟩ := q_b_some h
            refine q_callV hx hb hml hts hown hK hP hS (As := [.int (q_I x41), .int (q_I a0), .int (q_I 1000)]) (rest := []) (st1 := []) cv_RX11_224 (c_M_findBounds l D dA r41 ra0 (q_r 1000 rfl) hv47) (Nat.le_of_ble_eq_true rfl) q_kdM_0 rfl ⟨rfl, rfl, Nat.le_of_ble_eq_true rfl, Nat.le_of_ble_eq_true rfl⟩ ⟨Nat.le_refl _, Nat.le_refl _⟩ rfl hl.1 rfl (Nat.le_of_ble_eq_true rfl) rfl (fun _ g => g) dX11_layEdges_153 ?_
            clear hP hS hv47; intro H locs _ hP hS _
            refine lv_iload hx hb dX11_layEdges_156 (lv_at hl 5 rfl) ?_
            refine q_jn_in h (fun J => ∀ (x49 : Int) (H : Heap) (locs : List Loc) (ls : Array Slot), q_R x49 → q_P D dA q_kdM q_rhoM 22 z sz μ48 H → va_S (q_A z 22) s.heap H locs → lv_has ls 8 [(0, .ref (z + 0)), (1, .int (q_I a0)), (2, .int (q_I x1)), (3, .int (q_I x10)), (5, .int (q_I x20)), (6, .int (q_I x41)), (7, .int (q_I x46))] → J x49 = some (xo, μo) → W p l e ({ frames := 4, cells := 0, slots := 0, locals := 91 } : Room) s m args below meth c H locs 0 0 Qf (F0 m 177 ls [.int (q_I x49)])) ?_ ?_
            · clear h hl hP hS; intro x49 H locs ls r49 hP hS hl h
              refine lv_istore (lv' := [(4, .int (q_I x49)), (0, .ref (z + 0)), (1, .int (q_I a0)), (2, .int (q_I x1)), (3, .int (q_I x10)), (5, .int (q_I x20)), (6, .int (q_I x41)), (7, .int (q_I x46))]) hx hb dX11_layEdges_177 hl (by decide) rfl ?_
              clear hl; intro ls hl
              refine lv_aload_n hx hb dX11_layEdges_179 rfl (lv_at hl 1 rfl) ?_
              refine lv_bipush (v := q_I 6) hx hb dX11_layEdges_180 (by decide) ?_
              refine lv_iload hx hb dX11_layEdges_182 (lv_at hl 6 rfl) ?_
              refine lv_iload hx hb dX11_layEdges_184 (lv_at hl 7 rfl) ?_
              refine lv_iload hx hb dX11_layEdges_186 (lv_at hl 7 rfl) ?_
              refine lv_iconst (v := q_I 0) hx hb dX11_layEdges_188 rfl ?_
              refine lv_iconst (v := q_I (-1)) hx hb dX11_layEdges_189 rfl ?_
              obtain ⟨μ51, hv50, h⟩ := q_b_some h
              refine q_callV hx hb hml hts hown hK hP hS (As := [.int (q_I 6), .int (q_I x41), .int (q_I x46), .int (q_I x46), .int (q_I 0), .int (q_I ((-1)))]) (rest := []) (st1 := []) cv_RX11_228 (c_M_edge l D dA (q_r 6 rfl) r41 r46 r46 (q_r 0 rfl) (q_r (-1) rfl) hv50) (Nat.le_of_ble_eq_true rfl) q_kdM_0 rfl ⟨rfl, rfl, Nat.le_of_ble_eq_true rfl, Nat.le_of_ble_eq_true rfl⟩ ⟨Nat.le_refl _, Nat.le_refl _⟩ rfl hl.1 rfl (Nat.le_of_ble_eq_true rfl) rfl (fun _ g => g) dX11_layEdges_190 ?_
              clear hP hS hv50; intro H locs _ hP hS _
              refine lv_aload_n hx hb dX11_layEdges_193 rfl (lv_at hl 1 rfl) ?_
              refine lv_bipush (v := q_I 6) hx hb dX11_layEdges_194 (by decide) ?_
              refine lv_iload hx hb dX11_layEdges_196 (lv_at hl 6 rfl) ?_
              refine lv_iconst (v := q_I 0) hx hb dX11_layEdges_198 rfl ?_
              refine lv_ldc hx hb hown (hts _ ck_RX11_223) dX11_layEdges_199 ?_
              refine lv_aload_n hx hb dX11_layEdges_201 rfl (lv_at hl 1 rfl) ?_
              refine q_getI hx hb hts hown hK hP fd_RX11_93 (Nat.le_of_ble_eq_true rfl) q_kdM_0 rfl dX11_layEdges_202 h ?_
              clear h; intro x52 r52 h
              refine lv_iload hx hb dX11_layEdges_205 (lv_at hl 5 rfl) ?_
              refine lv_iload hx hb dX11_layEdges_207 (lv_at hl 6 rfl) ?_
              refine q_iadd hx hb dX11_layEdges_209 h ?_
              clear h; intro x53 r53 h
              obtain ⟨μ55, hv54, h⟩ := q_b_some h
              refine q_callV hx hb hml hts hown hK hP hS (As := [.int (q_I 6), .int (q_I x41), .int (q_I 0), .int (q_I 100000), .int (q_I x52), .int (q_I x53)]) (rest := []) (st1 := []) cv_RX11_228 (c_M_edge l D dA (q_r 6 rfl) r41 (q_r 0 rfl) (q_r 100000 rfl) r52 r53 hv54) (Nat.le_of_ble_eq_true rfl) q_kdM_0 rfl ⟨rfl, rfl, Nat.le_of_ble_eq_true rfl, Nat.le_of_ble_eq_true rfl⟩ ⟨Nat.le_refl _, Nat.le_refl _⟩ rfl hl.1 rfl (Nat.le_of_ble_eq_true rfl) rfl (fun _ g => g) dX11_layEdges_210 ?_
              clear hP hS hv54; intro H locs _ hP hS _
              refine lv_aload_n hx hb dX11_layEdges_213 rfl (lv_at hl 1 rfl) ?_
              refine lv_iload hx hb dX11_layEdges_214 (lv_at hl 6 rfl) ?_
              refine lv_bipush (v := q_I 6) hx hb dX11_layEdges_216 (by decide) ?_
              refine lv_iconst (v := q_I 0) hx hb dX11_layEdges_218 rfl ?_
              refine lv_ldc hx hb hown (hts _ ck_RX11_223) dX11_layEdges_219 ?_
              refine lv_aload_n hx hb dX11_layEdges_221 rfl (lv_at hl 1 rfl) ?_
              refine q_getI hx hb hts hown hK hP fd_RX11_96 (Nat.le_of_ble_eq_true rfl) q_kdM_0 rfl dX11_layEdges_222 h ?_
              clear h; intro x56 r56 h
              refine lv_iload hx hb dX11_layEdges_225 (lv_at hl 5 rfl) ?_
              refine lv_iload_n hx hb dX11_layEdges_227 rfl (lv_at hl 3 rfl) ?_
              refine q_iadd hx hb dX11_layEdges_228 h ?_
              clear h; intro x57 r57 h
              refine lv_iload hx hb dX11_layEdges_229 (lv_at hl 6 rfl) ?_
              refine q_iadd hx hb dX11_layEdges_231 h ?_
              clear h; intro x58 r58 h
              obtain ⟨μ60, hv59, h⟩ := q_b_some h
              refine q_callV hx hb hml hts hown hK hP hS (As := [.int (q_I x41), .int (q_I 6), .int (q_I 0), .int (q_I 100000), .int (q_I x56), .int (q_I x58)]) (rest := []) (st1 := []) cv_RX11_228 (c_M_edge l D dA r41 (q_r 6 rfl) (q_r 0 rfl) (q_r 100000 rfl) r56 r58 hv59) (Nat.le_of_ble_eq_true rfl) q_kdM_0 rfl ⟨rfl, rfl, Nat.le_of_ble_eq_true rfl, Nat.le_of_ble_eq_true rfl⟩ ⟨Nat.le_refl _, Nat.le_refl _⟩ rfl hl.1 rfl (Nat.le_of_ble_eq_true rfl) rfl (fun _ g => g) dX11_layEdges_232 ?_
              clear hP hS hv59; intro H locs _ hP hS _
              refine lv_aload_n hx hb dX11_layEdges_235 rfl (lv_at hl 1 rfl) ?_
              refine lv_iload hx hb dX11_layEdges_236 (lv_at hl 6 rfl) ?_
              refine lv_iconst (v := q_I 5) hx hb dX11_layEdges_238 rfl ?_
              refine lv_aload_n hx hb dX11_layEdges_239 rfl (lv_at hl 1 rfl) ?_
              refine q_getI hx hb hts hown hK hP fd_RX11_217 (Nat.le_of_ble_eq_true rfl) q_kdM_0 rfl dX11_layEdges_240 h ?_
              clear h; intro x61 r61 h
              refine lv_aload_n hx hb dX11_layEdges_243 rfl (lv_at hl 1 rfl) ?_
              refine q_getI hx hb hts hown hK hP fd_RX11_217 (Nat.le_of_ble_eq_true rfl) q_kdM_0 rfl dX11_layEdges_244 h ?_
              clear h; intro x62 r62 h
              refine lv_aload_n hx hb dX11_layEdges_247 rfl (lv_at hl 1 rfl) ?_
              refine q_getI hx hb hts hown hK hP fd_RX11_220 (Nat.le_of_ble_eq_true rfl) q_kdM_0 rfl dX11_layEdges_248 h ?_
              clear h; intro x63 r63 h
              refine q_jn_in h (fun J => ∀ (x64 : Int) (H : Heap) (locs : List Loc) (ls : Array Slot), q_R x64 → q_P D dA q_kdM q_rhoM 22 z sz μ60 H → va_S (q_A z 22) s.heap H locs → lv_has ls 8 [(0, .ref (z + 0)), (1, .int (q_I a0)), (2, .int (q_I x1)), (3, .int (q_I x10)), (4, .int (q_I x49)), (5, .int (q_I x20)), (6, .int (q_I x41))] → J x64 = some (xo, μo) → W p l e ({ frames := 4, cells := 0, slots := 0, locals := 91 } : Room) s m args below meth c H locs 0 0 Qf (F0 m 265 ls [.int (q_I x64), .int (q_I x61), .int (q_I 5), .int (q_I x41), .ref (z + 0)])) ?_ ?_
              · clear h hl hP hS; intro x64 H locs ls r64 hP hS hl h
                refine lv_iconst (v := q_I 0) hx hb dX11_layEdges_265 rfl ?_
                refine lv_iconst (v := q_I (-1)) hx hb dX11_layEdges_266 rfl ?_
                obtain ⟨μ66, hv65, h⟩ := q_b_some h
                refine q_callV hx hb hml hts hown hK hP hS (As := [.int (q_I x41), .int (q_I 5), .int (q_I x61), .int (q_I x64), .int (q_I 0), .int (q_I ((-1)))]) (rest := []) (st1 := []) cv_RX11_228 (c_M_edge l D dA r41 (q_r 5 rfl) r61 r64 (q_r 0 rfl) (q_r (-1) rfl) hv65) (Nat.le_of_ble_eq_true rfl) q_kdM_0 rfl ⟨rfl, rfl, Nat.le_of_ble_eq_true rfl, Nat.le_of_ble_eq_true rfl⟩ ⟨Nat.le_refl _, Nat.le_refl _⟩ rfl hl.1 rfl (Nat.le_of_ble_eq_true rfl) rfl (fun _ g => g) dX11_layEdges_267 ?_
                clear hP hS hv65; intro H locs _ hP hS _
                refine q_iinc (k := 6) (lv' := fun t => [(6, .int (q_I t)), (0, .ref (z + 0)), (1, .int (q_I a0)), (2, .int (q_I x1)), (3, .int (q_I x10)), (4, .int (q_I x49)), (5, .int (q_I x20))]) hx hb dX11_layEdges_270 hl rfl (by decide) (fun _ => rfl) h ?_
                clear h hl; intro x67 ls r67 hl h
                refine lv_goto (tgt := 131) hx hb dX11_layEdges_273 (by decide) ?_
                exact ih131 x49 x67 μ66 _ _ _ r49 r67 hP hS (lv_sub hl [1, 2, 3, 4, 5, 6, 0] rfl) h
              · clear h; intro j265 hj265 h
                refine q_cgt hx hb r62 r63 (tgt := 261) dX11_layEdges_251 (by decide) h ?_ ?_
                · clear h; intro g70 h
                  refine lv_aload_n hx hb dX11_layEdges_261 rfl (lv_at hl 1 rfl) ?_
                  refine q_getI hx hb hts hown hK hP fd_RX11_217 (Nat.le_of_ble_eq_true rfl) q_kdM_0 rfl dX11_layEdges_262 h ?_
                  clear h; intro x68 r68 h
                  exact hj265 x68 _ _ _ r68 hP hS (lv_sub hl [1, 2, 3, 4, 0, 5, 6] rfl) h
                · clear h; intro g70 h
                  refine lv_aload_n hx hb dX11_layEdges_254 rfl (lv_at hl 1 rfl) ?_
                  refine q_getI hx hb hts hown hK hP fd_RX11_220 (Nat.le_of_ble_eq_true rfl) q_kdM_0 rfl dX11_layEdges_255 h ?_
                  clear h; intro x69 r69 h
                  refine lv_goto (tgt := 265) hx hb dX11_layEdges_258 (by decide) ?_
                  exact hj265 x69 _ _ _ r69 hP hS (lv_sub hl [1, 2, 3, 4, 0, 5, 6] rfl) h
            · clear h; intro j177 hj177 h
              refine q_jn_in h (fun J => ∀ (H : Heap) (locs : List Loc) (ls : Array Slot), q_P D dA q_kdM q_rhoM 22 z sz μ48 H → va_S (q_A z 22) s.heap H locs → lv_has ls 8 [(0, .ref (z + 0)), (1, .int (q_I a0)), (2, .int (q_I x1)), (3, .int (q_I x10)), (5, .int (q_I x20)), (6, .int (q_I x41)), (7, .int (q_I x46))] → J = some (xo, μo) → W p l e ({ frames := 4, cells := 0, slots := 0, locals := 91 } : Room) s m args below meth c H locs 0 0 Qf (F0 m 176 ls [])) ?_ ?_
              · clear h hl hP hS; intro  H locs ls  hP hS hl h
                refine lv_iconst (v := q_I 0) hx hb dX11_layEdges_176 rfl ?_
                exact hj177 0 _ _ _ (q_r 0 rfl) hP hS (lv_sub hl [0, 1, 2, 3, 4, 5, 6] rfl) h
              · clear h; intro j176 hj176 h
                refine q_zeq hx hb r40 (tgt := 176) dX11_layEdges_158 (by decide) h ?_ ?_
                · clear h; intro g74 h
                  exact hj176  _ _ _ hP hS (lv_sub hl [1, 2, 3, 4, 6, 7, 0] rfl) h
                · clear h; intro g74 h
                  refine lv_aload_n hx hb dX11_layEdges_161 rfl (lv_at hl 1 rfl) ?_
                  refine q_getI hx hb hts hown hK hP fd_RX11_217 (Nat.le_of_ble_eq_true rfl) q_kdM_0 rfl dX11_layEdges_162 h ?_
                  clear h; intro x71 r71 h
                  refine lv_aload_n hx hb dX11_layEdges_165 rfl (lv_at hl 1 rfl) ?_
                  refine q_getI hx hb hts hown hK hP fd_RX11_220 (Nat.le_of_ble_eq_true rfl) q_kdM_0 rfl dX11_layEdges_166 h ?_
                  clear h; intro x72 r72 h
                  refine q_cgt hx hb r71 r72 (tgt := 176) dX11_layEdges_169 (by decide) h ?_ ?_
                  · clear h; intro g73 h
                    exact hj176  _ _ _ hP hS (lv_sub hl [1, 2, 3, 4, 6, 7, 0] rfl) h
                  · clear h; intro g73 h
                    refine lv_iconst (v := q_I 1) hx hb dX11_layEdges_172 rfl ?_
                    refine lv_goto (tgt := 177) hx hb dX11_layEdges_173 (by decide) ?_
                    exact hj177 1 _ _ _ (q_r 1 rfl) hP hS (lv_sub hl [1, 2, 3, 4, 6, 7, 0] rfl) h
      refine L131 _ ?_  _ x16 0 μ21 _ _ _ r16 (q_r 0 rfl) hP hS (lv_sub hl [1, 2, 3, 4, 5, 6, 0] rfl) h
      · clear h hl hP hS; intro x43 μ44 H locs ls r43 hP hS hl h
        refine lv_aload_n hx hb dX11_layEdges_276 rfl (lv_at hl 0 rfl) ?_
        refine lv_bipush (v := q_I 8) hx hb dX11_layEdges_277 (by decide) ?_
        refine lv_iload_n hx hb dX11_layEdges_279 rfl (lv_at hl 1 rfl) ?_
        refine lv_ldc hx hb hown (hts _ ck_RX11_223) dX11_layEdges_280 ?_
        obtain ⟨μ77, hv76, h⟩ := q_b_some h
        refine q_callV hx hb hml hts hown hK hP hS (As := [.int (q_I 8), .int (q_I a0), .int (q_I 100000)]) (rest := []) (st1 := []) cv_RX11_224 (c_M_findBounds l D dA (q_r 8 rfl) ra0 (q_r 100000 rfl) hv76) (Nat.le_of_ble_eq_true rfl) q_kdM_0 rfl ⟨rfl, rfl, Nat.le_of_ble_eq_true rfl, Nat.le_of_ble_eq_true rfl⟩ ⟨Nat.le_refl _, Nat.le_refl _⟩ rfl hl.1 rfl (Nat.le_of_ble_eq_true rfl) rfl (fun _ g => g) dX11_layEdges_282 ?_
        clear hP hS hv76; intro H locs _ hP hS _
        refine lv_aload_n hx hb dX11_layEdges_285 rfl (lv_at hl 0 rfl) ?_
        refine lv_aload_n hx hb dX11_layEdges_286 rfl (lv_at hl 0 rfl) ?_
        refine q_getI hx hb hts hown hK hP fd_RX11_217 (Nat.le_of_ble_eq_true rfl) q_kdM_0 rfl dX11_layEdges_287 h ?_
        clear h; intro x78 r78 h
        refine lv_iload_n hx hb dX11_layEdges_290 rfl (lv_at hl 2 rfl) ?_
        refine q_jn_in h (fun J => ∀ (x79 : Int) (H : Heap) (locs : List Loc) (ls : Array Slot), q_R x79 → q_P D dA q_kdM q_rhoM 22 z sz μ77 H → va_S (q_A z 22) s.heap H locs → lv_has ls 8 [(0, .ref (z + 0)), (3, .int (q_I x10)), (4, .int (q_I x43))] → J x79 = some (xo, μo) → W p l e ({ frames := 4, cells := 0, slots := 0, locals := 91 } : Room) s m args below meth c H locs 0 0 Qf (F0 m 304 ls [.int (q_I x79), .ref (z + 0)])) ?_ ?_
        · clear h hl hP hS; intro x79 H locs ls r79 hP hS hl h
          refine q_putI hx hb hts hown hK hP hS hA fd_RX11_217 (Nat.le_of_ble_eq_true rfl) q_kdM_0 rfl r79 dX11_layEdges_304 h ?_
          clear h hP hS; intro μ80 H locs hP hS h
          refine lv_aload_n hx hb dX11_layEdges_307 rfl (lv_at hl 0 rfl) ?_
          refine lv_dup hx hb dX11_layEdges_308 rfl ?_
          refine q_getI hx hb hts hown hK hP fd_RX11_220 (Nat.le_of_ble_eq_true rfl) q_kdM_0 rfl dX11_layEdges_309 h ?_
          clear h; intro x81 r81 h
          refine lv_iload_n hx hb dX11_layEdges_312 rfl (lv_at hl 1 rfl) ?_
          refine q_isub hx hb dX11_layEdges_313 h ?_
          clear h; intro x82 r82 h
          refine q_putI hx hb hts hown hK hP hS hA fd_RX11_220 (Nat.le_of_ble_eq_true rfl) q_kdM_0 rfl r82 dX11_layEdges_314 h ?_
          clear h hP hS; intro μ83 H locs hP hS h
          refine lv_aload_n hx hb dX11_layEdges_317 rfl (lv_at hl 0 rfl) ?_
          refine lv_iconst (v := q_I 5) hx hb dX11_layEdges_318 rfl ?_
          refine lv_bipush (v := q_I 6) hx hb dX11_layEdges_319 (by decide) ?_
          refine lv_aload_n hx hb dX11_layEdges_321 rfl (lv_at hl 0 rfl) ?_
          refine q_getI hx hb hts hown hK hP fd_RX11_217 (Nat.le_of_ble_eq_true rfl) q_kdM_0 rfl dX11_layEdges_322 h ?_
          clear h; intro x84 r84 h
          refine lv_aload_n hx hb dX11_layEdges_325 rfl (lv_at hl 0 rfl) ?_
          refine q_getI hx hb hts hown hK hP fd_RX11_217 (Nat.le_of_ble_eq_true rfl) q_kdM_0 rfl dX11_layEdges_326 h ?_
          clear h; intro x85 r85 h
          refine lv_aload_n hx hb dX11_layEdges_329 rfl (lv_at hl 0 rfl) ?_
          refine q_getI hx hb hts hown hK hP fd_RX11_220 (Nat.le_of_ble_eq_true rfl) q_kdM_0 rfl dX11_layEdges_330 h ?_
          clear h; intro x86 r86 h
          refine q_jn_in h (fun J => ∀ (x87 : Int) (H : Heap) (locs : List Loc) (ls : Array Slot), q_R x87 → q_P D dA q_kdM q_rhoM 22 z sz μ83 H → va_S (q_A z 22) s.heap H locs → lv_has ls 8 [(0, .ref (z + 0)), (4, .int (q_I x43))] → J x87 = some (xo, μo) → W p l e ({ frames := 4, cells := 0, slots := 0, locals := 91 } : Room) s m args below meth c H locs 0 0 Qf (F0 m 347 ls [.int (q_I x87), .int (q_I x84), .int (q_I 6), .int (q_I 5), .ref (z + 0)])) ?_ ?_
          · clear h hl hP hS; intro x87 H locs ls r87 hP hS hl h
            refine lv_iconst (v := q_I 0) hx hb dX11_layEdges_347 rfl ?_
            refine lv_iconst (v := q_I (-1)) hx hb dX11_layEdges_348 rfl ?_
            obtain ⟨μ89, hv88, h⟩ := q_b_some h
            refine q_callV hx hb hml hts hown hK hP hS (As := [.int (q_I 5), .int (q_I 6), .int (q_I x84), .int (q_I x87), .int (q_I 0), .int (q_I ((-1)))]) (rest := []) (st1 := []) cv_RX11_228 (c_M_edge l D dA (q_r 5 rfl) (q_r 6 rfl) r84 r87 (q_r 0 rfl) (q_r (-1) rfl) hv88) (Nat.le_of_ble_eq_true rfl) q_kdM_0 rfl ⟨rfl, rfl, Nat.le_of_ble_eq_true rfl, Nat.le_of_ble_eq_true rfl⟩ ⟨Nat.le_refl _, Nat.le_refl _⟩ rfl hl.1 rfl (Nat.le_of_ble_eq_true rfl) rfl (fun _ g => g) dX11_layEdges_349 ?_
            clear hP hS hv88; intro H locs _ hP hS _
            refine lv_iload hx hb dX11_layEdges_352 (lv_at hl 1 rfl) ?_
            refine q_jn_in h (fun J => ∀ (x90 : Int) (H : Heap) (locs : List Loc) (ls : Array Slot), q_R x90 → q_P D dA q_kdM q_rhoM 22 z sz μ89 H → va_S (q_A z 22) s.heap H locs → lv_has ls 8 [] → J x90 = some (xo, μo) → W p l e ({ frames := 4, cells := 0, slots := 0, locals := 91 } : Room) s m args below meth c H locs 0 0 Qf (F0 m 373 ls [.int (q_I x90)])) ?_ ?_
            · clear h hl hP hS; intro x90 H locs ls r90 hP hS hl h
              rw [← hQ]
              obtain ⟨hz, h⟩ := q_rz_some h
              exact q_retz2 hx hb hr hlocks hP hS hz h dX11_layEdges_373
            · clear h; intro j373 hj373 h
              refine q_jn_in h (fun J => ∀ (H : Heap) (locs : List Loc) (ls : Array Slot), q_P D dA q_kdM q_rhoM 22 z sz μ89 H → va_S (q_A z 22) s.heap H locs → lv_has ls 8 [] → J = some (xo, μo) → W p l e ({ frames := 4, cells := 0, slots := 0, locals := 91 } : Room) s m args below meth c H locs 0 0 Qf (F0 m 372 ls [])) ?_ ?_
              · clear h hl hP hS; intro  H locs ls  hP hS hl h
                refine lv_iconst (v := q_I 0) hx hb dX11_layEdges_372 rfl ?_
                exact hj373 0 _ _ _ (q_r 0 rfl) hP hS (lv_sub hl [] rfl) h
              · clear h; intro j372 hj372 h
                refine q_zeq hx hb r43 (tgt := 372) dX11_layEdges_354 (by decide) h ?_ ?_
                · clear h; intro g94 h
                  exact hj372  _ _ _ hP hS (lv_sub hl [] rfl) h
                · clear h; intro g94 h
                  refine lv_aload_n hx hb dX11_layEdges_357 rfl (lv_at hl 0 rfl) ?_
                  refine q_getI hx hb hts hown hK hP fd_RX11_217 (Nat.le_of_ble_eq_true rfl) q_kdM_0 rfl dX11_layEdges_358 h ?_
                  clear h; intro x91 r91 h
                  refine lv_aload_n hx hb dX11_layEdges_361 rfl (lv_at hl 0 rfl) ?_
                  refine q_getI hx hb hts hown hK hP fd_RX11_220 (Nat.le_of_ble_eq_true rfl) q_kdM_0 rfl dX11_layEdges_362 h ?_
                  clear h; intro x92 r92 h
                  refine q_cgt hx hb r91 r92 (tgt := 372) dX11_layEdges_365 (by decide) h ?_ ?_
                  · clear h; intro g93 h
                    exact hj372  _ _ _ hP hS (lv_sub hl [] rfl) h
                  · clear h; intro g93 h
                    refine lv_iconst (v := q_I 1) hx hb dX11_layEdges_368 rfl ?_
                    refine lv_goto (tgt := 373) hx hb dX11_layEdges_369 (by decide) ?_
                    exact hj373 1 _ _ _ (q_r 1 rfl) hP hS (lv_sub hl [] rfl) h
          · clear h; intro j347 hj347 h
            refine q_cgt hx hb r85 r86 (tgt := 343) dX11_layEdges_333 (by decide) h ?_ ?_
            · clear h; intro g97 h
              refine lv_aload_n hx hb dX11_layEdges_343 rfl (lv_at hl 0 rfl) ?_
              refine q_getI hx hb hts hown hK hP fd_RX11_217 (Nat.le_of_ble_eq_true rfl) q_kdM_0 rfl dX11_layEdges_344 h ?_
              clear h; intro x95 r95 h
              exact hj347 x95 _ _ _ r95 hP hS (lv_sub hl [0, 2] rfl) h
            · clear h; intro g97 h
              refine lv_aload_n hx hb dX11_layEdges_336 rfl (lv_at hl 0 rfl) ?_
              refine q_getI hx hb hts hown hK hP fd_RX11_220 (Nat.le_of_ble_eq_true rfl) q_kdM_0 rfl dX11_layEdges_337 h ?_
              clear h; intro x96 r96 h
              refine lv_goto (tgt := 347) hx hb dX11_layEdges_340 (by decide) ?_
              exact hj347 x96 _ _ _ r96 hP hS (lv_sub hl [0, 2] rfl) h
        · clear h; intro j304 hj304 h
          refine q_cle hx hb r78 r10 (tgt := 303) dX11_layEdges_291 (by decide) h ?_ ?_
          · clear h; intro g100 h
            refine lv_iconst (v := q_I 0) hx hb dX11_layEdges_303 rfl ?_
            exact hj304 0 _ _ _ (q_r 0 rfl) hP hS (lv_sub hl [0, 2, 3] rfl) h
          · clear h; intro g100 h
            refine lv_aload_n hx hb dX11_layEdges_294 rfl (lv_at hl 0 rfl) ?_
            refine q_getI hx hb hts hown hK hP fd_RX11_217 (Nat.le_of_ble_eq_true rfl) q_kdM_0 rfl dX11_layEdges_295 h ?_
            clear h; intro x98 r98 h
            refine lv_iload_n hx hb dX11_layEdges_298 rfl (lv_at hl 2 rfl) ?_
            refine q_isub hx hb dX11_layEdges_299 h ?_
            clear h; intro x99 r99 h
            refine lv_goto (tgt := 304) hx hb dX11_layEdges_300 (by decide) ?_
            exact hj304 x99 _ _ _ r99 hP hS (lv_sub hl [0, 2, 3] rfl) h
set_option maxHeartbeats 4000000 in
set_option maxRecDepth 100000 in
theorem c_M_room (l : Launch) (D : va_G) (dA : Nat → ClassId) {z sz : Nat} {a0 : Int} (ra0 : q_R a0) {μ : q_M} {xo : Int} (h : f_M_room a0 μ = some xo) : Met l yX11_room (q_wc yX11_room cX11_room 3 (some .int)) ({ frames := 0, cells := 0, slots := 0, locals := 0 } : Room) (va_Pc [.ref (z + 0), .int (q_I a0)] (q_B (q_P D dA q_kdM q_rhoM 22 z sz μ) D dA)) (q_Q (some (.int (q_I xo))) (q_R xo) (q_P D dA q_kdM q_rhoM 22 z sz μ) (q_A z 22)) 0 0 (q_A z 22) := by
  refine Met.ofW (cc := cX11_room) (maxL := 3) (ret := (some .int)) (by decide) rfl ?_
  intro p e s m args below meth c s₁ B hml hv
  obtain ⟨hargs, hP, hK⟩ := hv
  have hx := B.exec
  have hb := B.bytes
  have hr := B.returns
  have hts : ∀ w ∈ q_W, w.before args s = true := fun w hw => atoms_spec (ws := q_wc yX11_room cX11_room 3 (some .int)) B.pre w (List.mem_cons_of_mem _ hw)
  have hown : s.vm.findClass RX11 = some m.cls := findClass_of_methodNamed B.named
  have hlocks := B.notSynchronized
  have hS : va_S (q_A z 22) s.heap s.heap [] := va_S.rf
  have hA : ∀ k, k < 22 → q_A z 22 (z + k) := fun k hk => ⟨Nat.le_add_right z k, Nat.add_lt_add_left hk z⟩
  have hl := lv_entry [.ref (z + 0), .int (q_I a0)] (n := 3) (Nat.le_of_ble_eq_true rfl)
  refine W.eq (by rw [hargs, lg_entry_eq]) ?_
  generalize (lg_sl [.ref (z + 0), .int (q_I a0)] ++ List.replicate (3 - (lg_sl [.ref (z + 0), .int (q_I a0)]).length) Slot.unset).toArray = ls at hl ⊢
  have hl : lv_has ls 3 [(0, .ref (z + 0)), (1, .int (q_I a0))] := hl
  generalize hQ : MQ below _ args s 0 0 _ = Qf
  change W p l e ({ frames := 0, cells := 0, slots := 0, locals := 0 } : Room) s m args below meth c s.heap [] 0 0 Qf (F0 m 0 ls [])
  unfold f_M_room at h
  refine lv_iload_n hx hb dX11_room_0 rfl (lv_at hl 1 rfl) ?_
  refine lv_bipush (v := q_I 100) hx hb dX11_room_1 (by decide) ?_
  refine q_irem hx hb ra0 (q_r 100 rfl) dX11_room_3 h ?_
  clear h; intro x1 r1 h
  refine lv_istore_n (lv' := [(2, .int (q_I x1)), (0, .ref (z + 0)), (1, .int (q_I a0))]) hx hb dX11_room_4 rfl hl (by decide) rfl ?_
  clear hl; intro ls hl
  refine lv_iload_n hx hb dX11_room_5 rfl (lv_at hl 2 rfl) ?_
  refine lv_bipush (v := q_I 100) hx hb dX11_room_6 (by decide) ?_
  refine q_jn_in h (fun J => ∀ (x2 : Int) (H : Heap) (locs : List Loc) (ls : Array Slot), q_R x2 → q_P D dA q_kdM q_rhoM 22 z sz μ H → va_S (q_A z 22) s.heap H locs → lv_has ls 3 [] → J x2 = some xo → W p l e ({ frames := 0, cells := 0, slots := 0, locals := 0 } : Room) s m args below meth c H locs 0 0 Qf (F0 m 40 ls [.int (q_I x2)])) ?_ ?_
  · clear h hl hP hS; intro x2 H locs ls r2 hP hS hl h
    rw [← hQ]
    exact q_ret1 hx hb hr hlocks hP hS r2 h dX11_room_40
  · clear h; intro j40 hj40 h
    refine q_cge hx hb ra0 (q_r 100 rfl) (tgt := 27) dX11_room_8 (by decide) h ?_ ?_
    · clear h; intro g9 h
      refine lv_aload_n hx hb dX11_room_27 rfl (lv_at hl 1 rfl) ?_
      refine q_getR hx hb hts hown hK hP fd_RX11_53 (Nat.le_of_ble_eq_true rfl) q_kdM_0 rfl q_rhM_0_21 dX11_room_28 ?_
      refine lv_iload_n hx hb dX11_room_31 rfl (lv_at hl 0 rfl) ?_
      refine q_iald hx hb hK hP (Nat.le_of_ble_eq_true rfl) q_kdM_15 r1 dX11_room_32 h ?_
      clear h; intro x3 r3 h
      refine lv_aload_n hx hb dX11_room_33 rfl (lv_at hl 1 rfl) ?_
      refine q_getR hx hb hts hown hK hP fd_RX11_44 (Nat.le_of_ble_eq_true rfl) q_kdM_0 rfl q_rhM_0_18 dX11_room_34 ?_
      refine lv_iload_n hx hb dX11_room_37 rfl (lv_at hl 0 rfl) ?_
      refine q_iald hx hb hK hP (Nat.le_of_ble_eq_true rfl) q_kdM_12 r1 dX11_room_38 h ?_
      clear h; intro x4 r4 h
      refine q_isub hx hb dX11_room_39 h ?_
      clear h; intro x5 r5 h
      exact hj40 x5 _ _ _ r5 hP hS (lv_sub hl [] rfl) h
    · clear h; intro g9 h
      refine lv_aload_n hx hb dX11_room_11 rfl (lv_at hl 1 rfl) ?_
      refine q_getR hx hb hts hown hK hP fd_RX11_41 (Nat.le_of_ble_eq_true rfl) q_kdM_0 rfl q_rhM_0_17 dX11_room_12 ?_
      refine lv_iload_n hx hb dX11_room_15 rfl (lv_at hl 0 rfl) ?_
      refine q_iald hx hb hK hP (Nat.le_of_ble_eq_true rfl) q_kdM_11 r1 dX11_room_16 h ?_
      clear h; intro x6 r6 h
      refine lv_aload_n hx hb dX11_room_17 rfl (lv_at hl 1 rfl) ?_
      refine q_getR hx hb hts hown hK hP fd_RX11_53 (Nat.le_of_ble_eq_true rfl) q_kdM_0 rfl q_rhM_0_21 dX11_room_18 ?_
      refine lv_iload_n hx hb dX11_room_21 rfl (lv_at hl 0 rfl) ?_
      refine q_iald hx hb hK hP (Nat.le_of_ble_eq_true rfl) q_kdM_15 r1 dX11_room_22 h ?_
      clear h; intro x7 r7 h
      refine q_isub hx hb dX11_room_23 h ?_
      clear h; intro x8 r8 h
      refine lv_goto (tgt := 40) hx hb dX11_room_24 (by decide) ?_
      exact hj40 x8 _ _ _ r8 hP hS (lv_sub hl [] rfl) h
set_option maxHeartbeats 4000000 in
set_option maxRecDepth 100000 in
theorem c_M_relaxes (l : Launch) (D : va_G) (dA : Nat → ClassId) {z sz : Nat} {N : Nat} {a0 : Int} (ra0 : q_R a0) {a1 : Int} (ra1 : q_R a1) {a2 : Int} (ra2 : q_R a2) {μ : q_M} {xo : Int} {μo : q_M} (h : f_M_relaxes N a0 a1 a2 μ = some (xo, μo)) : Met l yX11_relaxes (q_wc yX11_relaxes cX11_relaxes 10 (some .boolean)) ({ frames := 0, cells := 0, slots := 0, locals := 0 } : Room) (va_Pc [.ref (z + 0), .int (q_I a0), .int (q_I a1), .int (q_I a2)] (q_B (q_P D dA q_kdM q_rhoM 22 z sz μ) D dA)) (q_Q (some (.int (q_I xo))) (q_R xo) (q_P D dA q_kdM q_rhoM 22 z sz μo) (q_A z 22)) 0 0 (q_A z 22) := by
  refine Met.ofW (cc := cX11_relaxes) (maxL := 10) (ret := (some .boolean)) (by decide) rfl ?_
  intro p e s m args below meth c s₁ B hml hv
  obtain ⟨hargs, hP, hK⟩ := hv
  have hx := B.exec
  have hb := B.bytes
  have hr := B.returns
  have hts : ∀ w ∈ q_W, w.before args s = true := fun w hw => atoms_spec (ws := q_wc yX11_relaxes cX11_relaxes 10 (some .boolean)) B.pre w (List.mem_cons_of_mem _ hw)
  have hown : s.vm.findClass RX11 = some m.cls := findClass_of_methodNamed B.named
  have hlocks := B.notSynchronized
  have hS : va_S (q_A z 22) s.heap s.heap [] := va_S.rf
  have hA : ∀ k, k < 22 → q_A z 22 (z + k) := fun k hk => ⟨Nat.le_add_right z k, Nat.add_lt_add_left hk z⟩
  have hl := lv_entry [.ref (z + 0), .int (q_I a0), .int (q_I a1), .int (q_I a2)] (n := 10) (Nat.le_of_ble_eq_true rfl)
  refine W.eq (by rw [hargs, lg_entry_eq]) ?_
  generalize (lg_sl [.ref (z + 0), .int (q_I a0), .int (q_I a1), .int (q_I a2)] ++ List.replicate (10 - (lg_sl [.ref (z + 0), .int (q_I a0), .int (q_I a1), .int (q_I a2)]).length) Slot.unset).toArray = ls at hl ⊢
  have hl : lv_has ls 10 [(0, .ref (z + 0)), (1, .int (q_I a0)), (2, .int (q_I a1)), (3, .int (q_I a2))] := hl
  generalize hQ : MQ below _ args s 0 0 _ = Qf
  change W p l e ({ frames := 0, cells := 0, slots := 0, locals := 0 } : Room) s m args below meth c s.heap [] 0 0 Qf (F0 m 0 ls [])
  unfold f_M_relaxes at h
  refine lv_iload_n hx hb dX11_relaxes_0 rfl (lv_at hl 3 rfl) ?_
  refine lv_bipush (v := q_I 100) hx hb dX11_relaxes_1 (by decide) ?_
  refine q_irem hx hb ra2 (q_r 100 rfl) dX11_relaxes_3 h ?_
  clear h; intro x1 r1 h
  refine lv_istore (lv' := [(4, .int (q_I x1)), (0, .ref (z + 0)), (1, .int (q_I a0)), (2, .int (q_I a1)), (3, .int (q_I a2))]) hx hb dX11_relaxes_4 hl (by decide) rfl ?_
  clear hl; intro ls hl
  refine lv_iload_n hx hb dX11_relaxes_6 rfl (lv_at hl 4 rfl) ?_
  refine lv_bipush (v := q_I 100) hx hb dX11_relaxes_7 (by decide) ?_
  refine q_jn_in h (fun J => ∀ (x2 : Int) (H : Heap) (locs : List Loc) (ls : Array Slot), q_R x2 → q_P D dA q_kdM q_rhoM 22 z sz μ H → va_S (q_A z 22) s.heap H locs → lv_has ls 10 [(0, .ref (z + 0)), (1, .int (q_I a0)), (2, .int (q_I a1)), (3, .int (q_I a2)), (4, .int (q_I x1))] → J x2 = some (xo, μo) → W p l e ({ frames := 0, cells := 0, slots := 0, locals := 0 } : Room) s m args below meth c H locs 0 0 Qf (F0 m 17 ls [.int (q_I x2)])) ?_ ?_
  · clear h hl hP hS; intro x2 H locs ls r2 hP hS hl h
    refine lv_istore (lv' := [(5, .int (q_I x2)), (0, .ref (z + 0)), (1, .int (q_I a0)), (2, .int (q_I a1)), (3, .int (q_I a2)), (4, .int (q_I x1))]) hx hb dX11_relaxes_17 hl (by decide) rfl ?_
    clear hl; intro ls hl
    refine lv_aload_n hx hb dX11_relaxes_19 rfl (lv_at hl 1 rfl) ?_
    refine q_getR hx hb hts hown hK hP fd_RX11_59 (Nat.le_of_ble_eq_true rfl) q_kdM_0 rfl q_rhM_0_25 dX11_relaxes_20 ?_
    refine lv_iload_n hx hb dX11_relaxes_23 rfl (lv_at hl 3 rfl) ?_
    refine q_zald hx hb hK hP (Nat.le_of_ble_eq_true rfl) q_kdM_17 ra1 dX11_relaxes_24 h ?_
    clear h; intro x3 r3 h
    refine q_jn_in h (fun J => ∀ (x4 : Int) (H : Heap) (locs : List Loc) (ls : Array Slot), q_R x4 → q_P D dA q_kdM q_rhoM 22 z sz μ H → va_S (q_A z 22) s.heap H locs → lv_has ls 10 [(0, .ref (z + 0)), (1, .int (q_I a0)), (2, .int (q_I a1)), (3, .int (q_I a2)), (4, .int (q_I x1)), (5, .int (q_I x2))] → J x4 = some (xo, μo) → W p l e ({ frames := 0, cells := 0, slots := 0, locals := 0 } : Room) s m args below meth c H locs 0 0 Qf (F0 m 33 ls [.int (q_I x4)])) ?_ ?_
    · clear h hl hP hS; intro x4 H locs ls r4 hP hS hl h
      refine lv_istore (lv' := [(6, .int (q_I x4)), (0, .ref (z + 0)), (1, .int (q_I a0)), (2, .int (q_I a1)), (3, .int (q_I a2)), (4, .int (q_I x1)), (5, .int (q_I x2))]) hx hb dX11_relaxes_33 hl (by decide) rfl ?_
      clear hl; intro ls hl
      refine lv_iload hx hb dX11_relaxes_35 (lv_at hl 0 rfl) ?_
      refine lv_istore (lv' := [(7, .int (q_I x4)), (6, .int (q_I x4)), (0, .ref (z + 0)), (1, .int (q_I a0)), (2, .int (q_I a1)), (3, .int (q_I a2)), (4, .int (q_I x1)), (5, .int (q_I x2))]) hx hb dX11_relaxes_37 hl (by decide) rfl ?_
      clear hl; intro ls hl
      refine lv_iconst (v := q_I 0) hx hb dX11_relaxes_39 rfl ?_
      refine lv_istore (lv' := [(8, .int (q_I 0)), (7, .int (q_I x4)), (6, .int (q_I x4)), (0, .ref (z + 0)), (1, .int (q_I a0)), (2, .int (q_I a1)), (3, .int (q_I a2)), (4, .int (q_I x1)), (5, .int (q_I x2))]) hx hb dX11_relaxes_40 hl (by decide) rfl ?_
      clear hl; intro ls hl
      have L42 : ∀ (k161 : Int → Option (Int × q_M)), (∀ (x8 : Int) (H : Heap) (locs : List Loc) (ls : Array Slot), q_R x8 → q_P D dA q_kdM q_rhoM 22 z sz μ H → va_S (q_A z 22) s.heap H locs → lv_has ls 10 [(0, .ref (z + 0)), (1, .int (q_I a0)), (2, .int (q_I a1)), (3, .int (q_I a2)), (4, .int (q_I x1)), (5, .int (q_I x2)), (6, .int (q_I x8))] → k161 x8 = some (xo, μo) → W p l e ({ frames := 0, cells := 0, slots := 0, locals := 0 } : Room) s m args below meth c H locs 0 0 Qf (F0 m 161 ls [])) → ∀ (nf42 : Nat) (x5 : Int) (x6 : Int) (x7 : Int) (H : Heap) (locs : List Loc) (ls : Array Slot), q_R x5 → q_R x6 → q_R x7 → q_P D dA q_kdM q_rhoM 22 z sz μ H → va_S (q_A z 22) s.heap H locs → lv_has ls 10 [(0, .ref (z + 0)), (1, .int (q_I a0)), (2, .int (q_I a1)), (3, .int (q_I a2)), (4, .int (q_I x1)), (5, .int (q_I x2)), (6, .int (q_I x5)), (7, .int (q_I x6)), (8, .int (q_I x7))] → f_M_relaxes_L42 a0 a1 x1 x2 μ k161 nf42 x5 x6 x7 = some (xo, μo) → W p l e ({ frames := 0, cells := 0, slots := 0, locals := 0 } : Room) s m args below meth c H locs 0 0 Qf (F0 m 42 ls []) := by
        clear h hl hP hS
        intro k161 hk161 nf42
        induction nf42 with
        | zero =>
          intro x5 x6 x7 H locs ls r5 r6 r7 hP hS hl h
          rw [f_M_relaxes_L42] at h
          cases h
        | succ nf42 ih42 =>
          intro x5 x6 x7 H locs ls r5 r6 r7 hP hS hl h
          rw [f_M_relaxes_L42] at h
          refine lv_iload hx hb dX11_relaxes_42 (lv_at hl 8 rfl) ?_
          refine lv_bipush (v := q_I 31) hx hb dX11_relaxes_44 (by decide) ?_
          refine q_cge hx hb r7 (q_r 31 rfl) (tgt := 161) dX11_relaxes_46 (by decide) h ?_ ?_
          · clear h; intro g32 h
            exact hk161 x5 _ _ _ r5 hP hS (lv_sub hl [0, 1, 2, 3, 4, 5, 6] rfl) h
          · clear h; intro g32 h
            refine lv_iload hx hb dX11_relaxes_49 (lv_at hl 7 rfl) ?_
            refine q_zne hx hb r6 (tgt := 161) dX11_relaxes_51 (by decide) h ?_ ?_
            · clear h; intro g31 h
              refine lv_aload_n hx hb dX11_relaxes_54 rfl (lv_at hl 0 rfl) ?_
              refine q_getR hx hb hts hown hK hP fd_RX11_63 (Nat.le_of_ble_eq_true rfl) q_kdM_0 rfl q_rhM_0_26 dX11_relaxes_55 ?_
              refine lv_bipush (v := q_I 31) hx hb dX11_relaxes_58 (by decide) ?_
              refine lv_iload_n hx hb dX11_relaxes_60 rfl (lv_at hl 1 rfl) ?_
              refine q_imul hx hb dX11_relaxes_61 h ?_
              clear h; intro x9 r9 h
              refine lv_iload hx hb dX11_relaxes_62 (lv_at hl 8 rfl) ?_
              refine q_iadd hx hb dX11_relaxes_64 h ?_
              clear h; intro x10 r10 h
              refine q_iald hx hb hK hP (Nat.le_of_ble_eq_true rfl) q_kdM_18 r10 dX11_relaxes_65 h ?_
              clear h; intro x11 r11 h
              refine lv_iload hx hb dX11_relaxes_66 (lv_at hl 8 rfl) ?_
              refine q_jn_in h (fun J => ∀ (x12 : Int) (H : Heap) (locs : List Loc) (ls : Array Slot), q_R x12 → q_P D dA q_kdM q_rhoM 22 z sz μ H → va_S (q_A z 22) s.heap H locs → lv_has ls 10 [(0, .ref (z + 0)), (1, .int (q_I a0)), (2, .int (q_I a1)), (3, .int (q_I a2)), (4, .int (q_I x1)), (5, .int (q_I x2)), (8, .int (q_I x7))] → J x12 = some (xo, μo) → W p l e ({ frames := 0, cells := 0, slots := 0, locals := 0 } : Room) s m args below meth c H locs 0 0 Qf (F0 m 104 ls [.int (q_I x12), .int (q_I x11)])) ?_ ?_
              · clear h hl hP hS; intro x12 H locs ls r12 hP hS hl h
                refine q_iadd hx hb dX11_relaxes_104 h ?_
                clear h; intro x13 r13 h
                refine lv_istore (lv' := [(9, .int (q_I x13)), (0, .ref (z + 0)), (1, .int (q_I a0)), (2, .int (q_I a1)), (3, .int (q_I a2)), (4, .int (q_I x1)), (5, .int (q_I x2)), (8, .int (q_I x7))]) hx hb dX11_relaxes_105 hl (by decide) rfl ?_
                clear hl; intro ls hl
                refine lv_iload hx hb dX11_relaxes_107 (lv_at hl 0 rfl) ?_
                refine lv_aload_n hx hb dX11_relaxes_109 rfl (lv_at hl 1 rfl) ?_
                refine q_getR hx hb hts hown hK hP fd_RX11_63 (Nat.le_of_ble_eq_true rfl) q_kdM_0 rfl q_rhM_0_26 dX11_relaxes_110 ?_
                refine lv_bipush (v := q_I 31) hx hb dX11_relaxes_113 (by decide) ?_
                refine lv_iload_n hx hb dX11_relaxes_115 rfl (lv_at hl 3 rfl) ?_
                refine q_imul hx hb dX11_relaxes_116 h ?_
                clear h; intro x14 r14 h
                refine lv_iload hx hb dX11_relaxes_117 (lv_at hl 7 rfl) ?_
                refine q_iadd hx hb dX11_relaxes_119 h ?_
                clear h; intro x15 r15 h
                refine q_iald hx hb hK hP (Nat.le_of_ble_eq_true rfl) q_kdM_18 r15 dX11_relaxes_120 h ?_
                clear h; intro x16 r16 h
                refine q_jn_in h (fun J => ∀ (x17 : Int) (H : Heap) (locs : List Loc) (ls : Array Slot), q_R x17 → q_P D dA q_kdM q_rhoM 22 z sz μ H → va_S (q_A z 22) s.heap H locs → lv_has ls 10 [(0, .ref (z + 0)), (1, .int (q_I a0)), (2, .int (q_I a1)), (3, .int (q_I a2)), (4, .int (q_I x1)), (5, .int (q_I x2)), (8, .int (q_I x7)), (9, .int (q_I x13))] → J x17 = some (xo, μo) → W p l e ({ frames := 0, cells := 0, slots := 0, locals := 0 } : Room) s m args below meth c H locs 0 0 Qf (F0 m 129 ls [.int (q_I x17)])) ?_ ?_
                · clear h hl hP hS; intro x17 H locs ls r17 hP hS hl h
                  refine lv_istore (lv' := [(7, .int (q_I x17)), (0, .ref (z + 0)), (1, .int (q_I a0)), (2, .int (q_I a1)), (3, .int (q_I a2)), (4, .int (q_I x1)), (5, .int (q_I x2)), (8, .int (q_I x7)), (9, .int (q_I x13))]) hx hb dX11_relaxes_129 hl (by decide) rfl ?_
                  clear hl; intro ls hl
                  refine lv_iload hx hb dX11_relaxes_131 (lv_at hl 8 rfl) ?_
                  refine lv_aload_n hx hb dX11_relaxes_133 rfl (lv_at hl 1 rfl) ?_
                  refine q_getR hx hb hts hown hK hP fd_RX11_63 (Nat.le_of_ble_eq_true rfl) q_kdM_0 rfl q_rhM_0_26 dX11_relaxes_134 ?_
                  refine lv_bipush (v := q_I 31) hx hb dX11_relaxes_137 (by decide) ?_
                  refine lv_iload_n hx hb dX11_relaxes_139 rfl (lv_at hl 3 rfl) ?_
                  refine q_imul hx hb dX11_relaxes_140 h ?_
                  clear h; intro x18 r18 h
                  refine lv_iload hx hb dX11_relaxes_141 (lv_at hl 7 rfl) ?_
                  refine q_iadd hx hb dX11_relaxes_143 h ?_
                  clear h; intro x19 r19 h
                  refine q_iald hx hb hK hP (Nat.le_of_ble_eq_true rfl) q_kdM_18 r19 dX11_relaxes_144 h ?_
                  clear h; intro x20 r20 h
                  refine q_jn_in h (fun J => ∀ (x21 : Int) (H : Heap) (locs : List Loc) (ls : Array Slot), q_R x21 → q_P D dA q_kdM q_rhoM 22 z sz μ H → va_S (q_A z 22) s.heap H locs → lv_has ls 10 [(0, .ref (z + 0)), (1, .int (q_I a0)), (2, .int (q_I a1)), (3, .int (q_I a2)), (4, .int (q_I x1)), (5, .int (q_I x2)), (7, .int (q_I x17)), (8, .int (q_I x7))] → J x21 = some (xo, μo) → W p l e ({ frames := 0, cells := 0, slots := 0, locals := 0 } : Room) s m args below meth c H locs 0 0 Qf (F0 m 153 ls [.int (q_I x21)])) ?_ ?_
                  · clear h hl hP hS; intro x21 H locs ls r21 hP hS hl h
                    refine lv_istore (lv' := [(6, .int (q_I x21)), (0, .ref (z + 0)), (1, .int (q_I a0)), (2, .int (q_I a1)), (3, .int (q_I a2)), (4, .int (q_I x1)), (5, .int (q_I x2)), (7, .int (q_I x17)), (8, .int (q_I x7))]) hx hb dX11_relaxes_153 hl (by decide) rfl ?_
                    clear hl; intro ls hl
                    refine q_iinc (k := 8) (lv' := fun t => [(8, .int (q_I t)), (6, .int (q_I x21)), (0, .ref (z + 0)), (1, .int (q_I a0)), (2, .int (q_I a1)), (3, .int (q_I a2)), (4, .int (q_I x1)), (5, .int (q_I x2)), (7, .int (q_I x17))]) hx hb dX11_relaxes_155 hl rfl (by decide) (fun _ => rfl) h ?_
                    clear h hl; intro x22 ls r22 hl h
                    refine lv_goto (tgt := 42) hx hb dX11_relaxes_158 (by decide) ?_
                    exact ih42 x21 x17 x22 _ _ _ r21 r17 r22 hP hS (lv_sub hl [2, 3, 4, 5, 6, 7, 1, 8, 0] rfl) h
                  · clear h; intro j153 hj153 h
                    refine q_cge hx hb r13 r20 (tgt := 152) dX11_relaxes_145 (by decide) h ?_ ?_
                    · clear h; intro g23 h
                      refine lv_iconst (v := q_I 0) hx hb dX11_relaxes_152 rfl ?_
                      exact hj153 0 _ _ _ (q_r 0 rfl) hP hS (lv_sub hl [1, 2, 3, 4, 5, 6, 0, 7] rfl) h
                    · clear h; intro g23 h
                      refine lv_iconst (v := q_I 1) hx hb dX11_relaxes_148 rfl ?_
                      refine lv_goto (tgt := 153) hx hb dX11_relaxes_149 (by decide) ?_
                      exact hj153 1 _ _ _ (q_r 1 rfl) hP hS (lv_sub hl [1, 2, 3, 4, 5, 6, 0, 7] rfl) h
                · clear h; intro j129 hj129 h
                  refine q_ceq hx hb r13 r16 (tgt := 128) dX11_relaxes_121 (by decide) h ?_ ?_
                  · clear h; intro g24 h
                    refine lv_iconst (v := q_I 0) hx hb dX11_relaxes_128 rfl ?_
                    exact hj129 0 _ _ _ (q_r 0 rfl) hP hS (lv_sub hl [1, 2, 3, 4, 5, 6, 7, 0] rfl) h
                  · clear h; intro g24 h
                    refine lv_iconst (v := q_I 1) hx hb dX11_relaxes_124 rfl ?_
                    refine lv_goto (tgt := 129) hx hb dX11_relaxes_125 (by decide) ?_
                    exact hj129 1 _ _ _ (q_r 1 rfl) hP hS (lv_sub hl [1, 2, 3, 4, 5, 6, 7, 0] rfl) h
              · clear h; intro j104 hj104 h
                refine q_zne hx hb r7 (tgt := 84) dX11_relaxes_68 (by decide) h ?_ ?_
                · clear h; intro g30 h
                  refine lv_iload hx hb dX11_relaxes_71 (lv_at hl 5 rfl) ?_
                  refine lv_aload_n hx hb dX11_relaxes_73 rfl (lv_at hl 0 rfl) ?_
                  refine q_getR hx hb hts hown hK hP fd_RX11_47 (Nat.le_of_ble_eq_true rfl) q_kdM_0 rfl q_rhM_0_19 dX11_relaxes_74 ?_
                  refine lv_iload hx hb dX11_relaxes_77 (lv_at hl 4 rfl) ?_
                  refine q_iald hx hb hK hP (Nat.le_of_ble_eq_true rfl) q_kdM_13 r1 dX11_relaxes_79 h ?_
                  clear h; intro x28 r28 h
                  refine q_imul hx hb dX11_relaxes_80 h ?_
                  clear h; intro x29 r29 h
                  refine lv_goto (tgt := 104) hx hb dX11_relaxes_81 (by decide) ?_
                  exact hj104 x29 _ _ _ r29 hP hS (lv_sub hl [0, 1, 2, 3, 4, 5, 8] rfl) h
                · clear h; intro g30 h
                  refine lv_iload hx hb dX11_relaxes_84 (lv_at hl 8 rfl) ?_
                  refine lv_iconst (v := q_I 1) hx hb dX11_relaxes_86 rfl ?_
                  refine q_isub hx hb dX11_relaxes_87 h ?_
                  clear h; intro x25 r25 h
                  refine lv_aload_n hx hb dX11_relaxes_88 rfl (lv_at hl 0 rfl) ?_
                  refine q_getR hx hb hts hown hK hP fd_RX11_50 (Nat.le_of_ble_eq_true rfl) q_kdM_0 rfl q_rhM_0_20 dX11_relaxes_89 ?_
                  refine lv_iload hx hb dX11_relaxes_92 (lv_at hl 4 rfl) ?_
                  refine q_iald hx hb hK hP (Nat.le_of_ble_eq_true rfl) q_kdM_14 r1 dX11_relaxes_94 h ?_
                  clear h; intro x26 r26 h
                  refine q_cne hx hb r25 r26 (tgt := 103) dX11_relaxes_95 (by decide) h ?_ ?_
                  · clear h; intro g27 h
                    refine lv_iload hx hb dX11_relaxes_98 (lv_at hl 5 rfl) ?_
                    refine lv_goto (tgt := 104) hx hb dX11_relaxes_100 (by decide) ?_
                    exact hj104 x2 _ _ _ r2 hP hS (lv_sub hl [0, 1, 2, 3, 4, 5, 8] rfl) h
                  · clear h; intro g27 h
                    refine lv_iconst (v := q_I 0) hx hb dX11_relaxes_103 rfl ?_
                    exact hj104 0 _ _ _ (q_r 0 rfl) hP hS (lv_sub hl [0, 1, 2, 3, 4, 5, 8] rfl) h
            · clear h; intro g31 h
              exact hk161 x5 _ _ _ r5 hP hS (lv_sub hl [0, 1, 2, 3, 4, 5, 6] rfl) h
      refine L42 _ ?_  _ x4 x4 0 _ _ _ r4 r4 (q_r 0 rfl) hP hS (lv_sub hl [3, 4, 5, 6, 7, 8, 2, 1, 0] rfl) h
      · clear h hl hP hS; intro x8 H locs ls r8 hP hS hl h
        refine lv_iload hx hb dX11_relaxes_161 (lv_at hl 6 rfl) ?_
        refine q_zne hx hb r8 (tgt := 168) dX11_relaxes_163 (by decide) h ?_ ?_
        · clear h; intro g54 h
          refine lv_iconst (v := q_I 0) hx hb dX11_relaxes_166 rfl ?_
          rw [← hQ]
          exact q_retz2 hx hb hr hlocks hP hS (Or.inl rfl) h dX11_relaxes_167
        · clear h; intro g54 h
          refine lv_iconst (v := q_I 0) hx hb dX11_relaxes_168 rfl ?_
          refine lv_istore (lv' := [(8, .int (q_I 0)), (0, .ref (z + 0)), (1, .int (q_I a0)), (2, .int (q_I a1)), (3, .int (q_I a2)), (4, .int (q_I x1)), (5, .int (q_I x2)), (6, .int (q_I x8))]) hx hb dX11_relaxes_169 hl (by decide) rfl ?_
          clear hl; intro ls hl
          have L171 : ∀ (k247 : q_M → Option (Int × q_M)), (∀ (μ35 : q_M) (H : Heap) (locs : List Loc) (ls : Array Slot), q_P D dA q_kdM q_rhoM 22 z sz μ35 H → va_S (q_A z 22) s.heap H locs → lv_has ls 10 [(0, .ref (z + 0)), (2, .int (q_I a1)), (3, .int (q_I a2))] → k247 μ35 = some (xo, μo) → W p l e ({ frames := 0, cells := 0, slots := 0, locals := 0 } : Room) s m args below meth c H locs 0 0 Qf (F0 m 247 ls [])) → ∀ (nf171 : Nat) (x33 : Int) (μ34 : q_M) (H : Heap) (locs : List Loc) (ls : Array Slot), q_R x33 → q_P D dA q_kdM q_rhoM 22 z sz μ34 H → va_S (q_A z 22) s.heap H locs → lv_has ls 10 [(0, .ref (z + 0)), (1, .int (q_I a0)), (2, .int (q_I a1)), (3, .int (q_I a2)), (4, .int (q_I x1)), (5, .int (q_I x2)), (8, .int (q_I x33))] → f_M_relaxes_L171 a0 a1 x1 x2 k247 nf171 x33 μ34 = some (xo, μo) → W p l e ({ frames := 0, cells := 0, slots := 0, locals := 0 } : Room) s m args below meth c H locs 0 0 Qf (F0 m 171 ls []) := by
            clear h hl hP hS
            intro k247 hk247 nf171
            induction nf171 with
            | zero =>
              intro x33 μ34 H locs ls r33 hP hS hl h
              rw [f_M_relaxes_L171] at h
              cases h
            | succ nf171 ih171 =>
              intro x33 μ34 H locs ls r33 hP hS hl h
              rw [f_M_relaxes_L171] at h
              refine lv_iload hx hb dX11_relaxes_171 (lv_at hl 6 rfl) ?_
              refine lv_bipush (v := q_I 31) hx hb dX11_relaxes_173 (by decide) ?_
              refine q_cge hx hb r33 (q_r 31 rfl) (tgt := 247) dX11_relaxes_175 (by decide) h ?_ ?_
              · clear h; intro g51 h
                exact hk247 μ34 _ _ _ hP hS (lv_sub hl [0, 2, 3] rfl) h
              · clear h; intro g51 h
                refine lv_aload_n hx hb dX11_relaxes_178 rfl (lv_at hl 0 rfl) ?_
                refine q_getR hx hb hts hown hK hP fd_RX11_63 (Nat.le_of_ble_eq_true rfl) q_kdM_0 rfl q_rhM_0_26 dX11_relaxes_179 ?_
                refine lv_bipush (v := q_I 31) hx hb dX11_relaxes_182 (by decide) ?_
                refine lv_iload_n hx hb dX11_relaxes_184 rfl (lv_at hl 2 rfl) ?_
                refine q_imul hx hb dX11_relaxes_185 h ?_
                clear h; intro x36 r36 h
                refine lv_iload hx hb dX11_relaxes_186 (lv_at hl 6 rfl) ?_
                refine q_iadd hx hb dX11_relaxes_188 h ?_
                clear h; intro x37 r37 h
                refine lv_aload_n hx hb dX11_relaxes_189 rfl (lv_at hl 0 rfl) ?_
                refine q_getR hx hb hts hown hK hP fd_RX11_63 (Nat.le_of_ble_eq_true rfl) q_kdM_0 rfl q_rhM_0_26 dX11_relaxes_190 ?_
                refine lv_bipush (v := q_I 31) hx hb dX11_relaxes_193 (by decide) ?_
                refine lv_iload_n hx hb dX11_relaxes_195 rfl (lv_at hl 1 rfl) ?_
                refine q_imul hx hb dX11_relaxes_196 h ?_
                clear h; intro x38 r38 h
                refine lv_iload hx hb dX11_relaxes_197 (lv_at hl 6 rfl) ?_
                refine q_iadd hx hb dX11_relaxes_199 h ?_
                clear h; intro x39 r39 h
                refine q_iald hx hb hK hP (Nat.le_of_ble_eq_true rfl) q_kdM_18 r39 dX11_relaxes_200 h ?_
                clear h; intro x40 r40 h
                refine lv_iload hx hb dX11_relaxes_201 (lv_at hl 6 rfl) ?_
                refine q_jn_in h (fun J => ∀ (x41 : Int) (H : Heap) (locs : List Loc) (ls : Array Slot), q_R x41 → q_P D dA q_kdM q_rhoM 22 z sz μ34 H → va_S (q_A z 22) s.heap H locs → lv_has ls 10 [(0, .ref (z + 0)), (1, .int (q_I a0)), (2, .int (q_I a1)), (3, .int (q_I a2)), (4, .int (q_I x1)), (5, .int (q_I x2)), (8, .int (q_I x33))] → J x41 = some (xo, μo) → W p l e ({ frames := 0, cells := 0, slots := 0, locals := 0 } : Room) s m args below meth c H locs 0 0 Qf (F0 m 239 ls [.int (q_I x41), .int (q_I x40), .int (q_I x37), .ref (z + 18)])) ?_ ?_
                · clear h hl hP hS; intro x41 H locs ls r41 hP hS hl h
                  refine q_iadd hx hb dX11_relaxes_239 h ?_
                  clear h; intro x42 r42 h
                  refine q_iast hx hb hK hP hS hA (Nat.le_of_ble_eq_true rfl) q_kdM_18 r37 r42 dX11_relaxes_240 h ?_
                  clear h hP hS; intro μ43 H locs hP hS h
                  refine q_iinc (k := 6) (lv' := fun t => [(8, .int (q_I t)), (0, .ref (z + 0)), (1, .int (q_I a0)), (2, .int (q_I a1)), (3, .int (q_I a2)), (4, .int (q_I x1)), (5, .int (q_I x2))]) hx hb dX11_relaxes_241 hl rfl (by decide) (fun _ => rfl) h ?_
                  clear h hl; intro x44 ls r44 hl h
                  refine lv_goto (tgt := 171) hx hb dX11_relaxes_244 (by decide) ?_
                  exact ih171 x44 μ43 _ _ _ r44 hP hS (lv_sub hl [1, 2, 3, 4, 5, 6, 0] rfl) h
                · clear h; intro j239 hj239 h
                  refine q_zne hx hb r33 (tgt := 219) dX11_relaxes_203 (by decide) h ?_ ?_
                  · clear h; intro g50 h
                    refine lv_iload hx hb dX11_relaxes_206 (lv_at hl 5 rfl) ?_
                    refine lv_aload_n hx hb dX11_relaxes_208 rfl (lv_at hl 0 rfl) ?_
                    refine q_getR hx hb hts hown hK hP fd_RX11_47 (Nat.le_of_ble_eq_true rfl) q_kdM_0 rfl q_rhM_0_19 dX11_relaxes_209 ?_
                    refine lv_iload hx hb dX11_relaxes_212 (lv_at hl 4 rfl) ?_
                    refine q_iald hx hb hK hP (Nat.le_of_ble_eq_true rfl) q_kdM_13 r1 dX11_relaxes_214 h ?_
                    clear h; intro x48 r48 h
                    refine q_imul hx hb dX11_relaxes_215 h ?_
                    clear h; intro x49 r49 h
                    refine lv_goto (tgt := 239) hx hb dX11_relaxes_216 (by decide) ?_
                    exact hj239 x49 _ _ _ r49 hP hS (lv_sub hl [0, 1, 2, 3, 4, 5, 6] rfl) h
                  · clear h; intro g50 h
                    refine lv_iload hx hb dX11_relaxes_219 (lv_at hl 6 rfl) ?_
                    refine lv_iconst (v := q_I 1) hx hb dX11_relaxes_221 rfl ?_
                    refine q_isub hx hb dX11_relaxes_222 h ?_
                    clear h; intro x45 r45 h
                    refine lv_aload_n hx hb dX11_relaxes_223 rfl (lv_at hl 0 rfl) ?_
                    refine q_getR hx hb hts hown hK hP fd_RX11_50 (Nat.le_of_ble_eq_true rfl) q_kdM_0 rfl q_rhM_0_20 dX11_relaxes_224 ?_
                    refine lv_iload hx hb dX11_relaxes_227 (lv_at hl 4 rfl) ?_
                    refine q_iald hx hb hK hP (Nat.le_of_ble_eq_true rfl) q_kdM_14 r1 dX11_relaxes_229 h ?_
                    clear h; intro x46 r46 h
                    refine q_cne hx hb r45 r46 (tgt := 238) dX11_relaxes_230 (by decide) h ?_ ?_
                    · clear h; intro g47 h
                      refine lv_iload hx hb dX11_relaxes_233 (lv_at hl 5 rfl) ?_
                      refine lv_goto (tgt := 239) hx hb dX11_relaxes_235 (by decide) ?_
                      exact hj239 x2 _ _ _ r2 hP hS (lv_sub hl [0, 1, 2, 3, 4, 5, 6] rfl) h
                    · clear h; intro g47 h
                      refine lv_iconst (v := q_I 0) hx hb dX11_relaxes_238 rfl ?_
                      exact hj239 0 _ _ _ (q_r 0 rfl) hP hS (lv_sub hl [0, 1, 2, 3, 4, 5, 6] rfl) h
          refine L171 _ ?_  _ 0 μ _ _ _ (q_r 0 rfl) hP hS (lv_sub hl [1, 2, 3, 4, 5, 6, 0] rfl) h
          · clear h hl hP hS; intro μ35 H locs ls  hP hS hl h
            refine lv_aload_n hx hb dX11_relaxes_247 rfl (lv_at hl 0 rfl) ?_
            refine q_getR hx hb hts hown hK hP fd_RX11_59 (Nat.le_of_ble_eq_true rfl) q_kdM_0 rfl q_rhM_0_25 dX11_relaxes_248 ?_
            refine lv_iload_n hx hb dX11_relaxes_251 rfl (lv_at hl 1 rfl) ?_
            refine lv_iconst (v := q_I 1) hx hb dX11_relaxes_252 rfl ?_
            refine q_zast hx hb hK hP hS hA (Nat.le_of_ble_eq_true rfl) q_kdM_17 ra1 (q_r 1 rfl) dX11_relaxes_253 h ?_
            clear h hP hS; intro μ52 H locs hP hS h
            refine lv_aload_n hx hb dX11_relaxes_254 rfl (lv_at hl 0 rfl) ?_
            refine q_getR hx hb hts hown hK hP fd_RX11_66 (Nat.le_of_ble_eq_true rfl) q_kdM_0 rfl q_rhM_0_27 dX11_relaxes_255 ?_
            refine lv_iload_n hx hb dX11_relaxes_258 rfl (lv_at hl 1 rfl) ?_
            refine lv_iload_n hx hb dX11_relaxes_259 rfl (lv_at hl 2 rfl) ?_
            refine q_iast hx hb hK hP hS hA (Nat.le_of_ble_eq_true rfl) q_kdM_19 ra1 ra2 dX11_relaxes_260 h ?_
            clear h hP hS; intro μ53 H locs hP hS h
            refine lv_iconst (v := q_I 1) hx hb dX11_relaxes_261 rfl ?_
            rw [← hQ]
            exact q_retz2 hx hb hr hlocks hP hS (Or.inr rfl) h dX11_relaxes_262
    · clear h; intro j33 hj33 h
      refine q_zne hx hb r3 (tgt := 32) dX11_relaxes_25 (by decide) h ?_ ?_
      · clear h; intro g55 h
        refine lv_iconst (v := q_I 1) hx hb dX11_relaxes_28 rfl ?_
        refine lv_goto (tgt := 33) hx hb dX11_relaxes_29 (by decide) ?_
        exact hj33 1 _ _ _ (q_r 1 rfl) hP hS (lv_sub hl [1, 2, 3, 4, 5, 0] rfl) h
      · clear h; intro g55 h
        refine lv_iconst (v := q_I 0) hx hb dX11_relaxes_32 rfl ?_
        exact hj33 0 _ _ _ (q_r 0 rfl) hP hS (lv_sub hl [1, 2, 3, 4, 5, 0] rfl) h
  · clear h; intro j17 hj17 h
    refine q_cge hx hb ra2 (q_r 100 rfl) (tgt := 16) dX11_relaxes_9 (by decide) h ?_ ?_
    · clear h; intro g56 h
      refine lv_iconst (v := q_I (-1)) hx hb dX11_relaxes_16 rfl ?_
      exact hj17 ((-1)) _ _ _ (q_r (-1) rfl) hP hS (lv_sub hl [1, 2, 3, 4, 0] rfl) h
    · clear h; intro g56 h
      refine lv_iconst (v := q_I 1) hx hb dX11_relaxes_12 rfl ?_
      refine lv_goto (tgt := 17) hx hb dX11_relaxes_13 (by decide) ?_
      exact hj17 1 _ _ _ (q_r 1 rfl) hP hS (lv_sub hl [1, 2, 3, 4, 0] rfl) h
set_option maxHeartbeats 4000000 in
set_option maxRecDepth 100000 in
theorem c_M_findWays (l : Launch) (D : va_G) (dA : Nat → ClassId) {z sz : Nat} {N : Nat} {μ : q_M} {μo : q_M} (h : f_M_findWays N μ = some μo) : Met l yX11_findWays (q_wc yX11_findWays cX11_findWays 3 none) ({ frames := 1, cells := 0, slots := 0, locals := 29 } : Room) (va_Pc [.ref (z + 0)] (q_B (q_P D dA q_kdM q_rhoM 22 z sz μ) D dA)) (q_Q none True (q_P D dA q_kdM q_rhoM 22 z sz μo) (q_A z 22)) 0 0 (q_A z 22) := by
  refine Met.ofW (cc := cX11_findWays) (maxL := 3) (ret := none) (by decide) rfl ?_
  intro p e s m args below meth c s₁ B hml hv
  obtain ⟨hargs, hP, hK⟩ := hv
  have hx := B.exec
  have hb := B.bytes
  have hr := B.returns
  have hts : ∀ w ∈ q_W, w.before args s = true := fun w hw => atoms_spec (ws := q_wc yX11_findWays cX11_findWays 3 none) B.pre w (List.mem_cons_of_mem _ hw)
  have hown : s.vm.findClass RX11 = some m.cls := findClass_of_methodNamed B.named
  have hlocks := B.notSynchronized
  have hS : va_S (q_A z 22) s.heap s.heap [] := va_S.rf
  have hA : ∀ k, k < 22 → q_A z 22 (z + k) := fun k hk => ⟨Nat.le_add_right z k, Nat.add_lt_add_left hk z⟩
  have hl := lv_entry [.ref (z + 0)] (n := 3) (Nat.le_of_ble_eq_true rfl)
  refine W.eq (by rw [hargs, lg_entry_eq]) ?_
  generalize (lg_sl [.ref (z + 0)] ++ List.replicate (3 - (lg_sl [.ref (z + 0)]).length) Slot.unset).toArray = ls at hl ⊢
  have hl : lv_has ls 3 [(0, .ref (z + 0))] := hl
  generalize hQ : MQ below _ args s 0 0 _ = Qf
  change W p l e ({ frames := 1, cells := 0, slots := 0, locals := 29 } : Room) s m args below meth c s.heap [] 0 0 Qf (F0 m 0 ls [])
  unfold f_M_findWays at h
  refine lv_iconst (v := q_I 0) hx hb dX11_findWays_0 rfl ?_
  refine lv_istore_n (lv' := [(1, .int (q_I 0)), (0, .ref (z + 0))]) hx hb dX11_findWays_1 rfl hl (by decide) rfl ?_
  clear hl; intro ls hl
  have L2 : ∀ (k41 : q_M → Option q_M), (∀ (μ3 : q_M) (H : Heap) (locs : List Loc) (ls : Array Slot), q_P D dA q_kdM q_rhoM 22 z sz μ3 H → va_S (q_A z 22) s.heap H locs → lv_has ls 3 [(0, .ref (z + 0))] → k41 μ3 = some μo → W p l e ({ frames := 1, cells := 0, slots := 0, locals := 29 } : Room) s m args below meth c H locs 0 0 Qf (F0 m 41 ls [])) → ∀ (nf2 : Nat) (x1 : Int) (μ2 : q_M) (H : Heap) (locs : List Loc) (ls : Array Slot), q_R x1 → q_P D dA q_kdM q_rhoM 22 z sz μ2 H → va_S (q_A z 22) s.heap H locs → lv_has ls 3 [(0, .ref (z + 0)), (1, .int (q_I x1))] → f_M_findWays_L2  k41 nf2 x1 μ2 = some μo → W p l e ({ frames := 1, cells := 0, slots := 0, locals := 29 } : Room) s m args below meth c H locs 0 0 Qf (F0 m 2 ls []) := by
    clear h hl hP hS
    intro k41 hk41 nf2
    induction nf2 with
    | zero =>
      intro x1 μ2 H locs ls r1 hP hS hl h
      rw [f_M_findWays_L2] at h
      cases h
    | succ nf2 ih2 =>
      intro x1 μ2 H locs ls r1 hP hS hl h
      rw [f_M_findWays_L2] at h
      refine lv_iload_n hx hb dX11_findWays_2 rfl (lv_at hl 1 rfl) ?_
      refine lv_bipush (v := q_I 7) hx hb dX11_findWays_3 (by decide) ?_
      refine q_cge hx hb r1 (q_r 7 rfl) (tgt := 41) dX11_findWays_5 (by decide) h ?_ ?_
      · clear h; intro g10 h
        exact hk41 μ2 _ _ _ hP hS (lv_sub hl [0] rfl) h
      · clear h; intro g10 h
        refine lv_aload_n hx hb dX11_findWays_8 rfl (lv_at hl 0 rfl) ?_
        refine q_getR hx hb hts hown hK hP fd_RX11_59 (Nat.le_of_ble_eq_true rfl) q_kdM_0 rfl q_rhM_0_25 dX11_findWays_9 ?_
        refine lv_iload_n hx hb dX11_findWays_12 rfl (lv_at hl 1 rfl) ?_
        refine lv_aload_n hx hb dX11_findWays_13 rfl (lv_at hl 0 rfl) ?_
        refine q_getR hx hb hts hown hK hP fd_RX11_56 (Nat.le_of_ble_eq_true rfl) q_kdM_0 rfl q_rhM_0_22 dX11_findWays_14 ?_
        refine lv_iload_n hx hb dX11_findWays_17 rfl (lv_at hl 1 rfl) ?_
        refine q_iald hx hb hK hP (Nat.le_of_ble_eq_true rfl) q_kdM_16 r1 dX11_findWays_18 h ?_
        clear h; intro x4 r4 h
        refine q_jn_in h (fun J => ∀ (x5 : Int) (H : Heap) (locs : List Loc) (ls : Array Slot), q_R x5 → q_P D dA q_kdM q_rhoM 22 z sz μ2 H → va_S (q_A z 22) s.heap H locs → lv_has ls 3 [(0, .ref (z + 0)), (1, .int (q_I x1))] → J x5 = some μo → W p l e ({ frames := 1, cells := 0, slots := 0, locals := 29 } : Room) s m args below meth c H locs 0 0 Qf (F0 m 27 ls [.int (q_I x5), .int (q_I x1), .ref (z + 17)])) ?_ ?_
        · clear h hl hP hS; intro x5 H locs ls r5 hP hS hl h
          refine q_zast hx hb hK hP hS hA (Nat.le_of_ble_eq_true rfl) q_kdM_17 r1 r5 dX11_findWays_27 h ?_
          clear h hP hS; intro μ6 H locs hP hS h
          refine lv_aload_n hx hb dX11_findWays_28 rfl (lv_at hl 0 rfl) ?_
          refine q_getR hx hb hts hown hK hP fd_RX11_66 (Nat.le_of_ble_eq_true rfl) q_kdM_0 rfl q_rhM_0_27 dX11_findWays_29 ?_
          refine lv_iload_n hx hb dX11_findWays_32 rfl (lv_at hl 1 rfl) ?_
          refine lv_iconst (v := q_I (-1)) hx hb dX11_findWays_33 rfl ?_
          refine q_iast hx hb hK hP hS hA (Nat.le_of_ble_eq_true rfl) q_kdM_19 r1 (q_r (-1) rfl) dX11_findWays_34 h ?_
          clear h hP hS; intro μ7 H locs hP hS h
          refine q_iinc (k := 1) (lv' := fun t => [(1, .int (q_I t)), (0, .ref (z + 0))]) hx hb dX11_findWays_35 hl rfl (by decide) (fun _ => rfl) h ?_
          clear h hl; intro x8 ls r8 hl h
          refine lv_goto (tgt := 2) hx hb dX11_findWays_38 (by decide) ?_
          exact ih2 x8 μ7 _ _ _ r8 hP hS (lv_sub hl [1, 0] rfl) h
        · clear h; intro j27 hj27 h
          refine q_zle hx hb r4 (tgt := 26) dX11_findWays_19 (by decide) h ?_ ?_
          · clear h; intro g9 h
            refine lv_iconst (v := q_I 0) hx hb dX11_findWays_26 rfl ?_
            exact hj27 0 _ _ _ (q_r 0 rfl) hP hS (lv_sub hl [0, 1] rfl) h
          · clear h; intro g9 h
            refine lv_iconst (v := q_I 1) hx hb dX11_findWays_22 rfl ?_
            refine lv_goto (tgt := 27) hx hb dX11_findWays_23 (by decide) ?_
            exact hj27 1 _ _ _ (q_r 1 rfl) hP hS (lv_sub hl [0, 1] rfl) h
  refine L2 _ ?_  _ 0 μ _ _ _ (q_r 0 rfl) hP hS (lv_sub hl [1, 0] rfl) h
  · clear h hl hP hS; intro μ3 H locs ls  hP hS hl h
    refine lv_iconst (v := q_I 0) hx hb dX11_findWays_41 rfl ?_
    refine lv_istore_n (lv' := [(1, .int (q_I 0)), (0, .ref (z + 0))]) hx hb dX11_findWays_42 rfl hl (by decide) rfl ?_
    clear hl; intro ls hl
    have L43 : ∀ (k63 : q_M → Option q_M), (∀ (μ13 : q_M) (H : Heap) (locs : List Loc) (ls : Array Slot), q_P D dA q_kdM q_rhoM 22 z sz μ13 H → va_S (q_A z 22) s.heap H locs → lv_has ls 3 [(0, .ref (z + 0))] → k63 μ13 = some μo → W p l e ({ frames := 1, cells := 0, slots := 0, locals := 29 } : Room) s m args below meth c H locs 0 0 Qf (F0 m 63 ls [])) → ∀ (nf43 : Nat) (x11 : Int) (μ12 : q_M) (H : Heap) (locs : List Loc) (ls : Array Slot), q_R x11 → q_P D dA q_kdM q_rhoM 22 z sz μ12 H → va_S (q_A z 22) s.heap H locs → lv_has ls 3 [(0, .ref (z + 0)), (1, .int (q_I x11))] → f_M_findWays_L43  k63 nf43 x11 μ12 = some μo → W p l e ({ frames := 1, cells := 0, slots := 0, locals := 29 } : Room) s m args below meth c H locs 0 0 Qf (F0 m 43 ls []) := by
      clear h hl hP hS
      intro k63 hk63 nf43
      induction nf43 with
      | zero =>
        intro x11 μ12 H locs ls r11 hP hS hl h
        rw [f_M_findWays_L43] at h
        cases h
      | succ nf43 ih43 =>
        intro x11 μ12 H locs ls r11 hP hS hl h
        rw [f_M_findWays_L43] at h
        refine lv_iload_n hx hb dX11_findWays_43 rfl (lv_at hl 1 rfl) ?_
        refine lv_sipush (v := q_I 217) hx hb dX11_findWays_44 (by decide) ?_
        refine q_cge hx hb r11 (q_r 217 rfl) (tgt := 63) dX11_findWays_47 (by decide) h ?_ ?_
        · clear h; intro g16 h
          exact hk63 μ12 _ _ _ hP hS (lv_sub hl [0] rfl) h
        · clear h; intro g16 h
          refine lv_aload_n hx hb dX11_findWays_50 rfl (lv_at hl 0 rfl) ?_
          refine q_getR hx hb hts hown hK hP fd_RX11_63 (Nat.le_of_ble_eq_true rfl) q_kdM_0 rfl q_rhM_0_26 dX11_findWays_51 ?_
          refine lv_iload_n hx hb dX11_findWays_54 rfl (lv_at hl 1 rfl) ?_
          refine lv_iconst (v := q_I 0) hx hb dX11_findWays_55 rfl ?_
          refine q_iast hx hb hK hP hS hA (Nat.le_of_ble_eq_true rfl) q_kdM_18 r11 (q_r 0 rfl) dX11_findWays_56 h ?_
          clear h hP hS; intro μ14 H locs hP hS h
          refine q_iinc (k := 1) (lv' := fun t => [(1, .int (q_I t)), (0, .ref (z + 0))]) hx hb dX11_findWays_57 hl rfl (by decide) (fun _ => rfl) h ?_
          clear h hl; intro x15 ls r15 hl h
          refine lv_goto (tgt := 43) hx hb dX11_findWays_60 (by decide) ?_
          exact ih43 x15 μ14 _ _ _ r15 hP hS (lv_sub hl [1, 0] rfl) h
    refine L43 _ ?_  _ 0 μ3 _ _ _ (q_r 0 rfl) hP hS (lv_sub hl [1, 0] rfl) h
    · clear h hl hP hS; intro μ13 H locs ls  hP hS hl h
      refine lv_iconst (v := q_I 1) hx hb dX11_findWays_63 rfl ?_
      refine lv_istore_n (lv' := [(1, .int (q_I 1)), (0, .ref (z + 0))]) hx hb dX11_findWays_64 rfl hl (by decide) rfl ?_
      clear hl; intro ls hl
      have L65 : ∀ (k200 : q_M → Option q_M), (∀ (μ19 : q_M) (H : Heap) (locs : List Loc) (ls : Array Slot), q_P D dA q_kdM q_rhoM 22 z sz μ19 H → va_S (q_A z 22) s.heap H locs → lv_has ls 3 [] → k200 μ19 = some μo → W p l e ({ frames := 1, cells := 0, slots := 0, locals := 29 } : Room) s m args below meth c H locs 0 0 Qf (F0 m 200 ls [])) → ∀ (nf65 : Nat) (x17 : Int) (μ18 : q_M) (H : Heap) (locs : List Loc) (ls : Array Slot), q_R x17 → q_P D dA q_kdM q_rhoM 22 z sz μ18 H → va_S (q_A z 22) s.heap H locs → lv_has ls 3 [(0, .ref (z + 0)), (1, .int (q_I x17))] → f_M_findWays_L65 N k200 nf65 x17 μ18 = some μo → W p l e ({ frames := 1, cells := 0, slots := 0, locals := 29 } : Room) s m args below meth c H locs 0 0 Qf (F0 m 65 ls []) := by
        clear h hl hP hS
        intro k200 hk200 nf65
        induction nf65 with
        | zero =>
          intro x17 μ18 H locs ls r17 hP hS hl h
          rw [f_M_findWays_L65] at h
          cases h
        | succ nf65 ih65 =>
          intro x17 μ18 H locs ls r17 hP hS hl h
          rw [f_M_findWays_L65] at h
          refine lv_iload_n hx hb dX11_findWays_65 rfl (lv_at hl 1 rfl) ?_
          refine q_zeq hx hb r17 (tgt := 200) dX11_findWays_66 (by decide) h ?_ ?_
          · clear h; intro g62 h
            exact hk200 μ18 _ _ _ hP hS (lv_sub hl [] rfl) h
          · clear h; intro g62 h
            refine lv_iconst (v := q_I 0) hx hb dX11_findWays_69 rfl ?_
            refine lv_istore_n (lv' := [(1, .int (q_I 0)), (0, .ref (z + 0))]) hx hb dX11_findWays_70 rfl hl (by decide) rfl ?_
            clear hl; intro ls hl
            refine lv_iconst (v := q_I 0) hx hb dX11_findWays_71 rfl ?_
            refine lv_istore_n (lv' := [(2, .int (q_I 0)), (1, .int (q_I 0)), (0, .ref (z + 0))]) hx hb dX11_findWays_72 rfl hl (by decide) rfl ?_
            clear hl; intro ls hl
            have L73 : ∀ (k197 : Int → q_M → Option q_M), (∀ (x23 : Int) (μ24 : q_M) (H : Heap) (locs : List Loc) (ls : Array Slot), q_R x23 → q_P D dA q_kdM q_rhoM 22 z sz μ24 H → va_S (q_A z 22) s.heap H locs → lv_has ls 3 [(0, .ref (z + 0)), (1, .int (q_I x23))] → k197 x23 μ24 = some μo → W p l e ({ frames := 1, cells := 0, slots := 0, locals := 29 } : Room) s m args below meth c H locs 0 0 Qf (F0 m 197 ls [])) → ∀ (nf73 : Nat) (x20 : Int) (x21 : Int) (μ22 : q_M) (H : Heap) (locs : List Loc) (ls : Array Slot), q_R x20 → q_R x21 → q_P D dA q_kdM q_rhoM 22 z sz μ22 H → va_S (q_A z 22) s.heap H locs → lv_has ls 3 [(0, .ref (z + 0)), (1, .int (q_I x20)), (2, .int (q_I x21))] → f_M_findWays_L73 N k197 nf73 x20 x21 μ22 = some μo → W p l e ({ frames := 1, cells := 0, slots := 0, locals := 29 } : Room) s m args below meth c H locs 0 0 Qf (F0 m 73 ls []) := by
              clear h hl hP hS
              intro k197 hk197 nf73
              induction nf73 with
              | zero =>
                intro x20 x21 μ22 H locs ls r20 r21 hP hS hl h
                rw [f_M_findWays_L73] at h
                cases h
              | succ nf73 ih73 =>
                intro x20 x21 μ22 H locs ls r20 r21 hP hS hl h
                rw [f_M_findWays_L73] at h
                refine lv_iload_n hx hb dX11_findWays_73 rfl (lv_at hl 2 rfl) ?_
                refine lv_aload_n hx hb dX11_findWays_74 rfl (lv_at hl 0 rfl) ?_
                refine q_getI hx hb hts hown hK hP fd_RX11_214 (Nat.le_of_ble_eq_true rfl) q_kdM_0 rfl dX11_findWays_75 h ?_
                clear h; intro x25 r25 h
                refine q_cge hx hb r21 r25 (tgt := 197) dX11_findWays_78 (by decide) h ?_ ?_
                · clear h; intro g61 h
                  exact hk197 x20 μ22 _ _ _ r20 hP hS (lv_sub hl [0, 1] rfl) h
                · clear h; intro g61 h
                  refine lv_aload_n hx hb dX11_findWays_81 rfl (lv_at hl 0 rfl) ?_
                  refine q_getR hx hb hts hown hK hP fd_RX11_59 (Nat.le_of_ble_eq_true rfl) q_kdM_0 rfl q_rhM_0_25 dX11_findWays_82 ?_
                  refine lv_aload_n hx hb dX11_findWays_85 rfl (lv_at hl 0 rfl) ?_
                  refine q_getR hx hb hts hown hK hP fd_RX11_35 (Nat.le_of_ble_eq_true rfl) q_kdM_0 rfl q_rhM_0_15 dX11_findWays_86 ?_
                  refine lv_iload_n hx hb dX11_findWays_89 rfl (lv_at hl 2 rfl) ?_
                  refine q_iald hx hb hK hP (Nat.le_of_ble_eq_true rfl) q_kdM_9 r21 dX11_findWays_90 h ?_
                  clear h; intro x26 r26 h
                  refine q_zald hx hb hK hP (Nat.le_of_ble_eq_true rfl) q_kdM_17 r26 dX11_findWays_91 h ?_
                  clear h; intro x27 r27 h
                  refine q_jn_in h (fun J => ∀ (x28 : Int) (μ29 : q_M) (H : Heap) (locs : List Loc) (ls : Array Slot), q_R x28 → q_P D dA q_kdM q_rhoM 22 z sz μ29 H → va_S (q_A z 22) s.heap H locs → lv_has ls 3 [(0, .ref (z + 0)), (1, .int (q_I x28)), (2, .int (q_I x21))] → J x28 μ29 = some μo → W p l e ({ frames := 1, cells := 0, slots := 0, locals := 29 } : Room) s m args below meth c H locs 0 0 Qf (F0 m 133 ls [])) ?_ ?_
                  · clear h hl hP hS; intro x28 μ29 H locs ls r28 hP hS hl h
                    refine lv_aload_n hx hb dX11_findWays_133 rfl (lv_at hl 0 rfl) ?_
                    refine q_getR hx hb hts hown hK hP fd_RX11_59 (Nat.le_of_ble_eq_true rfl) q_kdM_0 rfl q_rhM_0_25 dX11_findWays_134 ?_
                    refine lv_aload_n hx hb dX11_findWays_137 rfl (lv_at hl 0 rfl) ?_
                    refine q_getR hx hb hts hown hK hP fd_RX11_38 (Nat.le_of_ble_eq_true rfl) q_kdM_0 rfl q_rhM_0_16 dX11_findWays_138 ?_
                    refine lv_iload_n hx hb dX11_findWays_141 rfl (lv_at hl 2 rfl) ?_
                    refine q_iald hx hb hK hP (Nat.le_of_ble_eq_true rfl) q_kdM_10 r21 dX11_findWays_142 h ?_
                    clear h; intro x30 r30 h
                    refine q_zald hx hb hK hP (Nat.le_of_ble_eq_true rfl) q_kdM_17 r30 dX11_findWays_143 h ?_
                    clear h; intro x31 r31 h
                    refine q_jn_in h (fun J => ∀ (x32 : Int) (μ33 : q_M) (H : Heap) (locs : List Loc) (ls : Array Slot), q_R x32 → q_P D dA q_kdM q_rhoM 22 z sz μ33 H → va_S (q_A z 22) s.heap H locs → lv_has ls 3 [(0, .ref (z + 0)), (1, .int (q_I x32)), (2, .int (q_I x21))] → J x32 μ33 = some μo → W p l e ({ frames := 1, cells := 0, slots := 0, locals := 29 } : Room) s m args below meth c H locs 0 0 Qf (F0 m 191 ls [])) ?_ ?_
                    · clear h hl hP hS; intro x32 μ33 H locs ls r32 hP hS hl h
                      refine q_iinc (k := 2) (lv' := fun t => [(2, .int (q_I t)), (0, .ref (z + 0)), (1, .int (q_I x32))]) hx hb dX11_findWays_191 hl rfl (by decide) (fun _ => rfl) h ?_
                      clear h hl; intro x34 ls r34 hl h
                      refine lv_goto (tgt := 73) hx hb dX11_findWays_194 (by decide) ?_
                      exact ih73 x32 x34 μ33 _ _ _ r32 r34 hP hS (lv_sub hl [1, 2, 0] rfl) h
                    · clear h; intro j191 hj191 h
                      refine q_zeq hx hb r31 (tgt := 191) dX11_findWays_144 (by decide) h ?_ ?_
                      · clear h; intro g48 h
                        exact hj191 x28 μ29 _ _ _ r28 hP hS (lv_sub hl [0, 1, 2] rfl) h
                      · clear h; intro g48 h
                        refine lv_aload_n hx hb dX11_findWays_147 rfl (lv_at hl 0 rfl) ?_
                        refine lv_iload_n hx hb dX11_findWays_148 rfl (lv_at hl 2 rfl) ?_
                        refine lv_bipush (v := q_I 100) hx hb dX11_findWays_149 (by decide) ?_
                        refine q_iadd hx hb dX11_findWays_151 h ?_
                        clear h; intro x35 r35 h
                        obtain ⟨x37, hv36, h⟩ := q_b_some h
                        refine q_callV hx hb hml hts hown hK hP hS (As := [.int (q_I x35)]) (rest := []) (st1 := [.int (q_I x37)]) cv_RX11_232 (c_M_room l D dA r35 hv36) (Nat.le_of_ble_eq_true rfl) q_kdM_0 rfl ⟨rfl, rfl, Nat.le_of_ble_eq_true rfl, Nat.le_of_ble_eq_true rfl⟩ ⟨Nat.le_refl _, Nat.le_refl _⟩ rfl hl.1 rfl (Nat.le_of_ble_eq_true rfl) rfl (fun _ g => g) dX11_findWays_152 ?_
                        clear hP hS hv36; intro H locs r37 hP hS _
                        refine q_zle hx hb r37 (tgt := 191) dX11_findWays_155 (by decide) h ?_ ?_
                        · clear h; intro g47 h
                          exact hj191 x28 μ29 _ _ _ r28 hP hS (lv_sub hl [0, 1, 2] rfl) h
                        · clear h; intro g47 h
                          refine lv_aload_n hx hb dX11_findWays_158 rfl (lv_at hl 0 rfl) ?_
                          refine lv_aload_n hx hb dX11_findWays_159 rfl (lv_at hl 0 rfl) ?_
                          refine q_getR hx hb hts hown hK hP fd_RX11_38 (Nat.le_of_ble_eq_true rfl) q_kdM_0 rfl q_rhM_0_16 dX11_findWays_160 ?_
                          refine lv_iload_n hx hb dX11_findWays_163 rfl (lv_at hl 2 rfl) ?_
                          refine q_iald hx hb hK hP (Nat.le_of_ble_eq_true rfl) q_kdM_10 r21 dX11_findWays_164 h ?_
                          clear h; intro x38 r38 h
                          refine lv_aload_n hx hb dX11_findWays_165 rfl (lv_at hl 0 rfl) ?_
                          refine q_getR hx hb hts hown hK hP fd_RX11_35 (Nat.le_of_ble_eq_true rfl) q_kdM_0 rfl q_rhM_0_15 dX11_findWays_166 ?_
                          refine lv_iload_n hx hb dX11_findWays_169 rfl (lv_at hl 2 rfl) ?_
                          refine q_iald hx hb hK hP (Nat.le_of_ble_eq_true rfl) q_kdM_9 r21 dX11_findWays_170 h ?_
                          clear h; intro x39 r39 h
                          refine lv_iload_n hx hb dX11_findWays_171 rfl (lv_at hl 2 rfl) ?_
                          refine lv_bipush (v := q_I 100) hx hb dX11_findWays_172 (by decide) ?_
                          refine q_iadd hx hb dX11_findWays_174 h ?_
                          clear h; intro x40 r40 h
                          obtain ⟨x42, μ43, hv41, h⟩ := q_b2_some h
                          refine q_callV hx hb hml hts hown hK hP hS (As := [.int (q_I x38), .int (q_I x39), .int (q_I x40)]) (rest := []) (st1 := [.int (q_I x42)]) cv_RX11_236 (c_M_relaxes l D dA r38 r39 r40 hv41) (Nat.le_of_ble_eq_true rfl) q_kdM_0 rfl ⟨rfl, rfl, Nat.le_of_ble_eq_true rfl, Nat.le_of_ble_eq_true rfl⟩ ⟨Nat.le_refl _, Nat.le_refl _⟩ rfl hl.1 rfl (Nat.le_of_ble_eq_true rfl) rfl (fun _ g => g) dX11_findWays_175 ?_
                          clear hP hS hv41; intro H locs r42 hP hS _
                          refine q_jn_in h (fun J => ∀ (x44 : Int) (H : Heap) (locs : List Loc) (ls : Array Slot), q_R x44 → q_P D dA q_kdM q_rhoM 22 z sz μ43 H → va_S (q_A z 22) s.heap H locs → lv_has ls 3 [(0, .ref (z + 0)), (2, .int (q_I x21))] → J x44 = some μo → W p l e ({ frames := 1, cells := 0, slots := 0, locals := 29 } : Room) s m args below meth c H locs 0 0 Qf (F0 m 190 ls [.int (q_I x44)])) ?_ ?_
                          · clear h hl hP hS; intro x44 H locs ls r44 hP hS hl h
                            refine lv_istore_n (lv' := [(1, .int (q_I x44)), (0, .ref (z + 0)), (2, .int (q_I x21))]) hx hb dX11_findWays_190 rfl hl (by decide) rfl ?_
                            clear hl; intro ls hl
                            exact hj191 x44 μ43 _ _ _ r44 hP hS (lv_sub hl [1, 0, 2] rfl) h
                          · clear h; intro j190 hj190 h
                            refine q_jn_in h (fun J => ∀ (H : Heap) (locs : List Loc) (ls : Array Slot), q_P D dA q_kdM q_rhoM 22 z sz μ43 H → va_S (q_A z 22) s.heap H locs → lv_has ls 3 [(0, .ref (z + 0)), (2, .int (q_I x21))] → J = some μo → W p l e ({ frames := 1, cells := 0, slots := 0, locals := 29 } : Room) s m args below meth c H locs 0 0 Qf (F0 m 185 ls [])) ?_ ?_
                            · clear h hl hP hS; intro  H locs ls  hP hS hl h
                              refine lv_iconst (v := q_I 1) hx hb dX11_findWays_185 rfl ?_
                              refine lv_goto (tgt := 190) hx hb dX11_findWays_186 (by decide) ?_
                              exact hj190 1 _ _ _ (q_r 1 rfl) hP hS (lv_sub hl [0, 1] rfl) h
                            · clear h; intro j185 hj185 h
                              refine q_zne hx hb r42 (tgt := 185) dX11_findWays_178 (by decide) h ?_ ?_
                              · clear h; intro g46 h
                                refine lv_iload_n hx hb dX11_findWays_181 rfl (lv_at hl 1 rfl) ?_
                                refine q_zeq hx hb r28 (tgt := 189) dX11_findWays_182 (by decide) h ?_ ?_
                                · clear h; intro g45 h
                                  refine lv_iconst (v := q_I 0) hx hb dX11_findWays_189 rfl ?_
                                  exact hj190 0 _ _ _ (q_r 0 rfl) hP hS (lv_sub hl [0, 2] rfl) h
                                · clear h; intro g45 h
                                  exact hj185  _ _ _ hP hS (lv_sub hl [0, 2] rfl) h
                              · clear h; intro g46 h
                                exact hj185  _ _ _ hP hS (lv_sub hl [0, 2] rfl) h
                  · clear h; intro j133 hj133 h
                    refine q_zeq hx hb r27 (tgt := 133) dX11_findWays_92 (by decide) h ?_ ?_
                    · clear h; intro g60 h
                      exact hj133 x20 μ22 _ _ _ r20 hP hS (lv_sub hl [0, 1, 2] rfl) h
                    · clear h; intro g60 h
                      refine lv_aload_n hx hb dX11_findWays_95 rfl (lv_at hl 0 rfl) ?_
                      refine lv_iload_n hx hb dX11_findWays_96 rfl (lv_at hl 2 rfl) ?_
                      obtain ⟨x50, hv49, h⟩ := q_b_some h
                      refine q_callV hx hb hml hts hown hK hP hS (As := [.int (q_I x21)]) (rest := []) (st1 := [.int (q_I x50)]) cv_RX11_232 (c_M_room l D dA r21 hv49) (Nat.le_of_ble_eq_true rfl) q_kdM_0 rfl ⟨rfl, rfl, Nat.le_of_ble_eq_true rfl, Nat.le_of_ble_eq_true rfl⟩ ⟨Nat.le_refl _, Nat.le_refl _⟩ rfl hl.1 rfl (Nat.le_of_ble_eq_true rfl) rfl (fun _ g => g) dX11_findWays_97 ?_
                      clear hP hS hv49; intro H locs r50 hP hS _
                      refine q_zle hx hb r50 (tgt := 133) dX11_findWays_100 (by decide) h ?_ ?_
                      · clear h; intro g59 h
                        exact hj133 x20 μ22 _ _ _ r20 hP hS (lv_sub hl [0, 1, 2] rfl) h
                      · clear h; intro g59 h
                        refine lv_aload_n hx hb dX11_findWays_103 rfl (lv_at hl 0 rfl) ?_
                        refine lv_aload_n hx hb dX11_findWays_104 rfl (lv_at hl 0 rfl) ?_
                        refine q_getR hx hb hts hown hK hP fd_RX11_35 (Nat.le_of_ble_eq_true rfl) q_kdM_0 rfl q_rhM_0_15 dX11_findWays_105 ?_
                        refine lv_iload_n hx hb dX11_findWays_108 rfl (lv_at hl 2 rfl) ?_
                        refine q_iald hx hb hK hP (Nat.le_of_ble_eq_true rfl) q_kdM_9 r21 dX11_findWays_109 h ?_
                        clear h; intro x51 r51 h
                        refine lv_aload_n hx hb dX11_findWays_110 rfl (lv_at hl 0 rfl) ?_
                        refine q_getR hx hb hts hown hK hP fd_RX11_38 (Nat.le_of_ble_eq_true rfl) q_kdM_0 rfl q_rhM_0_16 dX11_findWays_111 ?_
                        refine lv_iload_n hx hb dX11_findWays_114 rfl (lv_at hl 2 rfl) ?_
                        refine q_iald hx hb hK hP (Nat.le_of_ble_eq_true rfl) q_kdM_10 r21 dX11_findWays_115 h ?_
                        clear h; intro x52 r52 h
                        refine lv_iload_n hx hb dX11_findWays_116 rfl (lv_at hl 2 rfl) ?_
                        obtain ⟨x54, μ55, hv53, h⟩ := q_b2_some h
                        refine q_callV hx hb hml hts hown hK hP hS (As := [.int (q_I x51), .int (q_I x52), .int (q_I x21)]) (rest := []) (st1 := [.int (q_I x54)]) cv_RX11_236 (c_M_relaxes l D dA r51 r52 r21 hv53) (Nat.le_of_ble_eq_true rfl) q_kdM_0 rfl ⟨rfl, rfl, Nat.le_of_ble_eq_true rfl, Nat.le_of_ble_eq_true rfl⟩ ⟨Nat.le_refl _, Nat.le_refl _⟩ rfl hl.1 rfl (Nat.le_of_ble_eq_true rfl) rfl (fun _ g => g) dX11_findWays_117 ?_
                        clear hP hS hv53; intro H locs r54 hP hS _
                        refine q_jn_in h (fun J => ∀ (x56 : Int) (H : Heap) (locs : List Loc) (ls : Array Slot), q_R x56 → q_P D dA q_kdM q_rhoM 22 z sz μ55 H → va_S (q_A z 22) s.heap H locs → lv_has ls 3 [(0, .ref (z + 0)), (2, .int (q_I x21))] → J x56 = some μo → W p l e ({ frames := 1, cells := 0, slots := 0, locals := 29 } : Room) s m args below meth c H locs 0 0 Qf (F0 m 132 ls [.int (q_I x56)])) ?_ ?_
                        · clear h hl hP hS; intro x56 H locs ls r56 hP hS hl h
                          refine lv_istore_n (lv' := [(1, .int (q_I x56)), (0, .ref (z + 0)), (2, .int (q_I x21))]) hx hb dX11_findWays_132 rfl hl (by decide) rfl ?_
                          clear hl; intro ls hl
                          exact hj133 x56 μ55 _ _ _ r56 hP hS (lv_sub hl [1, 0, 2] rfl) h
                        · clear h; intro j132 hj132 h
                          refine q_jn_in h (fun J => ∀ (H : Heap) (locs : List Loc) (ls : Array Slot), q_P D dA q_kdM q_rhoM 22 z sz μ55 H → va_S (q_A z 22) s.heap H locs → lv_has ls 3 [(0, .ref (z + 0)), (2, .int (q_I x21))] → J = some μo → W p l e ({ frames := 1, cells := 0, slots := 0, locals := 29 } : Room) s m args below meth c H locs 0 0 Qf (F0 m 127 ls [])) ?_ ?_
                          · clear h hl hP hS; intro  H locs ls  hP hS hl h
                            refine lv_iconst (v := q_I 1) hx hb dX11_findWays_127 rfl ?_
                            refine lv_goto (tgt := 132) hx hb dX11_findWays_128 (by decide) ?_
                            exact hj132 1 _ _ _ (q_r 1 rfl) hP hS (lv_sub hl [0, 1] rfl) h
                          · clear h; intro j127 hj127 h
                            refine q_zne hx hb r54 (tgt := 127) dX11_findWays_120 (by decide) h ?_ ?_
                            · clear h; intro g58 h
                              refine lv_iload_n hx hb dX11_findWays_123 rfl (lv_at hl 1 rfl) ?_
                              refine q_zeq hx hb r20 (tgt := 131) dX11_findWays_124 (by decide) h ?_ ?_
                              · clear h; intro g57 h
                                refine lv_iconst (v := q_I 0) hx hb dX11_findWays_131 rfl ?_
                                exact hj132 0 _ _ _ (q_r 0 rfl) hP hS (lv_sub hl [0, 2] rfl) h
                              · clear h; intro g57 h
                                exact hj127  _ _ _ hP hS (lv_sub hl [0, 2] rfl) h
                            · clear h; intro g58 h
                              exact hj127  _ _ _ hP hS (lv_sub hl [0, 2] rfl) h
            refine L73 _ ?_  _ 0 0 μ18 _ _ _ (q_r 0 rfl) (q_r 0 rfl) hP hS (lv_sub hl [2, 1, 0] rfl) h
            · clear h hl hP hS; intro x23 μ24 H locs ls r23 hP hS hl h
              refine lv_goto (tgt := 65) hx hb dX11_findWays_197 (by decide) ?_
              exact ih65 x23 μ24 _ _ _ r23 hP hS (lv_sub hl [0, 1] rfl) h
      refine L65 _ ?_  _ 1 μ13 _ _ _ (q_r 1 rfl) hP hS (lv_sub hl [1, 0] rfl) h
      · clear h hl hP hS; intro μ19 H locs ls  hP hS hl h
        rw [← hQ]
        exact q_retv hx hb hr hlocks hP hS h dX11_findWays_200
