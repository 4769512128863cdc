set_option maxHeartbeats 4000000 in
set_option maxRecDepth 100000 in
theorem c_Hi_forget (l : Launch) (D : va_G) (dA : Nat → ClassId) {z sz : Nat} {o : Nat} (ho : o = 5 ∨ o = 28) {μ : q_M} {μo : q_M} (h : f_Hi_forget o μ = some μo) : Met l yX3_forget (q_wc yX3_forget cX3_forget 1 none) ({ frames := 1, cells := 0, slots := 0, locals := 24 } : Room) (va_Pc [.ref (z + o)] (q_B (q_P D dA q_kdC q_rhoC 77 z sz μ) D dA)) (q_Q none True (q_P D dA q_kdC q_rhoC 77 z sz μo) (q_A z 77)) 0 0 (q_A z 77) := by
  refine Met.ofW (cc := cX3_forget) (maxL := 1) (ret := none) (by decide) rfl ?_
  intro p e s m args below meth c s₁ B hml hv
  obtain ⟨hargs, hP, hK⟩ := hv
  have hx := B.exec
  have hb := B.bytes
  have hr := B.returns
  have hts : ∀ w ∈ q_W, w.before args s = true := fun w hw => atoms_spec (ws := q_wc yX3_forget cX3_forget 1 none) B.pre w (List.mem_cons_of_mem _ hw)
  have hown : s.vm.findClass RX3 = some m.cls := findClass_of_methodNamed B.named
  have hlocks := B.notSynchronized
  have hS : va_S (q_A z 77) s.heap s.heap [] := va_S.rf
  have hA : ∀ k, k < 77 → q_A z 77 (z + k) := fun k hk => ⟨Nat.le_add_right z k, Nat.add_lt_add_left hk z⟩
  have hl := lv_entry [.ref (z + o)] (n := 1) (Nat.le_of_ble_eq_true rfl)
  refine W.eq (by rw [hargs, lg_entry_eq]) ?_
  generalize (lg_sl [.ref (z + o)] ++ List.replicate (1 - (lg_sl [.ref (z + o)]).length) Slot.unset).toArray = ls at hl ⊢
  have hl : lv_has ls 1 [(0, .ref (z + o))] := hl
  generalize hQ : MQ below _ args s 0 0 _ = Qf
  change W p l e ({ frames := 1, cells := 0, slots := 0, locals := 24 } : Room) s m args below meth c s.heap [] 0 0 Qf (F0 m 0 ls [])
  unfold f_Hi_forget at h
  refine lv_aload_n hx hb dX3_forget_0 rfl (lv_at hl 0 rfl) ?_
  refine lv_iconst (v := q_I 0) hx hb dX3_forget_1 rfl ?_
  refine q_putI hx hb hts hown hK hP hS hA fd_RX3_39 (q_ltH0 ho) (q_kdH_0 ho) rfl (q_r 0 rfl) dX3_forget_2 h ?_
  clear h hP hS; intro μ1 H locs hP hS h
  refine lv_aload_n hx hb dX3_forget_5 rfl (lv_at hl 0 rfl) ?_
  refine q_getR hx hb hts hown hK hP fd_RX3_36 (q_ltH0 ho) (q_kdH_0 ho) rfl (q_rhH_0_9 ho) dX3_forget_6 ?_
  refine lv_iconst (v := q_I 0) hx hb dX3_forget_9 rfl ?_
  refine q_callS hx hb hml hts hown hK hP hS (As := [.ref (z + (o + 9)), .int (q_I 0)]) (rest := []) (st1 := []) cs_RX3_43 (c_fillI l D dA (q_ltH ho rfl) (q_kdH_9 ho) (q_r 0 rfl) (Nat.le_of_ble_eq_true rfl) hA) ⟨rfl, rfl, Nat.le_of_ble_eq_true rfl, Nat.le_of_ble_eq_true rfl⟩ ⟨Nat.le_refl _, Nat.le_refl _⟩ rfl hl.1 rfl (Nat.le_of_ble_eq_true rfl) rfl (fun _ g => g) dX3_forget_10 ?_
  clear hP hS; intro H locs _ hP hS _
  replace h := q_fi_in h; generalize q_fill μ1 (o + 9) 5 0 = μ2 at hP h
  rw [← hQ]
  exact q_retv hx hb hr hlocks hP hS h dX3_forget_13
set_option maxHeartbeats 4000000 in
set_option maxRecDepth 100000 in
theorem c_Ch_dropMarkers (l : Launch) (D : va_G) (dA : Nat → ClassId) {z sz : Nat} {o : Nat} (ho : o = 15 ∨ o = 38) {μ : q_M} {μo : q_M} (h : f_Ch_dropMarkers o μ = some μo) : Met l yX0_dropMarkers (q_wc yX0_dropMarkers cX0_dropMarkers 1 none) ({ frames := 1, cells := 0, slots := 0, locals := 24 } : Room) (va_Pc [.ref (z + o)] (q_B (q_P D dA q_kdC q_rhoC 77 z sz μ) D dA)) (q_Q none True (q_P D dA q_kdC q_rhoC 77 z sz μo) (q_A z 77)) 0 0 (q_A z 77) := by
  refine Met.ofW (cc := cX0_dropMarkers) (maxL := 1) (ret := none) (by decide) rfl ?_
  intro p e s m args below meth c s₁ B hml hv
  obtain ⟨hargs, hP, hK⟩ := hv
  have hx := B.exec
  have hb := B.bytes
  have hr := B.returns
  have hts : ∀ w ∈ q_W, w.before args s = true := fun w hw => atoms_spec (ws := q_wc yX0_dropMarkers cX0_dropMarkers 1 none) B.pre w (List.mem_cons_of_mem _ hw)
  have hown : s.vm.findClass RX0 = some m.cls := findClass_of_methodNamed B.named
  have hlocks := B.notSynchronized
  have hS : va_S (q_A z 77) s.heap s.heap [] := va_S.rf
  have hA : ∀ k, k < 77 → q_A z 77 (z + k) := fun k hk => ⟨Nat.le_add_right z k, Nat.add_lt_add_left hk z⟩
  have hl := lv_entry [.ref (z + o)] (n := 1) (Nat.le_of_ble_eq_true rfl)
  refine W.eq (by rw [hargs, lg_entry_eq]) ?_
  generalize (lg_sl [.ref (z + o)] ++ List.replicate (1 - (lg_sl [.ref (z + o)]).length) Slot.unset).toArray = ls at hl ⊢
  have hl : lv_has ls 1 [(0, .ref (z + o))] := hl
  generalize hQ : MQ below _ args s 0 0 _ = Qf
  change W p l e ({ frames := 1, cells := 0, slots := 0, locals := 24 } : Room) s m args below meth c s.heap [] 0 0 Qf (F0 m 0 ls [])
  unfold f_Ch_dropMarkers at h
  refine lv_aload_n hx hb dX0_dropMarkers_0 rfl (lv_at hl 0 rfl) ?_
  refine q_getR hx hb hts hown hK hP fd_RX0_27 (q_ltK0 ho) (q_kdK_0 ho) rfl (q_rhK_0_6 ho) dX0_dropMarkers_1 ?_
  refine lv_iconst (v := q_I (-1)) hx hb dX0_dropMarkers_4 rfl ?_
  refine q_callS hx hb hml hts hown hK hP hS (As := [.ref (z + (o + 6)), .int (q_I ((-1)))]) (rest := []) (st1 := []) cs_RX0_41 (c_fillI l D dA (q_ltK ho rfl) (q_kdK_6 ho) (q_r (-1) rfl) (Nat.le_of_ble_eq_true rfl) hA) ⟨rfl, rfl, Nat.le_of_ble_eq_true rfl, Nat.le_of_ble_eq_true rfl⟩ ⟨Nat.le_refl _, Nat.le_refl _⟩ rfl hl.1 rfl (Nat.le_of_ble_eq_true rfl) rfl (fun _ g => g) dX0_dropMarkers_5 ?_
  clear hP hS; intro H locs _ hP hS _
  replace h := q_fi_in h; generalize q_fill μ (o + 6) 25 ((-1)) = μ1 at hP h
  rw [← hQ]
  exact q_retv hx hb hr hlocks hP hS h dX0_dropMarkers_8
set_option maxHeartbeats 4000000 in
set_option maxRecDepth 100000 in
theorem c_Ch_clearAll (l : Launch) (D : va_G) (dA : Nat → ClassId) {z sz : Nat} {o : Nat} (ho : o = 15 ∨ o = 38) {μ : q_M} {μo : q_M} (h : f_Ch_clearAll o μ = some μo) : Met l yX0_clearAll (q_wc yX0_clearAll cX0_clearAll 1 none) ({ frames := 2, cells := 0, slots := 0, locals := 44 } : Room) (va_Pc [.ref (z + o)] (q_B (q_P D dA q_kdC q_rhoC 77 z sz μ) D dA)) (q_Q none True (q_P D dA q_kdC q_rhoC 77 z sz μo) (q_A z 77)) 0 0 (q_A z 77) := by
  refine Met.ofW (cc := cX0_clearAll) (maxL := 1) (ret := none) (by decide) rfl ?_
  intro p e s m args below meth c s₁ B hml hv
  obtain ⟨hargs, hP, hK⟩ := hv
  have hx := B.exec
  have hb := B.bytes
  have hr := B.returns
  have hts : ∀ w ∈ q_W, w.before args s = true := fun w hw => atoms_spec (ws := q_wc yX0_clearAll cX0_clearAll 1 none) B.pre w (List.mem_cons_of_mem _ hw)
  have hown : s.vm.findClass RX0 = some m.cls := findClass_of_methodNamed B.named
  have hlocks := B.notSynchronized
  have hS : va_S (q_A z 77) s.heap s.heap [] := va_S.rf
  have hA : ∀ k, k < 77 → q_A z 77 (z + k) := fun k hk => ⟨Nat.le_add_right z k, Nat.add_lt_add_left hk z⟩
  have hl := lv_entry [.ref (z + o)] (n := 1) (Nat.le_of_ble_eq_true rfl)
  refine W.eq (by rw [hargs, lg_entry_eq]) ?_
  generalize (lg_sl [.ref (z + o)] ++ List.replicate (1 - (lg_sl [.ref (z + o)]).length) Slot.unset).toArray = ls at hl ⊢
  have hl : lv_has ls 1 [(0, .ref (z + o))] := hl
  generalize hQ : MQ below _ args s 0 0 _ = Qf
  change W p l e ({ frames := 2, cells := 0, slots := 0, locals := 44 } : Room) s m args below meth c s.heap [] 0 0 Qf (F0 m 0 ls [])
  unfold f_Ch_clearAll at h
  refine lv_aload_n hx hb dX0_clearAll_0 rfl (lv_at hl 0 rfl) ?_
  refine lv_iconst (v := q_I 0) hx hb dX0_clearAll_1 rfl ?_
  refine q_putI hx hb hts hown hK hP hS hA fd_RX0_30 (q_ltK0 ho) (q_kdK_0 ho) rfl (q_r 0 rfl) dX0_clearAll_2 h ?_
  clear h hP hS; intro μ1 H locs hP hS h
  refine lv_aload_n hx hb dX0_clearAll_5 rfl (lv_at hl 0 rfl) ?_
  obtain ⟨μ3, hv2, h⟩ := q_b_some h
  refine q_callV hx hb hml hts hown hK hP hS (As := []) (rest := []) (st1 := []) cv_RX0_34 (c_Ch_dropMarkers l D dA ho hv2) (q_ltK0 ho) (q_kdK_0 ho) rfl ⟨rfl, rfl, Nat.le_of_ble_eq_true rfl, Nat.le_of_ble_eq_true rfl⟩ ⟨Nat.le_refl _, Nat.le_refl _⟩ rfl hl.1 rfl (Nat.le_of_ble_eq_true rfl) rfl (fun _ g => g) dX0_clearAll_6 ?_
  clear hP hS hv2; intro H locs _ hP hS _
  rw [← hQ]
  exact q_retv hx hb hr hlocks hP hS h dX0_clearAll_9
set_option maxHeartbeats 4000000 in
set_option maxRecDepth 100000 in
theorem c_Sn_forget (l : Launch) (D : va_G) (dA : Nat → ClassId) {z sz : Nat} {o : Nat} (ho : o = 22 ∨ o = 45) {μ : q_M} {μo : q_M} (h : f_Sn_forget o μ = some μo) : Met l yX7_forget (q_wc yX7_forget cX7_forget 1 none) ({ frames := 1, cells := 0, slots := 0, locals := 24 } : Room) (va_Pc [.ref (z + o)] (q_B (q_P D dA q_kdC q_rhoC 77 z sz μ) D dA)) (q_Q none True (q_P D dA q_kdC q_rhoC 77 z sz μo) (q_A z 77)) 0 0 (q_A z 77) := by
  refine Met.ofW (cc := cX7_forget) (maxL := 1) (ret := none) (by decide) rfl ?_
  intro p e s m args below meth c s₁ B hml hv
  obtain ⟨hargs, hP, hK⟩ := hv
  have hx := B.exec
  have hb := B.bytes
  have hr := B.returns
  have hts : ∀ w ∈ q_W, w.before args s = true := fun w hw => atoms_spec (ws := q_wc yX7_forget cX7_forget 1 none) B.pre w (List.mem_cons_of_mem _ hw)
  have hown : s.vm.findClass RX7 = some m.cls := findClass_of_methodNamed B.named
  have hlocks := B.notSynchronized
  have hS : va_S (q_A z 77) s.heap s.heap [] := va_S.rf
  have hA : ∀ k, k < 77 → q_A z 77 (z + k) := fun k hk => ⟨Nat.le_add_right z k, Nat.add_lt_add_left hk z⟩
  have hl := lv_entry [.ref (z + o)] (n := 1) (Nat.le_of_ble_eq_true rfl)
  refine W.eq (by rw [hargs, lg_entry_eq]) ?_
  generalize (lg_sl [.ref (z + o)] ++ List.replicate (1 - (lg_sl [.ref (z + o)]).length) Slot.unset).toArray = ls at hl ⊢
  have hl : lv_has ls 1 [(0, .ref (z + o))] := hl
  generalize hQ : MQ below _ args s 0 0 _ = Qf
  change W p l e ({ frames := 1, cells := 0, slots := 0, locals := 24 } : Room) s m args below meth c s.heap [] 0 0 Qf (F0 m 0 ls [])
  unfold f_Sn_forget at h
  refine lv_aload_n hx hb dX7_forget_0 rfl (lv_at hl 0 rfl) ?_
  refine lv_iconst (v := q_I 0) hx hb dX7_forget_1 rfl ?_
  refine q_putI hx hb hts hown hK hP hS hA fd_RX7_15 (q_ltS0 ho) (q_kdS_0 ho) rfl (q_r 0 rfl) dX7_forget_2 h ?_
  clear h hP hS; intro μ1 H locs hP hS h
  refine lv_aload_n hx hb dX7_forget_5 rfl (lv_at hl 0 rfl) ?_
  refine q_getR hx hb hts hown hK hP fd_RX7_9 (q_ltS0 ho) (q_kdS_0 ho) rfl (q_rhS_0_1 ho) dX7_forget_6 ?_
  refine lv_iconst (v := q_I (-1)) hx hb dX7_forget_9 rfl ?_
  refine q_callS hx hb hml hts hown hK hP hS (As := [.ref (z + (o + 1)), .int (q_I ((-1)))]) (rest := []) (st1 := []) cs_RX7_19 (c_fillI l D dA (q_ltS ho rfl) (q_kdS_1 ho) (q_r (-1) rfl) (Nat.le_of_ble_eq_true rfl) hA) ⟨rfl, rfl, Nat.le_of_ble_eq_true rfl, Nat.le_of_ble_eq_true rfl⟩ ⟨Nat.le_refl _, Nat.le_refl _⟩ rfl hl.1 rfl (Nat.le_of_ble_eq_true rfl) rfl (fun _ g => g) dX7_forget_10 ?_
  clear hP hS; intro H locs _ hP hS _
  replace h := q_fi_in h; generalize q_fill μ1 (o + 1) 5 ((-1)) = μ2 at hP h
  rw [← hQ]
  exact q_retv hx hb hr hlocks hP hS h dX7_forget_13
set_option maxHeartbeats 4000000 in
set_option maxRecDepth 100000 in
theorem c_Wo_begin (l : Launch) (D : va_G) (dA : Nat → ClassId) {z sz : Nat} {o : Nat} (ho : o = 1 ∨ o = 24) {a0 : Int} (ra0 : q_R a0) {μ : q_M} {μo : q_M} (h : f_Wo_begin o a0 μ = some μo) : Met l yX9_begin (q_wc yX9_begin cX9_begin 2 none) ({ frames := 3, cells := 0, slots := 0, locals := 64 } : Room) (va_Pc [.ref (z + o), .int (q_I a0)] (q_B (q_P D dA q_kdC q_rhoC 77 z sz μ) D dA)) (q_Q none True (q_P D dA q_kdC q_rhoC 77 z sz μo) (q_A z 77)) 0 0 (q_A z 77) := by
  refine Met.ofW (cc := cX9_begin) (maxL := 2) (ret := none) (by decide) rfl ?_
  intro p e s m args below meth c s₁ B hml hv
  obtain ⟨hargs, hP, hK⟩ := hv
  have hx := B.exec
  have hb := B.bytes
  have hr := B.returns
  have hts : ∀ w ∈ q_W, w.before args s = true := fun w hw => atoms_spec (ws := q_wc yX9_begin cX9_begin 2 none) B.pre w (List.mem_cons_of_mem _ hw)
  have hown : s.vm.findClass RX9 = some m.cls := findClass_of_methodNamed B.named
  have hlocks := B.notSynchronized
  have hS : va_S (q_A z 77) s.heap s.heap [] := va_S.rf
  have hA : ∀ k, k < 77 → q_A z 77 (z + k) := fun k hk => ⟨Nat.le_add_right z k, Nat.add_lt_add_left hk z⟩
  have hl := lv_entry [.ref (z + o), .int (q_I a0)] (n := 2) (Nat.le_of_ble_eq_true rfl)
  refine W.eq (by rw [hargs, lg_entry_eq]) ?_
  generalize (lg_sl [.ref (z + o), .int (q_I a0)] ++ List.replicate (2 - (lg_sl [.ref (z + o), .int (q_I a0)]).length) Slot.unset).toArray = ls at hl ⊢
  have hl : lv_has ls 2 [(0, .ref (z + o)), (1, .int (q_I a0))] := hl
  generalize hQ : MQ below _ args s 0 0 _ = Qf
  change W p l e ({ frames := 3, cells := 0, slots := 0, locals := 64 } : Room) s m args below meth c s.heap [] 0 0 Qf (F0 m 0 ls [])
  unfold f_Wo_begin at h
  refine lv_aload_n hx hb dX9_begin_0 rfl (lv_at hl 0 rfl) ?_
  refine lv_iload_n hx hb dX9_begin_1 rfl (lv_at hl 1 rfl) ?_
  refine q_putI hx hb hts hown hK hP hS hA fd_RX9_42 (q_ltW0 ho) (q_kdW_0 ho) rfl ra0 dX9_begin_2 h ?_
  clear h hP hS; intro μ1 H locs hP hS h
  refine lv_aload_n hx hb dX9_begin_5 rfl (lv_at hl 0 rfl) ?_
  refine q_getR hx hb hts hown hK hP fd_RX9_9 (q_ltW0 ho) (q_kdW_0 ho) rfl (q_rhW_0_1 ho) dX9_begin_6 ?_
  refine lv_iconst (v := q_I 0) hx hb dX9_begin_9 rfl ?_
  refine q_callS hx hb hml hts hown hK hP hS (As := [.ref (z + (o + 1)), .int (q_I 0)]) (rest := []) (st1 := []) cs_RX9_46 (c_fillI l D dA (q_ltW ho rfl) (q_kdW_1 ho) (q_r 0 rfl) (Nat.le_of_ble_eq_true rfl) hA) ⟨rfl, rfl, Nat.le_of_ble_eq_true rfl, Nat.le_of_ble_eq_true rfl⟩ ⟨Nat.le_refl _, Nat.le_refl _⟩ rfl hl.1 rfl (Nat.le_of_ble_eq_true rfl) rfl (fun _ g => g) dX9_begin_10 ?_
  clear hP hS; intro H locs _ hP hS _
  replace h := q_fi_in h; generalize q_fill μ1 (o + 1) 10 0 = μ2 at hP h
  refine lv_aload_n hx hb dX9_begin_13 rfl (lv_at hl 0 rfl) ?_
  refine q_getR hx hb hts hown hK hP fd_RX9_15 (q_ltW0 ho) (q_kdW_0 ho) rfl (q_rhW_0_2 ho) dX9_begin_14 ?_
  refine lv_iconst (v := q_I 0) hx hb dX9_begin_17 rfl ?_
  refine q_callS hx hb hml hts hown hK hP hS (As := [.ref (z + (o + 2)), .int (q_I 0)]) (rest := []) (st1 := []) cs_RX9_46 (c_fillI l D dA (q_ltW ho rfl) (q_kdW_2 ho) (q_r 0 rfl) (Nat.le_of_ble_eq_true rfl) hA) ⟨rfl, rfl, Nat.le_of_ble_eq_true rfl, Nat.le_of_ble_eq_true rfl⟩ ⟨Nat.le_refl _, Nat.le_refl _⟩ rfl hl.1 rfl (Nat.le_of_ble_eq_true rfl) rfl (fun _ g => g) dX9_begin_18 ?_
  clear hP hS; intro H locs _ hP hS _
  replace h := q_fi_in h; generalize q_fill μ2 (o + 2) 10 0 = μ3 at hP h
  refine lv_aload_n hx hb dX9_begin_21 rfl (lv_at hl 0 rfl) ?_
  refine q_getR hx hb hts hown hK hP fd_RX9_18 (q_ltW0 ho) (q_kdW_0 ho) rfl (q_rhW_0_3 ho) dX9_begin_22 ?_
  refine lv_iconst (v := q_I 0) hx hb dX9_begin_25 rfl ?_
  refine q_callS hx hb hml hts hown hK hP hS (As := [.ref (z + (o + 3)), .int (q_I 0)]) (rest := []) (st1 := []) cs_RX9_46 (c_fillI l D dA (q_ltW ho rfl) (q_kdW_3 ho) (q_r 0 rfl) (Nat.le_of_ble_eq_true rfl) hA) ⟨rfl, rfl, Nat.le_of_ble_eq_true rfl, Nat.le_of_ble_eq_true rfl⟩ ⟨Nat.le_refl _, Nat.le_refl _⟩ rfl hl.1 rfl (Nat.le_of_ble_eq_true rfl) rfl (fun _ g => g) dX9_begin_26 ?_
  clear hP hS; intro H locs _ hP hS _
  replace h := q_fi_in h; generalize q_fill μ3 (o + 3) 5 0 = μ4 at hP h
  refine lv_aload_n hx hb dX9_begin_29 rfl (lv_at hl 0 rfl) ?_
  refine q_getR hx hb hts hown hK hP fd_RX9_24 (q_ltW0 ho) (q_kdW_0 ho) rfl (q_rhW_0_4 ho) dX9_begin_30 ?_
  obtain ⟨μ6, hv5, h⟩ := q_b_some h
  refine q_callV hx hb hml hts hown hK hP hS (As := []) (rest := []) (st1 := []) cv_RX9_52 (c_Hi_forget l D dA (by omega) hv5) (q_ltW ho rfl) (q_kdW_4 ho) rfl ⟨rfl, rfl, Nat.le_of_ble_eq_true rfl, Nat.le_of_ble_eq_true rfl⟩ ⟨Nat.le_refl _, Nat.le_refl _⟩ rfl hl.1 rfl (Nat.le_of_ble_eq_true rfl) rfl (fun _ g => g) dX9_begin_33 ?_
  clear hP hS hv5; intro H locs _ hP hS _
  refine lv_aload_n hx hb dX9_begin_36 rfl (lv_at hl 0 rfl) ?_
  refine q_getR hx hb hts hown hK hP fd_RX9_31 (q_ltW0 ho) (q_kdW_0 ho) rfl (q_rhW_0_5 ho) dX9_begin_37 ?_
  obtain ⟨μ8, hv7, h⟩ := q_b_some h
  refine q_callV hx hb hml hts hown hK hP hS (As := []) (rest := []) (st1 := []) cv_RX9_55 (c_Ch_clearAll l D dA (by omega) hv7) (q_ltW ho rfl) (q_kdW_14 ho) rfl ⟨rfl, rfl, Nat.le_of_ble_eq_true rfl, Nat.le_of_ble_eq_true rfl⟩ ⟨Nat.le_refl _, Nat.le_refl _⟩ rfl hl.1 rfl (Nat.le_of_ble_eq_true rfl) rfl (fun _ g => g) dX9_begin_40 ?_
  clear hP hS hv7; intro H locs _ hP hS _
  refine lv_aload_n hx hb dX9_begin_43 rfl (lv_at hl 0 rfl) ?_
  refine q_getR hx hb hts hown hK hP fd_RX9_38 (q_ltW0 ho) (q_kdW_0 ho) rfl (q_rhW_0_6 ho) dX9_begin_44 ?_
  obtain ⟨μ10, hv9, h⟩ := q_b_some h
  refine q_callV hx hb hml hts hown hK hP hS (As := []) (rest := []) (st1 := []) cv_RX9_58 (c_Sn_forget l D dA (by omega) hv9) (q_ltW ho rfl) (q_kdW_21 ho) rfl ⟨rfl, rfl, Nat.le_of_ble_eq_true rfl, Nat.le_of_ble_eq_true rfl⟩ ⟨Nat.le_refl _, Nat.le_refl _⟩ rfl hl.1 rfl (Nat.le_of_ble_eq_true rfl) rfl (fun _ g => g) dX9_begin_47 ?_
  clear hP hS hv9; intro H locs _ hP hS _
  rw [← hQ]
  exact q_retv hx hb hr hlocks hP hS h dX9_begin_50
set_option maxHeartbeats 4000000 in
set_option maxRecDepth 100000 in
theorem c_Co_setToFirst (l : Launch) (D : va_G) (dA : Nat → ClassId) {z sz : Nat} {μ : q_M} {μo : q_M} (h : f_Co_setToFirst μ = some μo) : Met l yX1_setToFirst (q_wc yX1_setToFirst cX1_setToFirst 1 none) ({ frames := 1, cells := 0, slots := 0, locals := 24 } : Room) (va_Pc [.ref (z + 54)] (q_B (q_P D dA q_kdC q_rhoC 77 z sz μ) D dA)) (q_Q none True (q_P D dA q_kdC q_rhoC 77 z sz μo) (q_A z 77)) 0 0 (q_A z 77) := by
  refine Met.ofW (cc := cX1_setToFirst) (maxL := 1) (ret := none) (by decide) rfl ?_
  intro p e s m args below meth c s₁ B hml hv
  obtain ⟨hargs, hP, hK⟩ := hv
  have hx := B.exec
  have hb := B.bytes
  have hr := B.returns
  have hts : ∀ w ∈ q_W, w.before args s = true := fun w hw => atoms_spec (ws := q_wc yX1_setToFirst cX1_setToFirst 1 none) B.pre w (List.mem_cons_of_mem _ hw)
  have hown : s.vm.findClass RX1 = some m.cls := findClass_of_methodNamed B.named
  have hlocks := B.notSynchronized
  have hS : va_S (q_A z 77) s.heap s.heap [] := va_S.rf
  have hA : ∀ k, k < 77 → q_A z 77 (z + k) := fun k hk => ⟨Nat.le_add_right z k, Nat.add_lt_add_left hk z⟩
  have hl := lv_entry [.ref (z + 54)] (n := 1) (Nat.le_of_ble_eq_true rfl)
  refine W.eq (by rw [hargs, lg_entry_eq]) ?_
  generalize (lg_sl [.ref (z + 54)] ++ List.replicate (1 - (lg_sl [.ref (z + 54)]).length) Slot.unset).toArray = ls at hl ⊢
  have hl : lv_has ls 1 [(0, .ref (z + 54))] := hl
  generalize hQ : MQ below _ args s 0 0 _ = Qf
  change W p l e ({ frames := 1, cells := 0, slots := 0, locals := 24 } : Room) s m args below meth c s.heap [] 0 0 Qf (F0 m 0 ls [])
  unfold f_Co_setToFirst at h
  refine lv_aload_n hx hb dX1_setToFirst_0 rfl (lv_at hl 0 rfl) ?_
  refine q_getR hx hb hts hown hK hP fd_RX1_9 (Nat.le_of_ble_eq_true rfl) q_kdC_54 rfl q_rhC_54_0 dX1_setToFirst_1 ?_
  refine lv_iconst (v := q_I 1) hx hb dX1_setToFirst_4 rfl ?_
  refine q_callS hx hb hml hts hown hK hP hS (As := [.ref (z + 55), .int (q_I 1)]) (rest := []) (st1 := []) cs_RX1_15 (c_fillI l D dA (Nat.le_of_ble_eq_true rfl) q_kdC_55 (q_r 1 rfl) (Nat.le_of_ble_eq_true rfl) hA) ⟨rfl, rfl, Nat.le_of_ble_eq_true rfl, Nat.le_of_ble_eq_true rfl⟩ ⟨Nat.le_refl _, Nat.le_refl _⟩ rfl hl.1 rfl (Nat.le_of_ble_eq_true rfl) rfl (fun _ g => g) dX1_setToFirst_5 ?_
  clear hP hS; intro H locs _ hP hS _
  replace h := q_fi_in h; generalize q_fill μ 55 25 1 = μ1 at hP h
  refine lv_aload_n hx hb dX1_setToFirst_8 rfl (lv_at hl 0 rfl) ?_
  refine lv_bipush (v := q_I 100) hx hb dX1_setToFirst_9 (by decide) ?_
  refine q_putI hx hb hts hown hK hP hS hA fd_RX1_21 (Nat.le_of_ble_eq_true rfl) q_kdC_54 rfl (q_r 100 rfl) dX1_setToFirst_11 h ?_
  clear h hP hS; intro μ2 H locs hP hS h
  refine lv_aload_n hx hb dX1_setToFirst_14 rfl (lv_at hl 0 rfl) ?_
  refine lv_bipush (v := q_I 100) hx hb dX1_setToFirst_15 (by decide) ?_
  refine q_putI hx hb hts hown hK hP hS hA fd_RX1_25 (Nat.le_of_ble_eq_true rfl) q_kdC_54 rfl (q_r 100 rfl) dX1_setToFirst_17 h ?_
  clear h hP hS; intro μ3 H locs hP hS h
  rw [← hQ]
  exact q_retv hx hb hr hlocks hP hS h dX1_setToFirst_20
set_option maxHeartbeats 4000000 in
set_option maxRecDepth 100000 in
theorem c_CR_startWith (l : Launch) (D : va_G) (dA : Nat → ClassId) {z sz : Nat} {a0 : Int} (ra0 : q_R a0) {μ : q_M} {μo : q_M} (h : f_CR_startWith a0 μ = some μo) : Met l yX10_startWith (q_wc yX10_startWith cX10_startWith 2 none) ({ frames := 4, cells := 0, slots := 0, locals := 85 } : Room) (va_Pc [.ref (z + 0), .int (q_I a0)] (q_B (q_P D dA q_kdC q_rhoC 77 z sz μ) D dA)) (q_Q none True (q_P D dA q_kdC q_rhoC 77 z sz μo) (q_A z 77)) 0 0 (q_A z 77) := by
  refine Met.ofW (cc := cX10_startWith) (maxL := 2) (ret := none) (by decide) rfl ?_
  intro p e s m args below meth c s₁ B hml hv
  obtain ⟨hargs, hP, hK⟩ := hv
  have hx := B.exec
  have hb := B.bytes
  have hr := B.returns
  have hts : ∀ w ∈ q_W, w.before args s = true := fun w hw => atoms_spec (ws := q_wc yX10_startWith cX10_startWith 2 none) B.pre w (List.mem_cons_of_mem _ hw)
  have hown : s.vm.findClass RX10 = some m.cls := findClass_of_methodNamed B.named
  have hlocks := B.notSynchronized
  have hS : va_S (q_A z 77) s.heap s.heap [] := va_S.rf
  have hA : ∀ k, k < 77 → q_A z 77 (z + k) := fun k hk => ⟨Nat.le_add_right z k, Nat.add_lt_add_left hk z⟩
  have hl := lv_entry [.ref (z + 0), .int (q_I a0)] (n := 2) (Nat.le_of_ble_eq_true rfl)
  refine W.eq (by rw [hargs, lg_entry_eq]) ?_
  generalize (lg_sl [.ref (z + 0), .int (q_I a0)] ++ List.replicate (2 - (lg_sl [.ref (z + 0), .int (q_I a0)]).length) Slot.unset).toArray = ls at hl ⊢
  have hl : lv_has ls 2 [(0, .ref (z + 0)), (1, .int (q_I a0))] := hl
  generalize hQ : MQ below _ args s 0 0 _ = Qf
  change W p l e ({ frames := 4, cells := 0, slots := 0, locals := 85 } : Room) s m args below meth c s.heap [] 0 0 Qf (F0 m 0 ls [])
  unfold f_CR_startWith at h
  refine lv_aload_n hx hb dX10_startWith_0 rfl (lv_at hl 0 rfl) ?_
  refine q_getR hx hb hts hown hK hP fd_RX10_10 (Nat.le_of_ble_eq_true rfl) q_kdC_0 rfl q_rhC_0_0 dX10_startWith_1 ?_
  refine lv_iload_n hx hb dX10_startWith_4 rfl (lv_at hl 1 rfl) ?_
  obtain ⟨μ2, hv1, h⟩ := q_b_some h
  refine q_callV hx hb hml hts hown hK hP hS (As := [.int (q_I a0)]) (rest := []) (st1 := []) cv_RX10_279 (c_Wo_begin l D dA (Or.inl rfl) ra0 hv1) (Nat.le_of_ble_eq_true rfl) q_kdC_1 rfl ⟨rfl, rfl, Nat.le_of_ble_eq_true rfl, Nat.le_of_ble_eq_true rfl⟩ ⟨Nat.le_refl _, Nat.le_refl _⟩ rfl hl.1 rfl (Nat.le_of_ble_eq_true rfl) rfl (fun _ g => g) dX10_startWith_5 ?_
  clear hP hS hv1; intro H locs _ hP hS _
  refine lv_aload_n hx hb dX10_startWith_8 rfl (lv_at hl 0 rfl) ?_
  refine q_getR hx hb hts hown hK hP fd_RX10_29 (Nat.le_of_ble_eq_true rfl) q_kdC_0 rfl q_rhC_0_4 dX10_startWith_9 ?_
  refine lv_iconst (v := q_I 0) hx hb dX10_startWith_12 rfl ?_
  refine q_putI hx hb hts hown hK hP hS hA fd_RX10_142 (Nat.le_of_ble_eq_true rfl) q_kdC_49 rfl (q_r 0 rfl) dX10_startWith_13 h ?_
  clear h hP hS; intro μ3 H locs hP hS h
  refine lv_aload_n hx hb dX10_startWith_16 rfl (lv_at hl 0 rfl) ?_
  refine q_getR hx hb hts hown hK hP fd_RX10_36 (Nat.le_of_ble_eq_true rfl) q_kdC_0 rfl q_rhC_0_5 dX10_startWith_17 ?_
  obtain ⟨μ5, hv4, h⟩ := q_b_some h
  refine q_callV hx hb hml hts hown hK hP hS (As := []) (rest := []) (st1 := []) cv_RX10_282 (c_Co_setToFirst l D dA hv4) (Nat.le_of_ble_eq_true rfl) q_kdC_54 rfl ⟨rfl, rfl, Nat.le_of_ble_eq_true rfl, Nat.le_of_ble_eq_true rfl⟩ ⟨Nat.le_refl _, Nat.le_refl _⟩ rfl hl.1 rfl (Nat.le_of_ble_eq_true rfl) rfl (fun _ g => g) dX10_startWith_20 ?_
  clear hP hS hv4; intro H locs _ hP hS _
  refine lv_aload_n hx hb dX10_startWith_23 rfl (lv_at hl 0 rfl) ?_
  refine lv_iconst (v := q_I 0) hx hb dX10_startWith_24 rfl ?_
  refine q_putZ hx hb hts hown hK hP hS hA fd_RX10_157 (Nat.le_of_ble_eq_true rfl) q_kdC_0 rfl (q_r 0 rfl) dX10_startWith_25 h ?_
  clear h hP hS; intro μ6 H locs hP hS h
  rw [← hQ]
  exact q_retv hx hb hr hlocks hP hS h dX10_startWith_28
set_option maxHeartbeats 4000000 in
set_option maxRecDepth 100000 in
theorem c_CR_within (l : Launch) (D : va_G) (dA : Nat → ClassId) {z sz : Nat} {a0 : Int} (ra0 : q_R a0) {a1 : Int} (ra1 : q_R a1) {a2 : Int} (ra2 : q_R a2) {μ : q_M} {xo : Int} (h : f_CR_within a0 a1 a2 μ = some xo) : Met l yX10_within (q_wc yX10_within cX10_within 3 (some .boolean)) ({ frames := 0, cells := 0, slots := 0, locals := 0 } : Room) (va_Pc [.int (q_I a0), .int (q_I a1), .int (q_I a2)] (q_B (q_P D dA q_kdC q_rhoC 77 z sz μ) D dA)) (q_Q (some (.int (q_I xo))) (q_R xo) (q_P D dA q_kdC q_rhoC 77 z sz μ) (q_A z 77)) 0 0 (q_A z 77) := by
  refine Met.ofW (cc := cX10_within) (maxL := 3) (ret := (some .boolean)) (by decide) rfl ?_
  intro p e s m args below meth c s₁ B hml hv
  obtain ⟨hargs, hP, hK⟩ := hv
  have hx := B.exec
  have hb := B.bytes
  have hr := B.returns
  have hts : ∀ w ∈ q_W, w.before args s = true := fun w hw => atoms_spec (ws := q_wc yX10_within cX10_within 3 (some .boolean)) B.pre w (List.mem_cons_of_mem _ hw)
  have hown : s.vm.findClass RX10 = some m.cls := findClass_of_methodNamed B.named
  have hlocks := B.notSynchronized
  have hS : va_S (q_A z 77) s.heap s.heap [] := va_S.rf
  have hA : ∀ k, k < 77 → q_A z 77 (z + k) := fun k hk => ⟨Nat.le_add_right z k, Nat.add_lt_add_left hk z⟩
  have hl := lv_entry [.int (q_I a0), .int (q_I a1), .int (q_I a2)] (n := 3) (Nat.le_of_ble_eq_true rfl)
  refine W.eq (by rw [hargs, lg_entry_eq]) ?_
  generalize (lg_sl [.int (q_I a0), .int (q_I a1), .int (q_I a2)] ++ List.replicate (3 - (lg_sl [.int (q_I a0), .int (q_I a1), .int (q_I a2)]).length) Slot.unset).toArray = ls at hl ⊢
  have hl : lv_has ls 3 [(0, .int (q_I a0)), (1, .int (q_I a1)), (2, .int (q_I a2))] := hl
  generalize hQ : MQ below _ args s 0 0 _ = Qf
  change W p l e ({ frames := 0, cells := 0, slots := 0, locals := 0 } : Room) s m args below meth c s.heap [] 0 0 Qf (F0 m 0 ls [])
  unfold f_CR_within at h
  refine lv_iload_n hx hb dX10_within_0 rfl (lv_at hl 0 rfl) ?_
  refine lv_iload_n hx hb dX10_within_1 rfl (lv_at hl 1 rfl) ?_
  refine q_jn_in h (fun J => ∀ (x1 : Int) (H : Heap) (locs : List Loc) (ls : Array Slot), q_R x1 → q_P D dA q_kdC q_rhoC 77 z sz μ H → va_S (q_A z 77) s.heap H locs → lv_has ls 3 [] → J x1 = some xo → W p l e ({ frames := 0, cells := 0, slots := 0, locals := 0 } : Room) s m args below meth c H locs 0 0 Qf (F0 m 15 ls [.int (q_I x1)])) ?_ ?_
  · clear h hl hP hS; intro x1 H locs ls r1 hP hS hl h
    rw [← hQ]
    obtain ⟨hz, h⟩ := q_rz_some h
    exact q_retz1 hx hb hr hlocks hP hS hz h dX10_within_15
  · clear h; intro j15 hj15 h
    refine q_jn_in h (fun J => ∀ (H : Heap) (locs : List Loc) (ls : Array Slot), q_P D dA q_kdC q_rhoC 77 z sz μ H → va_S (q_A z 77) s.heap H locs → lv_has ls 3 [] → J = some xo → W p l e ({ frames := 0, cells := 0, slots := 0, locals := 0 } : Room) s m args below meth c H locs 0 0 Qf (F0 m 14 ls [])) ?_ ?_
    · clear h hl hP hS; intro  H locs ls  hP hS hl h
      refine lv_iconst (v := q_I 0) hx hb dX10_within_14 rfl ?_
      exact hj15 0 _ _ _ (q_r 0 rfl) hP hS (lv_sub hl [] rfl) h
    · clear h; intro j14 hj14 h
      refine q_clt hx hb ra0 ra1 (tgt := 14) dX10_within_2 (by decide) h ?_ ?_
      · clear h; intro g3 h
        exact hj14  _ _ _ hP hS (lv_sub hl [] rfl) h
      · clear h; intro g3 h
        refine lv_iload_n hx hb dX10_within_5 rfl (lv_at hl 0 rfl) ?_
        refine lv_iload_n hx hb dX10_within_6 rfl (lv_at hl 2 rfl) ?_
        refine q_cgt hx hb ra0 ra2 (tgt := 14) dX10_within_7 (by decide) h ?_ ?_
        · clear h; intro g2 h
          exact hj14  _ _ _ hP hS (lv_sub hl [] rfl) h
        · clear h; intro g2 h
          refine lv_iconst (v := q_I 1) hx hb dX10_within_10 rfl ?_
          refine lv_goto (tgt := 15) hx hb dX10_within_11 (by decide) ?_
          exact hj15 1 _ _ _ (q_r 1 rfl) hP hS (lv_sub hl [] rfl) h
set_option maxHeartbeats 4000000 in
set_option maxRecDepth 100000 in
theorem c_CR_reset (l : Launch) (D : va_G) (dA : Nat → ClassId) {z sz : Nat} {a0 : Int} (ra0 : q_R a0) {μ : q_M} {xo : Int} {μo : q_M} (h : f_CR_reset a0 μ = some (xo, μo)) : Met l yX10_reset (q_wc yX10_reset cX10_reset 3 (some .int)) ({ frames := 5, cells := 0, slots := 0, locals := 106 } : Room) (va_Pc [.ref (z + 0), .int (q_I a0)] (q_B (q_P D dA q_kdC q_rhoC 77 z sz μ) D dA)) (q_Q (some (.int (q_I xo))) (q_R xo) (q_P D dA q_kdC q_rhoC 77 z sz μo) (q_A z 77)) 0 0 (q_A z 77) := by
  refine Met.ofW (cc := cX10_reset) (maxL := 3) (ret := (some .int)) (by decide) rfl ?_
  intro p e s m args below meth c s₁ B hml hv
  obtain ⟨hargs, hP, hK⟩ := hv
  have hx := B.exec
  have hb := B.bytes
  have hr := B.returns
  have hts : ∀ w ∈ q_W, w.before args s = true := fun w hw => atoms_spec (ws := q_wc yX10_reset cX10_reset 3 (some .int)) B.pre w (List.mem_cons_of_mem _ hw)
  have hown : s.vm.findClass RX10 = some m.cls := findClass_of_methodNamed B.named
  have hlocks := B.notSynchronized
  have hS : va_S (q_A z 77) s.heap s.heap [] := va_S.rf
  have hA : ∀ k, k < 77 → q_A z 77 (z + k) := fun k hk => ⟨Nat.le_add_right z k, Nat.add_lt_add_left hk z⟩
  have hl := lv_entry [.ref (z + 0), .int (q_I a0)] (n := 3) (Nat.le_of_ble_eq_true rfl)
  refine W.eq (by rw [hargs, lg_entry_eq]) ?_
  generalize (lg_sl [.ref (z + 0), .int (q_I a0)] ++ List.replicate (3 - (lg_sl [.ref (z + 0), .int (q_I a0)]).length) Slot.unset).toArray = ls at hl ⊢
  have hl : lv_has ls 3 [(0, .ref (z + 0)), (1, .int (q_I a0))] := hl
  generalize hQ : MQ below _ args s 0 0 _ = Qf
  change W p l e ({ frames := 5, cells := 0, slots := 0, locals := 106 } : Room) s m args below meth c s.heap [] 0 0 Qf (F0 m 0 ls [])
  unfold f_CR_reset at h
  refine lv_iload_n hx hb dX10_reset_0 rfl (lv_at hl 1 rfl) ?_
  refine lv_iconst (v := q_I 2) hx hb dX10_reset_1 rfl ?_
  refine lv_iconst (v := q_I 5) hx hb dX10_reset_2 rfl ?_
  obtain ⟨x2, hv1, h⟩ := q_b_some h
  refine q_callS hx hb hml hts hown hK hP hS (As := [.int (q_I a0), .int (q_I 2), .int (q_I 5)]) (rest := []) (st1 := [.int (q_I x2)]) cs_RX10_58 (c_CR_within l D dA ra0 (q_r 2 rfl) (q_r 5 rfl) hv1) ⟨rfl, rfl, Nat.le_of_ble_eq_true rfl, Nat.le_of_ble_eq_true rfl⟩ ⟨Nat.le_refl _, Nat.le_refl _⟩ rfl hl.1 rfl (Nat.le_of_ble_eq_true rfl) rfl (fun _ g => g) dX10_reset_3 ?_
  clear hP hS hv1; intro H locs r2 hP hS _
  refine q_zne hx hb r2 (tgt := 12) dX10_reset_6 (by decide) h ?_ ?_
  · clear h; intro g6 h
    refine lv_ldc hx hb hown (hts _ ck_RX10_62) dX10_reset_9 ?_
    rw [← hQ]
    exact q_ret2 hx hb hr hlocks hP hS (q_r (-100002) rfl) h dX10_reset_11
  · clear h; intro g6 h
    refine lv_aload_n hx hb dX10_reset_12 rfl (lv_at hl 0 rfl) ?_
    refine q_getR hx hb hts hown hK hP fd_RX10_10 (Nat.le_of_ble_eq_true rfl) q_kdC_0 rfl q_rhC_0_0 dX10_reset_13 ?_
    refine q_getI hx hb hts hown hK hP fd_RX10_63 (Nat.le_of_ble_eq_true rfl) q_kdC_1 rfl dX10_reset_16 h ?_
    clear h; intro x3 r3 h
    refine lv_istore_n (lv' := [(2, .int (q_I x3)), (0, .ref (z + 0)), (1, .int (q_I a0))]) hx hb dX10_reset_19 rfl hl (by decide) rfl ?_
    clear hl; intro ls hl
    refine lv_aload_n hx hb dX10_reset_20 rfl (lv_at hl 1 rfl) ?_
    refine lv_iload_n hx hb dX10_reset_21 rfl (lv_at hl 2 rfl) ?_
    obtain ⟨μ5, hv4, h⟩ := q_b_some h
    refine q_callV hx hb hml hts hown hK hP hS (As := [.int (q_I a0)]) (rest := []) (st1 := []) cv_RX10_54 (c_CR_startWith l D dA ra0 hv4) (Nat.le_of_ble_eq_true rfl) q_kdC_0 rfl ⟨rfl, rfl, Nat.le_of_ble_eq_true rfl, Nat.le_of_ble_eq_true rfl⟩ ⟨Nat.le_refl _, Nat.le_refl _⟩ rfl hl.1 rfl (Nat.le_of_ble_eq_true rfl) rfl (fun _ g => g) dX10_reset_22 ?_
    clear hP hS hv4; intro H locs _ hP hS _
    refine lv_iload_n hx hb dX10_reset_25 rfl (lv_at hl 0 rfl) ?_
    rw [← hQ]
    exact q_ret2 hx hb hr hlocks hP hS r3 h dX10_reset_26
set_option maxHeartbeats 4000000 in
set_option maxRecDepth 100000 in
theorem c_CR_isProcess (l : Launch) (D : va_G) (dA : Nat → ClassId) {z sz : Nat} {a0 : Int} (ra0 : q_R a0) {μ : q_M} {xo : Int} (h : f_CR_isProcess a0 μ = some xo) : Met l yX10_isProcess (q_wc yX10_isProcess cX10_isProcess 2 (some .boolean)) ({ frames := 1, cells := 0, slots := 0, locals := 22 } : Room) (va_Pc [.ref (z + 0), .int (q_I a0)] (q_B (q_P D dA q_kdC q_rhoC 77 z sz μ) D dA)) (q_Q (some (.int (q_I xo))) (q_R xo) (q_P D dA q_kdC q_rhoC 77 z sz μ) (q_A z 77)) 0 0 (q_A z 77) := by
  refine Met.ofW (cc := cX10_isProcess) (maxL := 2) (ret := (some .boolean)) (by decide) rfl ?_
  intro p e s m args below meth c s₁ B hml hv
  obtain ⟨hargs, hP, hK⟩ := hv
  have hx := B.exec
  have hb := B.bytes
  have hr := B.returns
  have hts : ∀ w ∈ q_W, w.before args s = true := fun w hw => atoms_spec (ws := q_wc yX10_isProcess cX10_isProcess 2 (some .boolean)) B.pre w (List.mem_cons_of_mem _ hw)
  have hown : s.vm.findClass RX10 = some m.cls := findClass_of_methodNamed B.named
  have hlocks := B.notSynchronized
  have hS : va_S (q_A z 77) s.heap s.heap [] := va_S.rf
  have hA : ∀ k, k < 77 → q_A z 77 (z + k) := fun k hk => ⟨Nat.le_add_right z k, Nat.add_lt_add_left hk z⟩
  have hl := lv_entry [.ref (z + 0), .int (q_I a0)] (n := 2) (Nat.le_of_ble_eq_true rfl)
  refine W.eq (by rw [hargs, lg_entry_eq]) ?_
  generalize (lg_sl [.ref (z + 0), .int (q_I a0)] ++ List.replicate (2 - (lg_sl [.ref (z + 0), .int (q_I a0)]).length) Slot.unset).toArray = ls at hl ⊢
  have hl : lv_has ls 2 [(0, .ref (z + 0)), (1, .int (q_I a0))] := hl
  generalize hQ : MQ below _ args s 0 0 _ = Qf
  change W p l e ({ frames := 1, cells := 0, slots := 0, locals := 22 } : Room) s m args below meth c s.heap [] 0 0 Qf (F0 m 0 ls [])
  unfold f_CR_isProcess at h
  refine lv_iload_n hx hb dX10_isProcess_0 rfl (lv_at hl 1 rfl) ?_
  refine lv_iconst (v := q_I 0) hx hb dX10_isProcess_1 rfl ?_
  refine lv_aload_n hx hb dX10_isProcess_2 rfl (lv_at hl 0 rfl) ?_
  refine q_getR hx hb hts hown hK hP fd_RX10_10 (Nat.le_of_ble_eq_true rfl) q_kdC_0 rfl q_rhC_0_0 dX10_isProcess_3 ?_
  refine q_getI hx hb hts hown hK hP fd_RX10_63 (Nat.le_of_ble_eq_true rfl) q_kdC_1 rfl dX10_isProcess_6 h ?_
  clear h; intro x1 r1 h
  refine lv_iconst (v := q_I 1) hx hb dX10_isProcess_9 rfl ?_
  refine q_isub hx hb dX10_isProcess_10 h ?_
  clear h; intro x2 r2 h
  obtain ⟨x4, hv3, h⟩ := q_b_some h
  refine q_callS hx hb hml hts hown hK hP hS (As := [.int (q_I a0), .int (q_I 0), .int (q_I x2)]) (rest := []) (st1 := [.int (q_I x4)]) cs_RX10_58 (c_CR_within l D dA ra0 (q_r 0 rfl) r2 hv3) ⟨rfl, rfl, Nat.le_of_ble_eq_true rfl, Nat.le_of_ble_eq_true rfl⟩ ⟨Nat.le_refl _, Nat.le_refl _⟩ rfl hl.1 rfl (Nat.le_of_ble_eq_true rfl) rfl (fun _ g => g) dX10_isProcess_11 ?_
  clear hP hS hv3; intro H locs r4 hP hS _
  rw [← hQ]
  obtain ⟨hz, h⟩ := q_rz_some h
  exact q_retz1 hx hb hr hlocks hP hS hz h dX10_isProcess_14
set_option maxHeartbeats 4000000 in
set_option maxRecDepth 100000 in
theorem c_CR_isStock (l : Launch) (D : va_G) (dA : Nat → ClassId) {z sz : Nat} {a0 : Int} (ra0 : q_R a0) {μ : q_M} {xo : Int} (h : f_CR_isStock a0 μ = some xo) : Met l yX10_isStock (q_wc yX10_isStock cX10_isStock 1 (some .boolean)) ({ frames := 1, cells := 0, slots := 0, locals := 22 } : Room) (va_Pc [.int (q_I a0)] (q_B (q_P D dA q_kdC q_rhoC 77 z sz μ) D dA)) (q_Q (some (.int (q_I xo))) (q_R xo) (q_P D dA q_kdC q_rhoC 77 z sz μ) (q_A z 77)) 0 0 (q_A z 77) := by
  refine Met.ofW (cc := cX10_isStock) (maxL := 1) (ret := (some .boolean)) (by decide) rfl ?_
  intro p e s m args below meth c s₁ B hml hv
  obtain ⟨hargs, hP, hK⟩ := hv
  have hx := B.exec
  have hb := B.bytes
  have hr := B.returns
  have hts : ∀ w ∈ q_W, w.before args s = true := fun w hw => atoms_spec (ws := q_wc yX10_isStock cX10_isStock 1 (some .boolean)) B.pre w (List.mem_cons_of_mem _ hw)
  have hown : s.vm.findClass RX10 = some m.cls := findClass_of_methodNamed B.named
  have hlocks := B.notSynchronized
  have hS : va_S (q_A z 77) s.heap s.heap [] := va_S.rf
  have hA : ∀ k, k < 77 → q_A z 77 (z + k) := fun k hk => ⟨Nat.le_add_right z k, Nat.add_lt_add_left hk z⟩
  have hl := lv_entry [.int (q_I a0)] (n := 1) (Nat.le_of_ble_eq_true rfl)
  refine W.eq (by rw [hargs, lg_entry_eq]) ?_
  generalize (lg_sl [.int (q_I a0)] ++ List.replicate (1 - (lg_sl [.int (q_I a0)]).length) Slot.unset).toArray = ls at hl ⊢
  have hl : lv_has ls 1 [(0, .int (q_I a0))] := hl
  generalize hQ : MQ below _ args s 0 0 _ = Qf
  change W p l e ({ frames := 1, cells := 0, slots := 0, locals := 22 } : Room) s m args below meth c s.heap [] 0 0 Qf (F0 m 0 ls [])
  unfold f_CR_isStock at h
  refine lv_iload_n hx hb dX10_isStock_0 rfl (lv_at hl 0 rfl) ?_
  refine lv_iconst (v := q_I 0) hx hb dX10_isStock_1 rfl ?_
  refine lv_iconst (v := q_I 1) hx hb dX10_isStock_2 rfl ?_
  obtain ⟨x2, hv1, h⟩ := q_b_some h
  refine q_callS hx hb hml hts hown hK hP hS (As := [.int (q_I a0), .int (q_I 0), .int (q_I 1)]) (rest := []) (st1 := [.int (q_I x2)]) cs_RX10_58 (c_CR_within l D dA ra0 (q_r 0 rfl) (q_r 1 rfl) hv1) ⟨rfl, rfl, Nat.le_of_ble_eq_true rfl, Nat.le_of_ble_eq_true rfl⟩ ⟨Nat.le_refl _, Nat.le_refl _⟩ rfl hl.1 rfl (Nat.le_of_ble_eq_true rfl) rfl (fun _ g => g) dX10_isStock_3 ?_
  clear hP hS hv1; intro H locs r2 hP hS _
  rw [← hQ]
  obtain ⟨hz, h⟩ := q_rz_some h
  exact q_retz1 hx hb hr hlocks hP hS hz h dX10_isStock_6
set_option maxHeartbeats 4000000 in
set_option maxRecDepth 100000 in
theorem c_CR_slot (l : Launch) (D : va_G) (dA : Nat → ClassId) {z sz : Nat} {a0 : Int} (ra0 : q_R a0) {a1 : Int} (ra1 : q_R a1) {μ : q_M} {xo : Int} (h : f_CR_slot a0 a1 μ = some xo) : Met l yX10_slot (q_wc yX10_slot cX10_slot 2 (some .int)) ({ frames := 0, cells := 0, slots := 0, locals := 0 } : Room) (va_Pc [.int (q_I a0), .int (q_I a1)] (q_B (q_P D dA q_kdC q_rhoC 77 z sz μ) D dA)) (q_Q (some (.int (q_I xo))) (q_R xo) (q_P D dA q_kdC q_rhoC 77 z sz μ) (q_A z 77)) 0 0 (q_A z 77) := by
  refine Met.ofW (cc := cX10_slot) (maxL := 2) (ret := (some .int)) (by decide) rfl ?_
  intro p e s m args below meth c s₁ B hml hv
  obtain ⟨hargs, hP, hK⟩ := hv
  have hx := B.exec
  have hb := B.bytes
  have hr := B.returns
  have hts : ∀ w ∈ q_W, w.before args s = true := fun w hw => atoms_spec (ws := q_wc yX10_slot cX10_slot 2 (some .int)) B.pre w (List.mem_cons_of_mem _ hw)
  have hown : s.vm.findClass RX10 = some m.cls := findClass_of_methodNamed B.named
  have hlocks := B.notSynchronized
  have hS : va_S (q_A z 77) s.heap s.heap [] := va_S.rf
  have hA : ∀ k, k < 77 → q_A z 77 (z + k) := fun k hk => ⟨Nat.le_add_right z k, Nat.add_lt_add_left hk z⟩
  have hl := lv_entry [.int (q_I a0), .int (q_I a1)] (n := 2) (Nat.le_of_ble_eq_true rfl)
  refine W.eq (by rw [hargs, lg_entry_eq]) ?_
  generalize (lg_sl [.int (q_I a0), .int (q_I a1)] ++ List.replicate (2 - (lg_sl [.int (q_I a0), .int (q_I a1)]).length) Slot.unset).toArray = ls at hl ⊢
  have hl : lv_has ls 2 [(0, .int (q_I a0)), (1, .int (q_I a1))] := hl
  generalize hQ : MQ below _ args s 0 0 _ = Qf
  change W p l e ({ frames := 0, cells := 0, slots := 0, locals := 0 } : Room) s m args below meth c s.heap [] 0 0 Qf (F0 m 0 ls [])
  unfold f_CR_slot at h
  refine lv_iload_n hx hb dX10_slot_0 rfl (lv_at hl 0 rfl) ?_
  refine lv_iconst (v := q_I 2) hx hb dX10_slot_1 rfl ?_
  refine q_imul hx hb dX10_slot_2 h ?_
  clear h; intro x1 r1 h
  refine lv_iload_n hx hb dX10_slot_3 rfl (lv_at hl 1 rfl) ?_
  refine q_iadd hx hb dX10_slot_4 h ?_
  clear h; intro x2 r2 h
  rw [← hQ]
  exact q_ret1 hx hb hr hlocks hP hS r2 h dX10_slot_5
set_option maxHeartbeats 4000000 in
set_option maxRecDepth 100000 in
theorem c_CR_setStock (l : Launch) (D : va_G) (dA : Nat → ClassId) {z sz : Nat} {a0 : Int} (ra0 : q_R a0) {a1 : Int} (ra1 : q_R a1) {a2 : Int} (ra2 : q_R a2) {μ : q_M} {xo : Int} {μo : q_M} (h : f_CR_setStock a0 a1 a2 μ = some (xo, μo)) : Met l yX10_setStock (q_wc yX10_setStock cX10_setStock 5 (some .int)) ({ frames := 2, cells := 0, slots := 0, locals := 43 } : Room) (va_Pc [.ref (z + 0), .int (q_I a0), .int (q_I a1), .int (q_I a2)] (q_B (q_P D dA q_kdC q_rhoC 77 z sz μ) D dA)) (q_Q (some (.int (q_I xo))) (q_R xo) (q_P D dA q_kdC q_rhoC 77 z sz μo) (q_A z 77)) 0 0 (q_A z 77) := by
  refine Met.ofW (cc := cX10_setStock) (maxL := 5) (ret := (some .int)) (by decide) rfl ?_
  intro p e s m args below meth c s₁ B hml hv
  obtain ⟨hargs, hP, hK⟩ := hv
  have hx := B.exec
  have hb := B.bytes
  have hr := B.returns
  have hts : ∀ w ∈ q_W, w.before args s = true := fun w hw => atoms_spec (ws := q_wc yX10_setStock cX10_setStock 5 (some .int)) B.pre w (List.mem_cons_of_mem _ hw)
  have hown : s.vm.findClass RX10 = some m.cls := findClass_of_methodNamed B.named
  have hlocks := B.notSynchronized
  have hS : va_S (q_A z 77) s.heap s.heap [] := va_S.rf
  have hA : ∀ k, k < 77 → q_A z 77 (z + k) := fun k hk => ⟨Nat.le_add_right z k, Nat.add_lt_add_left hk z⟩
  have hl := lv_entry [.ref (z + 0), .int (q_I a0), .int (q_I a1), .int (q_I a2)] (n := 5) (Nat.le_of_ble_eq_true rfl)
  refine W.eq (by rw [hargs, lg_entry_eq]) ?_
  generalize (lg_sl [.ref (z + 0), .int (q_I a0), .int (q_I a1), .int (q_I a2)] ++ List.replicate (5 - (lg_sl [.ref (z + 0), .int (q_I a0), .int (q_I a1), .int (q_I a2)]).length) Slot.unset).toArray = ls at hl ⊢
  have hl : lv_has ls 5 [(0, .ref (z + 0)), (1, .int (q_I a0)), (2, .int (q_I a1)), (3, .int (q_I a2))] := hl
  generalize hQ : MQ below _ args s 0 0 _ = Qf
  change W p l e ({ frames := 2, cells := 0, slots := 0, locals := 43 } : Room) s m args below meth c s.heap [] 0 0 Qf (F0 m 0 ls [])
  unfold f_CR_setStock at h
  refine lv_aload_n hx hb dX10_setStock_0 rfl (lv_at hl 0 rfl) ?_
  refine lv_iload_n hx hb dX10_setStock_1 rfl (lv_at hl 1 rfl) ?_
  obtain ⟨x2, hv1, h⟩ := q_b_some h
  refine q_callV hx hb hml hts hown hK hP hS (As := [.int (q_I a0)]) (rest := []) (st1 := [.int (q_I x2)]) cv_RX10_67 (c_CR_isProcess l D dA ra0 hv1) (Nat.le_of_ble_eq_true rfl) q_kdC_0 rfl ⟨rfl, rfl, Nat.le_of_ble_eq_true rfl, Nat.le_of_ble_eq_true rfl⟩ ⟨Nat.le_refl _, Nat.le_refl _⟩ rfl hl.1 rfl (Nat.le_of_ble_eq_true rfl) rfl (fun _ g => g) dX10_setStock_2 ?_
  clear hP hS hv1; intro H locs r2 hP hS _
  refine q_jn_in h (fun J => ∀ (H : Heap) (locs : List Loc) (ls : Array Slot), q_P D dA q_kdC q_rhoC 77 z sz μ H → va_S (q_A z 77) s.heap H locs → lv_has ls 5 [] → J = some (xo, μo) → W p l e ({ frames := 2, cells := 0, slots := 0, locals := 43 } : Room) s m args below meth c H locs 0 0 Qf (F0 m 15 ls [])) ?_ ?_
  · clear h hl hP hS; intro  H locs ls  hP hS hl h
    refine lv_ldc hx hb hown (hts _ ck_RX10_74) dX10_setStock_15 ?_
    rw [← hQ]
    exact q_ret2 hx hb hr hlocks hP hS (q_r (-100001) rfl) h dX10_setStock_17
  · clear h; intro j15 hj15 h
    refine q_zeq hx hb r2 (tgt := 15) dX10_setStock_5 (by decide) h ?_ ?_
    · clear h; intro g20 h
      exact hj15  _ _ _ hP hS (lv_sub hl [] rfl) h
    · clear h; intro g20 h
      refine lv_iload_n hx hb dX10_setStock_8 rfl (lv_at hl 2 rfl) ?_
      obtain ⟨x4, hv3, h⟩ := q_b_some h
      refine q_callS hx hb hml hts hown hK hP hS (As := [.int (q_I a1)]) (rest := []) (st1 := [.int (q_I x4)]) cs_RX10_71 (c_CR_isStock l D dA ra1 hv3) ⟨rfl, rfl, Nat.le_of_ble_eq_true rfl, Nat.le_of_ble_eq_true rfl⟩ ⟨Nat.le_refl _, Nat.le_refl _⟩ rfl hl.1 rfl (Nat.le_of_ble_eq_true rfl) rfl (fun _ g => g) dX10_setStock_9 ?_
      clear hP hS hv3; intro H locs r4 hP hS _
      refine q_zne hx hb r4 (tgt := 18) dX10_setStock_12 (by decide) h ?_ ?_
      · clear h; intro g19 h
        exact hj15  _ _ _ hP hS (lv_sub hl [] rfl) h
      · clear h; intro g19 h
        refine lv_iload_n hx hb dX10_setStock_18 rfl (lv_at hl 3 rfl) ?_
        refine lv_iconst (v := q_I 0) hx hb dX10_setStock_19 rfl ?_
        refine lv_sipush (v := q_I 1000) hx hb dX10_setStock_20 (by decide) ?_
        obtain ⟨x6, hv5, h⟩ := q_b_some h
        refine q_callS hx hb hml hts hown hK hP hS (As := [.int (q_I a2), .int (q_I 0), .int (q_I 1000)]) (rest := []) (st1 := [.int (q_I x6)]) cs_RX10_58 (c_CR_within l D dA ra2 (q_r 0 rfl) (q_r 1000 rfl) hv5) ⟨rfl, rfl, Nat.le_of_ble_eq_true rfl, Nat.le_of_ble_eq_true rfl⟩ ⟨Nat.le_refl _, Nat.le_refl _⟩ rfl hl.1 rfl (Nat.le_of_ble_eq_true rfl) rfl (fun _ g => g) dX10_setStock_23 ?_
        clear hP hS hv5; intro H locs r6 hP hS _
        refine q_zne hx hb r6 (tgt := 32) dX10_setStock_26 (by decide) h ?_ ?_
        · clear h; intro g18 h
          refine lv_ldc hx hb hown (hts _ ck_RX10_62) dX10_setStock_29 ?_
          rw [← hQ]
          exact q_ret2 hx hb hr hlocks hP hS (q_r (-100002) rfl) h dX10_setStock_31
        · clear h; intro g18 h
          refine lv_aload_n hx hb dX10_setStock_32 rfl (lv_at hl 0 rfl) ?_
          refine q_getR hx hb hts hown hK hP fd_RX10_10 (Nat.le_of_ble_eq_true rfl) q_kdC_0 rfl q_rhC_0_0 dX10_setStock_33 ?_
          refine q_getR hx hb hts hown hK hP fd_RX10_75 (Nat.le_of_ble_eq_true rfl) q_kdC_1 rfl q_rhC_1_4 dX10_setStock_36 ?_
          refine q_getI hx hb hts hown hK hP fd_RX10_79 (Nat.le_of_ble_eq_true rfl) q_kdC_5 rfl dX10_setStock_39 h ?_
          clear h; intro x7 r7 h
          refine q_zle hx hb r7 (tgt := 48) dX10_setStock_42 (by decide) h ?_ ?_
          · clear h; intro g17 h
            refine lv_aload_n hx hb dX10_setStock_48 rfl (lv_at hl 0 rfl) ?_
            refine q_getR hx hb hts hown hK hP fd_RX10_10 (Nat.le_of_ble_eq_true rfl) q_kdC_0 rfl q_rhC_0_0 dX10_setStock_49 ?_
            refine q_getR hx hb hts hown hK hP fd_RX10_85 (Nat.le_of_ble_eq_true rfl) q_kdC_1 rfl q_rhC_1_1 dX10_setStock_52 ?_
            refine lv_iload_n hx hb dX10_setStock_55 rfl (lv_at hl 1 rfl) ?_
            refine lv_iload_n hx hb dX10_setStock_56 rfl (lv_at hl 2 rfl) ?_
            obtain ⟨x9, hv8, h⟩ := q_b_some h
            refine q_callS hx hb hml hts hown hK hP hS (As := [.int (q_I a0), .int (q_I a1)]) (rest := [.ref (z + 2)]) (st1 := [.int (q_I x9), .ref (z + 2)]) cs_RX10_89 (c_CR_slot l D dA ra0 ra1 hv8) ⟨rfl, rfl, Nat.le_of_ble_eq_true rfl, Nat.le_of_ble_eq_true rfl⟩ ⟨Nat.le_refl _, Nat.le_refl _⟩ rfl hl.1 rfl (Nat.le_of_ble_eq_true rfl) rfl (fun _ g => g) dX10_setStock_57 ?_
            clear hP hS hv8; intro H locs r9 hP hS _
            refine q_iald hx hb hK hP (Nat.le_of_ble_eq_true rfl) q_kdC_2 r9 dX10_setStock_60 h ?_
            clear h; intro x10 r10 h
            refine lv_istore (lv' := [(4, .int (q_I x10)), (0, .ref (z + 0)), (1, .int (q_I a0)), (2, .int (q_I a1)), (3, .int (q_I a2))]) hx hb dX10_setStock_61 hl (by decide) rfl ?_
            clear hl; intro ls hl
            refine lv_aload_n hx hb dX10_setStock_63 rfl (lv_at hl 1 rfl) ?_
            refine q_getR hx hb hts hown hK hP fd_RX10_10 (Nat.le_of_ble_eq_true rfl) q_kdC_0 rfl q_rhC_0_0 dX10_setStock_64 ?_
            refine q_getR hx hb hts hown hK hP fd_RX10_85 (Nat.le_of_ble_eq_true rfl) q_kdC_1 rfl q_rhC_1_1 dX10_setStock_67 ?_
            refine lv_iload_n hx hb dX10_setStock_70 rfl (lv_at hl 2 rfl) ?_
            refine lv_iload_n hx hb dX10_setStock_71 rfl (lv_at hl 3 rfl) ?_
            obtain ⟨x12, hv11, h⟩ := q_b_some h
            refine q_callS hx hb hml hts hown hK hP hS (As := [.int (q_I a0), .int (q_I a1)]) (rest := [.ref (z + 2)]) (st1 := [.int (q_I x12), .ref (z + 2)]) cs_RX10_89 (c_CR_slot l D dA ra0 ra1 hv11) ⟨rfl, rfl, Nat.le_of_ble_eq_true rfl, Nat.le_of_ble_eq_true rfl⟩ ⟨Nat.le_refl _, Nat.le_refl _⟩ rfl hl.1 rfl (Nat.le_of_ble_eq_true rfl) rfl (fun _ g => g) dX10_setStock_72 ?_
            clear hP hS hv11; intro H locs r12 hP hS _
            refine lv_iload_n hx hb dX10_setStock_75 rfl (lv_at hl 4 rfl) ?_
            refine q_iast hx hb hK hP hS hA (Nat.le_of_ble_eq_true rfl) q_kdC_2 r12 ra2 dX10_setStock_76 h ?_
            clear h hP hS; intro μ13 H locs hP hS h
            refine lv_aload_n hx hb dX10_setStock_77 rfl (lv_at hl 1 rfl) ?_
            refine q_getR hx hb hts hown hK hP fd_RX10_10 (Nat.le_of_ble_eq_true rfl) q_kdC_0 rfl q_rhC_0_0 dX10_setStock_78 ?_
            refine q_getR hx hb hts hown hK hP fd_RX10_93 (Nat.le_of_ble_eq_true rfl) q_kdC_1 rfl q_rhC_1_2 dX10_setStock_81 ?_
            refine lv_iload_n hx hb dX10_setStock_84 rfl (lv_at hl 2 rfl) ?_
            refine lv_iload_n hx hb dX10_setStock_85 rfl (lv_at hl 3 rfl) ?_
            obtain ⟨x15, hv14, h⟩ := q_b_some h
            refine q_callS hx hb hml hts hown hK hP hS (As := [.int (q_I a0), .int (q_I a1)]) (rest := [.ref (z + 3)]) (st1 := [.int (q_I x15), .ref (z + 3)]) cs_RX10_89 (c_CR_slot l D dA ra0 ra1 hv14) ⟨rfl, rfl, Nat.le_of_ble_eq_true rfl, Nat.le_of_ble_eq_true rfl⟩ ⟨Nat.le_refl _, Nat.le_refl _⟩ rfl hl.1 rfl (Nat.le_of_ble_eq_true rfl) rfl (fun _ g => g) dX10_setStock_86 ?_
            clear hP hS hv14; intro H locs r15 hP hS _
            refine lv_iload_n hx hb dX10_setStock_89 rfl (lv_at hl 4 rfl) ?_
            refine q_iast hx hb hK hP hS hA (Nat.le_of_ble_eq_true rfl) q_kdC_3 r15 ra2 dX10_setStock_90 h ?_
            clear h hP hS; intro μ16 H locs hP hS h
            refine lv_iload hx hb dX10_setStock_91 (lv_at hl 0 rfl) ?_
            rw [← hQ]
            exact q_ret2 hx hb hr hlocks hP hS r10 h dX10_setStock_93
          · clear h; intro g17 h
            refine lv_ldc hx hb hown (hts _ ck_RX10_84) dX10_setStock_45 ?_
            rw [← hQ]
            exact q_ret2 hx hb hr hlocks hP hS (q_r (-100003) rfl) h dX10_setStock_47
set_option maxHeartbeats 4000000 in
set_option maxRecDepth 100000 in
theorem c_Hi_latestOf (l : Launch) (D : va_G) (dA : Nat → ClassId) {z sz : Nat} {N : Nat} {o : Nat} (ho : o = 5 ∨ o = 28) {a0 : Int} (ra0 : q_R a0) {μ : q_M} {xo : Int} (h : f_Hi_latestOf N o a0 μ = some xo) : Met l yX3_latestOf (q_wc yX3_latestOf cX3_latestOf 3 (some .int)) ({ frames := 0, cells := 0, slots := 0, locals := 0 } : Room) (va_Pc [.ref (z + o), .int (q_I a0)] (q_B (q_P D dA q_kdC q_rhoC 77 z sz μ) D dA)) (q_Q (some (.int (q_I xo))) (q_R xo) (q_P D dA q_kdC q_rhoC 77 z sz μ) (q_A z 77)) 0 0 (q_A z 77) := by
  refine Met.ofW (cc := cX3_latestOf) (maxL := 3) (ret := (some .int)) (by decide) rfl ?_
  intro p e s m args below meth c s₁ B hml hv
  obtain ⟨hargs, hP, hK⟩ := hv
  have hx := B.exec
  have hb := B.bytes
  have hr := B.returns
  have hts : ∀ w ∈ q_W, w.before args s = true := fun w hw => atoms_spec (ws := q_wc yX3_latestOf cX3_latestOf 3 (some .int)) B.pre w (List.mem_cons_of_mem _ hw)
  have hown : s.vm.findClass RX3 = some m.cls := findClass_of_methodNamed B.named
  have hlocks := B.notSynchronized
  have hS : va_S (q_A z 77) s.heap s.heap [] := va_S.rf
  have hA : ∀ k, k < 77 → q_A z 77 (z + k) := fun k hk => ⟨Nat.le_add_right z k, Nat.add_lt_add_left hk z⟩
  have hl := lv_entry [.ref (z + o), .int (q_I a0)] (n := 3) (Nat.le_of_ble_eq_true rfl)
  refine W.eq (by rw [hargs, lg_entry_eq]) ?_
  generalize (lg_sl [.ref (z + o), .int (q_I a0)] ++ List.replicate (3 - (lg_sl [.ref (z + o), .int (q_I a0)]).length) Slot.unset).toArray = ls at hl ⊢
  have hl : lv_has ls 3 [(0, .ref (z + o)), (1, .int (q_I a0))] := hl
  generalize hQ : MQ below _ args s 0 0 _ = Qf
  change W p l e ({ frames := 0, cells := 0, slots := 0, locals := 0 } : Room) s m args below meth c s.heap [] 0 0 Qf (F0 m 0 ls [])
  unfold f_Hi_latestOf at h
  refine lv_aload_n hx hb dX3_latestOf_0 rfl (lv_at hl 0 rfl) ?_
  refine q_getI hx hb hts hown hK hP fd_RX3_39 (q_ltH0 ho) (q_kdH_0 ho) rfl dX3_latestOf_1 h ?_
  clear h; intro x1 r1 h
  refine lv_iconst (v := q_I 1) hx hb dX3_latestOf_4 rfl ?_
  refine q_isub hx hb dX3_latestOf_5 h ?_
  clear h; intro x2 r2 h
  refine lv_istore_n (lv' := [(2, .int (q_I x2)), (0, .ref (z + o)), (1, .int (q_I a0))]) hx hb dX3_latestOf_6 rfl hl (by decide) rfl ?_
  clear hl; intro ls hl
  have L7 : ∀ (k21 : Int → Option Int) (k29 : Option Int), (∀ (x4 : Int) (H : Heap) (locs : List Loc) (ls : Array Slot), q_R x4 → q_P D dA q_kdC q_rhoC 77 z sz μ H → va_S (q_A z 77) s.heap H locs → lv_has ls 3 [(2, .int (q_I x4))] → k21 x4 = some xo → W p l e ({ frames := 0, cells := 0, slots := 0, locals := 0 } : Room) s m args below meth c H locs 0 0 Qf (F0 m 21 ls [])) → (∀ (H : Heap) (locs : List Loc) (ls : Array Slot), q_P D dA q_kdC q_rhoC 77 z sz μ H → va_S (q_A z 77) s.heap H locs → lv_has ls 3 [] → k29 = some xo → W p l e ({ frames := 0, cells := 0, slots := 0, locals := 0 } : Room) s m args below meth c H locs 0 0 Qf (F0 m 29 ls [])) → ∀ (nf7 : Nat) (x3 : Int) (H : Heap) (locs : List Loc) (ls : Array Slot), q_R x3 → q_P D dA q_kdC q_rhoC 77 z sz μ H → va_S (q_A z 77) s.heap H locs → lv_has ls 3 [(0, .ref (z + o)), (1, .int (q_I a0)), (2, .int (q_I x3))] → f_Hi_latestOf_L7 o a0 μ k21 k29 nf7 x3 = some xo → W p l e ({ frames := 0, cells := 0, slots := 0, locals := 0 } : Room) s m args below meth c H locs 0 0 Qf (F0 m 7 ls []) := by
    clear h hl hP hS
    intro k21 k29 hk21 hk29 nf7
    induction nf7 with
    | zero =>
      intro x3 H locs ls r3 hP hS hl h
      rw [f_Hi_latestOf_L7] at h
      cases h
    | succ nf7 ih7 =>
      intro x3 H locs ls r3 hP hS hl h
      rw [f_Hi_latestOf_L7] at h
      refine lv_iload_n hx hb dX3_latestOf_7 rfl (lv_at hl 2 rfl) ?_
      refine q_zlt hx hb r3 (tgt := 29) dX3_latestOf_8 (by decide) h ?_ ?_
      · clear h; intro g8 h
        exact hk29  _ _ _ hP hS (lv_sub hl [] rfl) h
      · clear h; intro g8 h
        refine lv_aload_n hx hb dX3_latestOf_11 rfl (lv_at hl 0 rfl) ?_
        refine q_getR hx hb hts hown hK hP fd_RX3_9 (q_ltH0 ho) (q_kdH_0 ho) rfl (q_rhH_0_1 ho) dX3_latestOf_12 ?_
        refine lv_iload_n hx hb dX3_latestOf_15 rfl (lv_at hl 2 rfl) ?_
        refine q_iald hx hb hK hP (q_ltH ho rfl) (q_kdH_1 ho) r3 dX3_latestOf_16 h ?_
        clear h; intro x5 r5 h
        refine lv_iload_n hx hb dX3_latestOf_17 rfl (lv_at hl 1 rfl) ?_
        refine q_cne hx hb r5 ra0 (tgt := 23) dX3_latestOf_18 (by decide) h ?_ ?_
        · clear h; intro g7 h
          exact hk21 x3 _ _ _ r3 hP hS (lv_sub hl [2] rfl) h
        · clear h; intro g7 h
          refine q_iinc (k := 2) (lv' := fun t => [(2, .int (q_I t)), (0, .ref (z + o)), (1, .int (q_I a0))]) hx hb dX3_latestOf_23 hl rfl (by decide) (fun _ => rfl) h ?_
          clear h hl; intro x6 ls r6 hl h
          refine lv_goto (tgt := 7) hx hb dX3_latestOf_26 (by decide) ?_
          exact ih7 x6 _ _ _ r6 hP hS (lv_sub hl [1, 2, 0] rfl) h
  refine L7 _ _ ?_ ?_  _ x2 _ _ _ r2 hP hS (lv_sub hl [1, 2, 0] rfl) h
  · clear h hl hP hS; intro x4 H locs ls r4 hP hS hl h
    refine lv_iload_n hx hb dX3_latestOf_21 rfl (lv_at hl 0 rfl) ?_
    rw [← hQ]
    exact q_ret1 hx hb hr hlocks hP hS r4 h dX3_latestOf_22
  · clear h hl hP hS; intro  H locs ls  hP hS hl h
    refine lv_iconst (v := q_I (-1)) hx hb dX3_latestOf_29 rfl ?_
    rw [← hQ]
    exact q_ret1 hx hb hr hlocks hP hS (q_r (-1) rfl) h dX3_latestOf_30
set_option maxHeartbeats 4000000 in
set_option maxRecDepth 100000 in
theorem c_Hi_add (l : Launch) (D : va_G) (dA : Nat → ClassId) {z sz : Nat} {N : Nat} {o : Nat} (ho : o = 5 ∨ o = 28) {a0 : Int} (ra0 : q_R a0) {a1 : Int} (ra1 : q_R a1) {a2 : Int} (ra2 : q_R a2) {μ : q_M} {xo : Int} {μo : q_M} (h : f_Hi_add N o a0 a1 a2 μ = some (xo, μo)) : Met l yX3_add (q_wc yX3_add cX3_add 7 (some .int)) ({ frames := 1, cells := 0, slots := 0, locals := 22 } : Room) (va_Pc [.ref (z + o), .int (q_I a0), .int (q_I a1), .int (q_I a2)] (q_B (q_P D dA q_kdC q_rhoC 77 z sz μ) D dA)) (q_Q (some (.int (q_I xo))) (q_R xo) (q_P D dA q_kdC q_rhoC 77 z sz μo) (q_A z 77)) 0 0 (q_A z 77) := by
  refine Met.ofW (cc := cX3_add) (maxL := 7) (ret := (some .int)) (by decide) rfl ?_
  intro p e s m args below meth c s₁ B hml hv
  obtain ⟨hargs, hP, hK⟩ := hv
  have hx := B.exec
  have hb := B.bytes
  have hr := B.returns
  have hts : ∀ w ∈ q_W, w.before args s = true := fun w hw => atoms_spec (ws := q_wc yX3_add cX3_add 7 (some .int)) B.pre w (List.mem_cons_of_mem _ hw)
  have hown : s.vm.findClass RX3 = some m.cls := findClass_of_methodNamed B.named
  have hlocks := B.notSynchronized
  have hS : va_S (q_A z 77) s.heap s.heap [] := va_S.rf
  have hA : ∀ k, k < 77 → q_A z 77 (z + k) := fun k hk => ⟨Nat.le_add_right z k, Nat.add_lt_add_left hk z⟩
  have hl := lv_entry [.ref (z + o), .int (q_I a0), .int (q_I a1), .int (q_I a2)] (n := 7) (Nat.le_of_ble_eq_true rfl)
  refine W.eq (by rw [hargs, lg_entry_eq]) ?_
  generalize (lg_sl [.ref (z + o), .int (q_I a0), .int (q_I a1), .int (q_I a2)] ++ List.replicate (7 - (lg_sl [.ref (z + o), .int (q_I a0), .int (q_I a1), .int (q_I a2)]).length) Slot.unset).toArray = ls at hl ⊢
  have hl : lv_has ls 7 [(0, .ref (z + o)), (1, .int (q_I a0)), (2, .int (q_I a1)), (3, .int (q_I a2))] := hl
  generalize hQ : MQ below _ args s 0 0 _ = Qf
  change W p l e ({ frames := 1, cells := 0, slots := 0, locals := 22 } : Room) s m args below meth c s.heap [] 0 0 Qf (F0 m 0 ls [])
  unfold f_Hi_add at h
  refine lv_aload_n hx hb dX3_add_0 rfl (lv_at hl 0 rfl) ?_
  refine q_getI hx hb hts hown hK hP fd_RX3_39 (q_ltH0 ho) (q_kdH_0 ho) rfl dX3_add_1 h ?_
  clear h; intro x1 r1 h
  refine lv_istore (lv' := [(4, .int (q_I x1)), (0, .ref (z + o)), (1, .int (q_I a0)), (2, .int (q_I a1)), (3, .int (q_I a2))]) hx hb dX3_add_4 hl (by decide) rfl ?_
  clear hl; intro ls hl
  refine lv_aload_n hx hb dX3_add_6 rfl (lv_at hl 1 rfl) ?_
  refine lv_iload_n hx hb dX3_add_7 rfl (lv_at hl 2 rfl) ?_
  obtain ⟨x3, hv2, h⟩ := q_b_some h
  refine q_callV hx hb hml hts hown hK hP hS (As := [.int (q_I a0)]) (rest := []) (st1 := [.int (q_I x3)]) cv_RX3_53 (c_Hi_latestOf l D dA ho ra0 hv2) (q_ltH0 ho) (q_kdH_0 ho) rfl ⟨rfl, rfl, Nat.le_of_ble_eq_true rfl, Nat.le_of_ble_eq_true rfl⟩ ⟨Nat.le_refl _, Nat.le_refl _⟩ rfl hl.1 rfl (Nat.le_of_ble_eq_true rfl) rfl (fun _ g => g) dX3_add_8 ?_
  clear hP hS hv2; intro H locs r3 hP hS _
  refine lv_istore (lv' := [(5, .int (q_I x3)), (4, .int (q_I x1)), (0, .ref (z + o)), (1, .int (q_I a0)), (2, .int (q_I a1)), (3, .int (q_I a2))]) hx hb dX3_add_11 hl (by decide) rfl ?_
  clear hl; intro ls hl
  refine lv_aload_n hx hb dX3_add_13 rfl (lv_at hl 2 rfl) ?_
  refine q_getR hx hb hts hown hK hP fd_RX3_9 (q_ltH0 ho) (q_kdH_0 ho) rfl (q_rhH_0_1 ho) dX3_add_14 ?_
  refine lv_iload hx hb dX3_add_17 (lv_at hl 1 rfl) ?_
  refine lv_iload_n hx hb dX3_add_19 rfl (lv_at hl 3 rfl) ?_
  refine q_iast hx hb hK hP hS hA (q_ltH ho rfl) (q_kdH_1 ho) r1 ra0 dX3_add_20 h ?_
  clear h hP hS; intro μ4 H locs hP hS h
  refine lv_aload_n hx hb dX3_add_21 rfl (lv_at hl 2 rfl) ?_
  refine q_getR hx hb hts hown hK hP fd_RX3_15 (q_ltH0 ho) (q_kdH_0 ho) rfl (q_rhH_0_2 ho) dX3_add_22 ?_
  refine lv_iload hx hb dX3_add_25 (lv_at hl 1 rfl) ?_
  refine lv_iload_n hx hb dX3_add_27 rfl (lv_at hl 4 rfl) ?_
  refine q_iast hx hb hK hP hS hA (q_ltH ho rfl) (q_kdH_2 ho) r1 ra1 dX3_add_28 h ?_
  clear h hP hS; intro μ5 H locs hP hS h
  refine lv_aload_n hx hb dX3_add_29 rfl (lv_at hl 2 rfl) ?_
  refine q_getR hx hb hts hown hK hP fd_RX3_27 (q_ltH0 ho) (q_kdH_0 ho) rfl (q_rhH_0_6 ho) dX3_add_30 ?_
  refine lv_iload hx hb dX3_add_33 (lv_at hl 1 rfl) ?_
  refine lv_iload_n hx hb dX3_add_35 rfl (lv_at hl 5 rfl) ?_
  refine q_iast hx hb hK hP hS hA (q_ltH ho rfl) (q_kdH_6 ho) r1 ra2 dX3_add_36 h ?_
  clear h hP hS; intro μ6 H locs hP hS h
  refine lv_aload_n hx hb dX3_add_37 rfl (lv_at hl 2 rfl) ?_
  refine q_getR hx hb hts hown hK hP fd_RX3_30 (q_ltH0 ho) (q_kdH_0 ho) rfl (q_rhH_0_7 ho) dX3_add_38 ?_
  refine lv_iload hx hb dX3_add_41 (lv_at hl 1 rfl) ?_
  refine lv_aload_n hx hb dX3_add_43 rfl (lv_at hl 2 rfl) ?_
  refine q_getR hx hb hts hown hK hP fd_RX3_36 (q_ltH0 ho) (q_kdH_0 ho) rfl (q_rhH_0_9 ho) dX3_add_44 ?_
  refine lv_iload_n hx hb dX3_add_47 rfl (lv_at hl 3 rfl) ?_
  refine q_iald hx hb hK hP (q_ltH ho rfl) (q_kdH_9 ho) ra0 dX3_add_48 h ?_
  clear h; intro x7 r7 h
  refine q_iast hx hb hK hP hS hA (q_ltH ho rfl) (q_kdH_7 ho) r1 r7 dX3_add_49 h ?_
  clear h hP hS; intro μ8 H locs hP hS h
  refine lv_iconst (v := q_I 0) hx hb dX3_add_50 rfl ?_
  refine lv_istore (lv' := [(6, .int (q_I 0)), (5, .int (q_I x3)), (4, .int (q_I x1)), (0, .ref (z + o)), (1, .int (q_I a0)), (2, .int (q_I a1)), (3, .int (q_I a2))]) hx hb dX3_add_51 hl (by decide) rfl ?_
  clear hl; intro ls hl
  have L53 : ∀ (k99 : q_M → Option (Int × q_M)), (∀ (μ11 : q_M) (H : Heap) (locs : List Loc) (ls : Array Slot), q_P D dA q_kdC q_rhoC 77 z sz μ11 H → va_S (q_A z 77) s.heap H locs → lv_has ls 7 [(0, .ref (z + o)), (1, .int (q_I a0)), (4, .int (q_I x1))] → k99 μ11 = some (xo, μo) → W p l e ({ frames := 1, cells := 0, slots := 0, locals := 22 } : Room) s m args below meth c H locs 0 0 Qf (F0 m 99 ls [])) → ∀ (nf53 : Nat) (x9 : Int) (μ10 : q_M) (H : Heap) (locs : List Loc) (ls : Array Slot), q_R x9 → q_P D dA q_kdC q_rhoC 77 z sz μ10 H → va_S (q_A z 77) s.heap H locs → lv_has ls 7 [(0, .ref (z + o)), (1, .int (q_I a0)), (4, .int (q_I x1)), (5, .int (q_I x3)), (6, .int (q_I x9))] → f_Hi_add_L53 o x3 x1 k99 nf53 x9 μ10 = some (xo, μo) → W p l e ({ frames := 1, cells := 0, slots := 0, locals := 22 } : Room) s m args below meth c H locs 0 0 Qf (F0 m 53 ls []) := by
    clear h hl hP hS
    intro k99 hk99 nf53
    induction nf53 with
    | zero =>
      intro x9 μ10 H locs ls r9 hP hS hl h
      rw [f_Hi_add_L53] at h
      cases h
    | succ nf53 ih53 =>
      intro x9 μ10 H locs ls r9 hP hS hl h
      rw [f_Hi_add_L53] at h
      refine lv_iload hx hb dX3_add_53 (lv_at hl 4 rfl) ?_
      refine lv_iconst (v := q_I 5) hx hb dX3_add_55 rfl ?_
      refine q_cge hx hb r9 (q_r 5 rfl) (tgt := 99) dX3_add_56 (by decide) h ?_ ?_
      · clear h; intro g21 h
        exact hk99 μ10 _ _ _ hP hS (lv_sub hl [0, 1, 2] rfl) h
      · clear h; intro g21 h
        refine lv_aload_n hx hb dX3_add_59 rfl (lv_at hl 0 rfl) ?_
        refine q_getR hx hb hts hown hK hP fd_RX3_33 (q_ltH0 ho) (q_kdH_0 ho) rfl (q_rhH_0_8 ho) dX3_add_60 ?_
        refine lv_iload hx hb dX3_add_63 (lv_at hl 2 rfl) ?_
        refine lv_iconst (v := q_I 5) hx hb dX3_add_65 rfl ?_
        refine q_imul hx hb dX3_add_66 h ?_
        clear h; intro x12 r12 h
        refine lv_iload hx hb dX3_add_67 (lv_at hl 4 rfl) ?_
        refine q_iadd hx hb dX3_add_69 h ?_
        clear h; intro x13 r13 h
        refine lv_iload hx hb dX3_add_70 (lv_at hl 3 rfl) ?_
        refine lv_iconst (v := q_I (-1)) hx hb dX3_add_72 rfl ?_
        refine q_jn_in h (fun J => ∀ (x14 : Int) (H : Heap) (locs : List Loc) (ls : Array Slot), q_R x14 → q_P D dA q_kdC q_rhoC 77 z sz μ10 H → va_S (q_A z 77) s.heap H locs → lv_has ls 7 [(0, .ref (z + o)), (1, .int (q_I a0)), (4, .int (q_I x1)), (5, .int (q_I x3)), (6, .int (q_I x9))] → J x14 = some (xo, μo) → W p l e ({ frames := 1, cells := 0, slots := 0, locals := 22 } : Room) s m args below meth c H locs 0 0 Qf (F0 m 92 ls [.int (q_I x14), .int (q_I x13), .ref (z + (o + 8))])) ?_ ?_
        · clear h hl hP hS; intro x14 H locs ls r14 hP hS hl h
          refine q_iast hx hb hK hP hS hA (q_ltH ho rfl) (q_kdH_8 ho) r13 r14 dX3_add_92 h ?_
          clear h hP hS; intro μ15 H locs hP hS h
          refine q_iinc (k := 4) (lv' := fun t => [(6, .int (q_I t)), (0, .ref (z + o)), (1, .int (q_I a0)), (4, .int (q_I x1)), (5, .int (q_I x3))]) hx hb dX3_add_93 hl rfl (by decide) (fun _ => rfl) h ?_
          clear h hl; intro x16 ls r16 hl h
          refine lv_goto (tgt := 53) hx hb dX3_add_96 (by decide) ?_
          exact ih53 x16 μ15 _ _ _ r16 hP hS (lv_sub hl [1, 2, 3, 4, 0] rfl) h
        · clear h; intro j92 hj92 h
          refine q_cne hx hb r3 (q_r (-1) rfl) (tgt := 80) dX3_add_73 (by decide) h ?_ ?_
          · clear h; intro g20 h
            refine lv_iconst (v := q_I 0) hx hb dX3_add_76 rfl ?_
            refine lv_goto (tgt := 92) hx hb dX3_add_77 (by decide) ?_
            exact hj92 0 _ _ _ (q_r 0 rfl) hP hS (lv_sub hl [0, 1, 2, 3, 4] rfl) h
          · clear h; intro g20 h
            refine lv_aload_n hx hb dX3_add_80 rfl (lv_at hl 0 rfl) ?_
            refine q_getR hx hb hts hown hK hP fd_RX3_33 (q_ltH0 ho) (q_kdH_0 ho) rfl (q_rhH_0_8 ho) dX3_add_81 ?_
            refine lv_iload hx hb dX3_add_84 (lv_at hl 3 rfl) ?_
            refine lv_iconst (v := q_I 5) hx hb dX3_add_86 rfl ?_
            refine q_imul hx hb dX3_add_87 h ?_
            clear h; intro x17 r17 h
            refine lv_iload hx hb dX3_add_88 (lv_at hl 4 rfl) ?_
            refine q_iadd hx hb dX3_add_90 h ?_
            clear h; intro x18 r18 h
            refine q_iald hx hb hK hP (q_ltH ho rfl) (q_kdH_8 ho) r18 dX3_add_91 h ?_
            clear h; intro x19 r19 h
            exact hj92 x19 _ _ _ r19 hP hS (lv_sub hl [0, 1, 2, 3, 4] rfl) h
  refine L53 _ ?_  _ 0 μ8 _ _ _ (q_r 0 rfl) hP hS (lv_sub hl [3, 4, 2, 1, 0] rfl) h
  · clear h hl hP hS; intro μ11 H locs ls  hP hS hl h
    refine lv_aload_n hx hb dX3_add_99 rfl (lv_at hl 0 rfl) ?_
    refine q_getR hx hb hts hown hK hP fd_RX3_33 (q_ltH0 ho) (q_kdH_0 ho) rfl (q_rhH_0_8 ho) dX3_add_100 ?_
    refine lv_iload hx hb dX3_add_103 (lv_at hl 2 rfl) ?_
    refine lv_iconst (v := q_I 5) hx hb dX3_add_105 rfl ?_
    refine q_imul hx hb dX3_add_106 h ?_
    clear h; intro x22 r22 h
    refine lv_iload_n hx hb dX3_add_107 rfl (lv_at hl 1 rfl) ?_
    refine q_iadd hx hb dX3_add_108 h ?_
    clear h; intro x23 r23 h
    refine lv_dup2_11 hx hb dX3_add_109 rfl rfl ?_
    refine q_iald hx hb hK hP (q_ltH ho rfl) (q_kdH_8 ho) r23 dX3_add_110 h ?_
    clear h; intro x24 r24 h
    refine lv_iconst (v := q_I 1) hx hb dX3_add_111 rfl ?_
    refine q_iadd hx hb dX3_add_112 h ?_
    clear h; intro x25 r25 h
    refine q_iast hx hb hK hP hS hA (q_ltH ho rfl) (q_kdH_8 ho) r23 r25 dX3_add_113 h ?_
    clear h hP hS; intro μ26 H locs hP hS h
    refine lv_aload_n hx hb dX3_add_114 rfl (lv_at hl 0 rfl) ?_
    refine q_getR hx hb hts hown hK hP fd_RX3_36 (q_ltH0 ho) (q_kdH_0 ho) rfl (q_rhH_0_9 ho) dX3_add_115 ?_
    refine lv_iload_n hx hb dX3_add_118 rfl (lv_at hl 1 rfl) ?_
    refine lv_dup2_11 hx hb dX3_add_119 rfl rfl ?_
    refine q_iald hx hb hK hP (q_ltH ho rfl) (q_kdH_9 ho) ra0 dX3_add_120 h ?_
    clear h; intro x27 r27 h
    refine lv_iconst (v := q_I 1) hx hb dX3_add_121 rfl ?_
    refine q_iadd hx hb dX3_add_122 h ?_
    clear h; intro x28 r28 h
    refine q_iast hx hb hK hP hS hA (q_ltH ho rfl) (q_kdH_9 ho) ra0 r28 dX3_add_123 h ?_
    clear h hP hS; intro μ29 H locs hP hS h
    refine lv_aload_n hx hb dX3_add_124 rfl (lv_at hl 0 rfl) ?_
    refine lv_dup hx hb dX3_add_125 rfl ?_
    refine q_getI hx hb hts hown hK hP fd_RX3_39 (q_ltH0 ho) (q_kdH_0 ho) rfl dX3_add_126 h ?_
    clear h; intro x30 r30 h
    refine lv_iconst (v := q_I 1) hx hb dX3_add_129 rfl ?_
    refine q_iadd hx hb dX3_add_130 h ?_
    clear h; intro x31 r31 h
    refine q_putI hx hb hts hown hK hP hS hA fd_RX3_39 (q_ltH0 ho) (q_kdH_0 ho) rfl r31 dX3_add_131 h ?_
    clear h hP hS; intro μ32 H locs hP hS h
    refine lv_iload hx hb dX3_add_134 (lv_at hl 2 rfl) ?_
    rw [← hQ]
    exact q_ret2 hx hb hr hlocks hP hS r1 h dX3_add_136
set_option maxHeartbeats 4000000 in
set_option maxRecDepth 100000 in
theorem c_Hi_describe (l : Launch) (D : va_G) (dA : Nat → ClassId) {z sz : Nat} {o : Nat} (ho : o = 5 ∨ o = 28) {a0 : Int} (ra0 : q_R a0) {a1 : Int} (ra1 : q_R a1) {a2 : Int} (ra2 : q_R a2) {a3 : Int} (ra3 : q_R a3) {μ : q_M} {μo : q_M} (h : f_Hi_describe o a0 a1 a2 a3 μ = some μo) : Met l yX3_describe (q_wc yX3_describe cX3_describe 5 none) ({ frames := 0, cells := 0, slots := 0, locals := 0 } : Room) (va_Pc [.ref (z + o), .int (q_I a0), .int (q_I a1), .int (q_I a2), .int (q_I a3)] (q_B (q_P D dA q_kdC q_rhoC 77 z sz μ) D dA)) (q_Q none True (q_P D dA q_kdC q_rhoC 77 z sz μo) (q_A z 77)) 0 0 (q_A z 77) := by
  refine Met.ofW (cc := cX3_describe) (maxL := 5) (ret := none) (by decide) rfl ?_
  intro p e s m args below meth c s₁ B hml hv
  obtain ⟨hargs, hP, hK⟩ := hv
  have hx := B.exec
  have hb := B.bytes
  have hr := B.returns
  have hts : ∀ w ∈ q_W, w.before args s = true := fun w hw => atoms_spec (ws := q_wc yX3_describe cX3_describe 5 none) B.pre w (List.mem_cons_of_mem _ hw)
  have hown : s.vm.findClass RX3 = some m.cls := findClass_of_methodNamed B.named
  have hlocks := B.notSynchronized
  have hS : va_S (q_A z 77) s.heap s.heap [] := va_S.rf
  have hA : ∀ k, k < 77 → q_A z 77 (z + k) := fun k hk => ⟨Nat.le_add_right z k, Nat.add_lt_add_left hk z⟩
  have hl := lv_entry [.ref (z + o), .int (q_I a0), .int (q_I a1), .int (q_I a2), .int (q_I a3)] (n := 5) (Nat.le_of_ble_eq_true rfl)
  refine W.eq (by rw [hargs, lg_entry_eq]) ?_
  generalize (lg_sl [.ref (z + o), .int (q_I a0), .int (q_I a1), .int (q_I a2), .int (q_I a3)] ++ List.replicate (5 - (lg_sl [.ref (z + o), .int (q_I a0), .int (q_I a1), .int (q_I a2), .int (q_I a3)]).length) Slot.unset).toArray = ls at hl ⊢
  have hl : lv_has ls 5 [(0, .ref (z + o)), (1, .int (q_I a0)), (2, .int (q_I a1)), (3, .int (q_I a2)), (4, .int (q_I a3))] := hl
  generalize hQ : MQ below _ args s 0 0 _ = Qf
  change W p l e ({ frames := 0, cells := 0, slots := 0, locals := 0 } : Room) s m args below meth c s.heap [] 0 0 Qf (F0 m 0 ls [])
  unfold f_Hi_describe at h
  refine lv_aload_n hx hb dX3_describe_0 rfl (lv_at hl 0 rfl) ?_
  refine q_getR hx hb hts hown hK hP fd_RX3_18 (q_ltH0 ho) (q_kdH_0 ho) rfl (q_rhH_0_3 ho) dX3_describe_1 ?_
  refine lv_iload_n hx hb dX3_describe_4 rfl (lv_at hl 1 rfl) ?_
  refine lv_iload_n hx hb dX3_describe_5 rfl (lv_at hl 2 rfl) ?_
  refine q_iast hx hb hK hP hS hA (q_ltH ho rfl) (q_kdH_3 ho) ra0 ra1 dX3_describe_6 h ?_
  clear h hP hS; intro μ1 H locs hP hS h
  refine lv_aload_n hx hb dX3_describe_7 rfl (lv_at hl 0 rfl) ?_
  refine q_getR hx hb hts hown hK hP fd_RX3_21 (q_ltH0 ho) (q_kdH_0 ho) rfl (q_rhH_0_4 ho) dX3_describe_8 ?_
  refine lv_iload_n hx hb dX3_describe_11 rfl (lv_at hl 1 rfl) ?_
  refine lv_iload_n hx hb dX3_describe_12 rfl (lv_at hl 3 rfl) ?_
  refine q_iast hx hb hK hP hS hA (q_ltH ho rfl) (q_kdH_4 ho) ra0 ra2 dX3_describe_13 h ?_
  clear h hP hS; intro μ2 H locs hP hS h
  refine lv_aload_n hx hb dX3_describe_14 rfl (lv_at hl 0 rfl) ?_
  refine q_getR hx hb hts hown hK hP fd_RX3_24 (q_ltH0 ho) (q_kdH_0 ho) rfl (q_rhH_0_5 ho) dX3_describe_15 ?_
  refine lv_iload_n hx hb dX3_describe_18 rfl (lv_at hl 1 rfl) ?_
  refine lv_iload hx hb dX3_describe_19 (lv_at hl 4 rfl) ?_
  refine q_iast hx hb hK hP hS hA (q_ltH ho rfl) (q_kdH_5 ho) ra0 ra3 dX3_describe_21 h ?_
  clear h hP hS; intro μ3 H locs hP hS h
  rw [← hQ]
  exact q_retv hx hb hr hlocks hP hS h dX3_describe_22
set_option maxHeartbeats 4000000 in
set_option maxRecDepth 100000 in
theorem c_Wo_tryChange (l : Launch) (D : va_G) (dA : Nat → ClassId) {z sz : Nat} {N : Nat} {o : Nat} (ho : o = 1 ∨ o = 24) {a0 : Int} (ra0 : q_R a0) {a1 : Int} (ra1 : q_R a1) {a2 : Int} (ra2 : q_R a2) {μ : q_M} {xo : Int} {μo : q_M} (h : f_Wo_tryChange N o a0 a1 a2 μ = some (xo, μo)) : Met l yX9_tryChange (q_wc yX9_tryChange cX9_tryChange 6 (some .int)) ({ frames := 2, cells := 0, slots := 0, locals := 48 } : Room) (va_Pc [.ref (z + o), .int (q_I a0), .int (q_I a1), .int (q_I a2)] (q_B (q_P D dA q_kdC q_rhoC 77 z sz μ) D dA)) (q_Q (some (.int (q_I xo))) (q_R xo) (q_P D dA q_kdC q_rhoC 77 z sz μo) (q_A z 77)) 0 0 (q_A z 77) := by
  refine Met.ofW (cc := cX9_tryChange) (maxL := 6) (ret := (some .int)) (by decide) rfl ?_
  intro p e s m args below meth c s₁ B hml hv
  obtain ⟨hargs, hP, hK⟩ := hv
  have hx := B.exec
  have hb := B.bytes
  have hr := B.returns
  have hts : ∀ w ∈ q_W, w.before args s = true := fun w hw => atoms_spec (ws := q_wc yX9_tryChange cX9_tryChange 6 (some .int)) B.pre w (List.mem_cons_of_mem _ hw)
  have hown : s.vm.findClass RX9 = some m.cls := findClass_of_methodNamed B.named
  have hlocks := B.notSynchronized
  have hS : va_S (q_A z 77) s.heap s.heap [] := va_S.rf
  have hA : ∀ k, k < 77 → q_A z 77 (z + k) := fun k hk => ⟨Nat.le_add_right z k, Nat.add_lt_add_left hk z⟩
  have hl := lv_entry [.ref (z + o), .int (q_I a0), .int (q_I a1), .int (q_I a2)] (n := 6) (Nat.le_of_ble_eq_true rfl)
  refine W.eq (by rw [hargs, lg_entry_eq]) ?_
  generalize (lg_sl [.ref (z + o), .int (q_I a0), .int (q_I a1), .int (q_I a2)] ++ List.replicate (6 - (lg_sl [.ref (z + o), .int (q_I a0), .int (q_I a1), .int (q_I a2)]).length) Slot.unset).toArray = ls at hl ⊢
  have hl : lv_has ls 6 [(0, .ref (z + o)), (1, .int (q_I a0)), (2, .int (q_I a1)), (3, .int (q_I a2))] := hl
  generalize hQ : MQ below _ args s 0 0 _ = Qf
  change W p l e ({ frames := 2, cells := 0, slots := 0, locals := 48 } : Room) s m args below meth c s.heap [] 0 0 Qf (F0 m 0 ls [])
  unfold f_Wo_tryChange at h
  refine lv_aload_n hx hb dX9_tryChange_0 rfl (lv_at hl 0 rfl) ?_
  refine q_getR hx hb hts hown hK hP fd_RX9_9 (q_ltW0 ho) (q_kdW_0 ho) rfl (q_rhW_0_1 ho) dX9_tryChange_1 ?_
  refine lv_iload_n hx hb dX9_tryChange_4 rfl (lv_at hl 1 rfl) ?_
  refine lv_iload_n hx hb dX9_tryChange_5 rfl (lv_at hl 2 rfl) ?_
  obtain ⟨x2, hv1, h⟩ := q_b_some h
  refine q_callN hx hb hml hts hown hK hP hS (As := [.int (q_I a0), .int (q_I a1)]) (rest := [.ref (z + (o + 1))]) (st1 := [.int (q_I x2), .ref (z + (o + 1))]) cn_RX9_97 (c_CR_slot l D dA ra0 ra1 hv1) ⟨rfl, rfl, Nat.le_of_ble_eq_true rfl, Nat.le_of_ble_eq_true rfl⟩ ⟨Nat.le_refl _, Nat.le_refl _⟩ rfl hl.1 rfl (Nat.le_of_ble_eq_true rfl) rfl (fun _ g => g) dX9_tryChange_6 ?_
  clear hP hS hv1; intro H locs r2 hP hS _
  refine q_iald hx hb hK hP (q_ltW ho rfl) (q_kdW_1 ho) r2 dX9_tryChange_9 h ?_
  clear h; intro x3 r3 h
  refine lv_iload_n hx hb dX9_tryChange_10 rfl (lv_at hl 3 rfl) ?_
  refine q_iadd hx hb dX9_tryChange_11 h ?_
  clear h; intro x4 r4 h
  refine lv_istore (lv' := [(4, .int (q_I x4)), (0, .ref (z + o)), (1, .int (q_I a0)), (2, .int (q_I a1)), (3, .int (q_I a2))]) hx hb dX9_tryChange_12 hl (by decide) rfl ?_
  clear hl; intro ls hl
  refine lv_iload hx hb dX9_tryChange_14 (lv_at hl 0 rfl) ?_
  refine lv_iconst (v := q_I 0) hx hb dX9_tryChange_16 rfl ?_
  refine lv_sipush (v := q_I 1000) hx hb dX9_tryChange_17 (by decide) ?_
  obtain ⟨x6, hv5, h⟩ := q_b_some h
  refine q_callN hx hb hml hts hown hK hP hS (As := [.int (q_I x4), .int (q_I 0), .int (q_I 1000)]) (rest := []) (st1 := [.int (q_I x6)]) cn_RX9_101 (c_CR_within l D dA r4 (q_r 0 rfl) (q_r 1000 rfl) hv5) ⟨rfl, rfl, Nat.le_of_ble_eq_true rfl, Nat.le_of_ble_eq_true rfl⟩ ⟨Nat.le_refl _, Nat.le_refl _⟩ rfl hl.1 rfl (Nat.le_of_ble_eq_true rfl) rfl (fun _ g => g) dX9_tryChange_20 ?_
  clear hP hS hv5; intro H locs r6 hP hS _
  refine q_zne hx hb r6 (tgt := 29) dX9_tryChange_23 (by decide) h ?_ ?_
  · clear h; intro g17 h
    refine lv_ldc hx hb hown (hts _ ck_RX9_105) dX9_tryChange_26 ?_
    rw [← hQ]
    exact q_ret2 hx hb hr hlocks hP hS (q_r (-100004) rfl) h dX9_tryChange_28
  · clear h; intro g17 h
    refine lv_aload_n hx hb dX9_tryChange_29 rfl (lv_at hl 1 rfl) ?_
    refine q_getR hx hb hts hown hK hP fd_RX9_24 (q_ltW0 ho) (q_kdW_0 ho) rfl (q_rhW_0_4 ho) dX9_tryChange_30 ?_
    refine q_getI hx hb hts hown hK hP fd_RX9_106 (q_ltW ho rfl) (q_kdW_4 ho) rfl dX9_tryChange_33 h ?_
    clear h; intro x7 r7 h
    refine lv_bipush (v := q_I 100) hx hb dX9_tryChange_36 (by decide) ?_
    refine q_clt hx hb r7 (q_r 100 rfl) (tgt := 44) dX9_tryChange_38 (by decide) h ?_ ?_
    · clear h; intro g16 h
      refine lv_aload_n hx hb dX9_tryChange_44 rfl (lv_at hl 1 rfl) ?_
      refine q_getR hx hb hts hown hK hP fd_RX9_9 (q_ltW0 ho) (q_kdW_0 ho) rfl (q_rhW_0_1 ho) dX9_tryChange_45 ?_
      refine lv_iload_n hx hb dX9_tryChange_48 rfl (lv_at hl 2 rfl) ?_
      refine lv_iload_n hx hb dX9_tryChange_49 rfl (lv_at hl 3 rfl) ?_
      obtain ⟨x9, hv8, h⟩ := q_b_some h
      refine q_callN hx hb hml hts hown hK hP hS (As := [.int (q_I a0), .int (q_I a1)]) (rest := [.ref (z + (o + 1))]) (st1 := [.int (q_I x9), .ref (z + (o + 1))]) cn_RX9_97 (c_CR_slot l D dA ra0 ra1 hv8) ⟨rfl, rfl, Nat.le_of_ble_eq_true rfl, Nat.le_of_ble_eq_true rfl⟩ ⟨Nat.le_refl _, Nat.le_refl _⟩ rfl hl.1 rfl (Nat.le_of_ble_eq_true rfl) rfl (fun _ g => g) dX9_tryChange_50 ?_
      clear hP hS hv8; intro H locs r9 hP hS _
      refine lv_iload hx hb dX9_tryChange_53 (lv_at hl 0 rfl) ?_
      refine q_iast hx hb hK hP hS hA (q_ltW ho rfl) (q_kdW_1 ho) r9 r4 dX9_tryChange_55 h ?_
      clear h hP hS; intro μ10 H locs hP hS h
      refine lv_aload_n hx hb dX9_tryChange_56 rfl (lv_at hl 1 rfl) ?_
      refine q_getR hx hb hts hown hK hP fd_RX9_24 (q_ltW0 ho) (q_kdW_0 ho) rfl (q_rhW_0_4 ho) dX9_tryChange_57 ?_
      refine lv_iload_n hx hb dX9_tryChange_60 rfl (lv_at hl 2 rfl) ?_
      refine lv_iconst (v := q_I 0) hx hb dX9_tryChange_61 rfl ?_
      refine lv_iconst (v := q_I (-1)) hx hb dX9_tryChange_62 rfl ?_
      obtain ⟨x12, μ13, hv11, h⟩ := q_b2_some h
      refine q_callV hx hb hml hts hown hK hP hS (As := [.int (q_I a0), .int (q_I 0), .int (q_I ((-1)))]) (rest := []) (st1 := [.int (q_I x12)]) cv_RX9_108 (c_Hi_add l D dA (by omega) ra0 (q_r 0 rfl) (q_r (-1) rfl) hv11) (q_ltW ho rfl) (q_kdW_4 ho) rfl ⟨rfl, rfl, Nat.le_of_ble_eq_true rfl, Nat.le_of_ble_eq_true rfl⟩ ⟨Nat.le_refl _, Nat.le_refl _⟩ rfl hl.1 rfl (Nat.le_of_ble_eq_true rfl) rfl (fun _ g => g) dX9_tryChange_63 ?_
      clear hP hS hv11; intro H locs r12 hP hS _
      refine lv_istore (lv' := [(5, .int (q_I x12)), (4, .int (q_I x4)), (0, .ref (z + o)), (1, .int (q_I a0)), (2, .int (q_I a1)), (3, .int (q_I a2))]) hx hb dX9_tryChange_66 hl (by decide) rfl ?_
      clear hl; intro ls hl
      refine lv_aload_n hx hb dX9_tryChange_68 rfl (lv_at hl 2 rfl) ?_
      refine q_getR hx hb hts hown hK hP fd_RX9_24 (q_ltW0 ho) (q_kdW_0 ho) rfl (q_rhW_0_4 ho) dX9_tryChange_69 ?_
      refine lv_iload hx hb dX9_tryChange_72 (lv_at hl 0 rfl) ?_
      refine lv_iload_n hx hb dX9_tryChange_74 rfl (lv_at hl 4 rfl) ?_
      refine lv_iload_n hx hb dX9_tryChange_75 rfl (lv_at hl 5 rfl) ?_
      refine lv_ldc hx hb hown (hts _ ck_RX9_112) dX9_tryChange_76 ?_
      obtain ⟨μ15, hv14, h⟩ := q_b_some h
      refine q_callV hx hb hml hts hown hK hP hS (As := [.int (q_I x12), .int (q_I a1), .int (q_I a2), .int (q_I ((-100006)))]) (rest := []) (st1 := []) cv_RX9_113 (c_Hi_describe l D dA (by omega) r12 ra1 ra2 (q_r (-100006) rfl) hv14) (q_ltW ho rfl) (q_kdW_4 ho) rfl ⟨rfl, rfl, Nat.le_of_ble_eq_true rfl, Nat.le_of_ble_eq_true rfl⟩ ⟨Nat.le_refl _, Nat.le_refl _⟩ rfl hl.1 rfl (Nat.le_of_ble_eq_true rfl) rfl (fun _ g => g) dX9_tryChange_78 ?_
      clear hP hS hv14; intro H locs _ hP hS _
      refine lv_iload hx hb dX9_tryChange_81 (lv_at hl 0 rfl) ?_
      rw [← hQ]
      exact q_ret2 hx hb hr hlocks hP hS r12 h dX9_tryChange_83
    · clear h; intro g16 h
      refine lv_ldc hx hb hown (hts _ ck_RX9_107) dX9_tryChange_41 ?_
      rw [← hQ]
      exact q_ret2 hx hb hr hlocks hP hS (q_r (-100005) rfl) h dX9_tryChange_43
set_option maxHeartbeats 4000000 in
set_option maxRecDepth 100000 in
theorem c_CR_change (l : Launch) (D : va_G) (dA : Nat → ClassId) {z sz : Nat} {N : Nat} {a0 : Int} (ra0 : q_R a0) {a1 : Int} (ra1 : q_R a1) {a2 : Int} (ra2 : q_R a2) {μ : q_M} {xo : Int} {μo : q_M} (h : f_CR_change N a0 a1 a2 μ = some (xo, μo)) : Met l yX10_change (q_wc yX10_change cX10_change 4 (some .int)) ({ frames := 3, cells := 0, slots := 0, locals := 73 } : Room) (va_Pc [.ref (z + 0), .int (q_I a0), .int (q_I a1), .int (q_I a2)] (q_B (q_P D dA q_kdC q_rhoC 77 z sz μ) D dA)) (q_Q (some (.int (q_I xo))) (q_R xo) (q_P D dA q_kdC q_rhoC 77 z sz μo) (q_A z 77)) 0 0 (q_A z 77) := by
  refine Met.ofW (cc := cX10_change) (maxL := 4) (ret := (some .int)) (by decide) rfl ?_
  intro p e s m args below meth c s₁ B hml hv
  obtain ⟨hargs, hP, hK⟩ := hv
  have hx := B.exec
  have hb := B.bytes
  have hr := B.returns
  have hts : ∀ w ∈ q_W, w.before args s = true := fun w hw => atoms_spec (ws := q_wc yX10_change cX10_change 4 (some .int)) B.pre w (List.mem_cons_of_mem _ hw)
  have hown : s.vm.findClass RX10 = some m.cls := findClass_of_methodNamed B.named
  have hlocks := B.notSynchronized
  have hS : va_S (q_A z 77) s.heap s.heap [] := va_S.rf
  have hA : ∀ k, k < 77 → q_A z 77 (z + k) := fun k hk => ⟨Nat.le_add_right z k, Nat.add_lt_add_left hk z⟩
  have hl := lv_entry [.ref (z + 0), .int (q_I a0), .int (q_I a1), .int (q_I a2)] (n := 4) (Nat.le_of_ble_eq_true rfl)
  refine W.eq (by rw [hargs, lg_entry_eq]) ?_
  generalize (lg_sl [.ref (z + 0), .int (q_I a0), .int (q_I a1), .int (q_I a2)] ++ List.replicate (4 - (lg_sl [.ref (z + 0), .int (q_I a0), .int (q_I a1), .int (q_I a2)]).length) Slot.unset).toArray = ls at hl ⊢
  have hl : lv_has ls 4 [(0, .ref (z + 0)), (1, .int (q_I a0)), (2, .int (q_I a1)), (3, .int (q_I a2))] := hl
  generalize hQ : MQ below _ args s 0 0 _ = Qf
  change W p l e ({ frames := 3, cells := 0, slots := 0, locals := 73 } : Room) s m args below meth c s.heap [] 0 0 Qf (F0 m 0 ls [])
  unfold f_CR_change at h
  refine lv_aload_n hx hb dX10_change_0 rfl (lv_at hl 0 rfl) ?_
  refine lv_iload_n hx hb dX10_change_1 rfl (lv_at hl 1 rfl) ?_
  obtain ⟨x2, hv1, h⟩ := q_b_some h
  refine q_callV hx hb hml hts hown hK hP hS (As := [.int (q_I a0)]) (rest := []) (st1 := [.int (q_I x2)]) cv_RX10_67 (c_CR_isProcess l D dA ra0 hv1) (Nat.le_of_ble_eq_true rfl) q_kdC_0 rfl ⟨rfl, rfl, Nat.le_of_ble_eq_true rfl, Nat.le_of_ble_eq_true rfl⟩ ⟨Nat.le_refl _, Nat.le_refl _⟩ rfl hl.1 rfl (Nat.le_of_ble_eq_true rfl) rfl (fun _ g => g) dX10_change_2 ?_
  clear hP hS hv1; intro H locs r2 hP hS _
  refine q_jn_in h (fun J => ∀ (H : Heap) (locs : List Loc) (ls : Array Slot), q_P D dA q_kdC q_rhoC 77 z sz μ H → va_S (q_A z 77) s.heap H locs → lv_has ls 4 [] → J = some (xo, μo) → W p l e ({ frames := 3, cells := 0, slots := 0, locals := 73 } : Room) s m args below meth c H locs 0 0 Qf (F0 m 15 ls [])) ?_ ?_
  · clear h hl hP hS; intro  H locs ls  hP hS hl h
    refine lv_ldc hx hb hown (hts _ ck_RX10_74) dX10_change_15 ?_
    rw [← hQ]
    exact q_ret2 hx hb hr hlocks hP hS (q_r (-100001) rfl) h dX10_change_17
  · clear h; intro j15 hj15 h
    refine q_zeq hx hb r2 (tgt := 15) dX10_change_5 (by decide) h ?_ ?_
    · clear h; intro g13 h
      exact hj15  _ _ _ hP hS (lv_sub hl [] rfl) h
    · clear h; intro g13 h
      refine lv_iload_n hx hb dX10_change_8 rfl (lv_at hl 2 rfl) ?_
      obtain ⟨x4, hv3, h⟩ := q_b_some h
      refine q_callS hx hb hml hts hown hK hP hS (As := [.int (q_I a1)]) (rest := []) (st1 := [.int (q_I x4)]) cs_RX10_71 (c_CR_isStock l D dA ra1 hv3) ⟨rfl, rfl, Nat.le_of_ble_eq_true rfl, Nat.le_of_ble_eq_true rfl⟩ ⟨Nat.le_refl _, Nat.le_refl _⟩ rfl hl.1 rfl (Nat.le_of_ble_eq_true rfl) rfl (fun _ g => g) dX10_change_9 ?_
      clear hP hS hv3; intro H locs r4 hP hS _
      refine q_zne hx hb r4 (tgt := 18) dX10_change_12 (by decide) h ?_ ?_
      · clear h; intro g12 h
        exact hj15  _ _ _ hP hS (lv_sub hl [] rfl) h
      · clear h; intro g12 h
        refine lv_iload_n hx hb dX10_change_18 rfl (lv_at hl 3 rfl) ?_
        refine lv_bipush (v := q_I (-100)) hx hb dX10_change_19 (by decide) ?_
        refine lv_bipush (v := q_I 100) hx hb dX10_change_21 (by decide) ?_
        obtain ⟨x6, hv5, h⟩ := q_b_some h
        refine q_callS hx hb hml hts hown hK hP hS (As := [.int (q_I a2), .int (q_I ((-100))), .int (q_I 100)]) (rest := []) (st1 := [.int (q_I x6)]) cs_RX10_58 (c_CR_within l D dA ra2 (q_r (-100) rfl) (q_r 100 rfl) hv5) ⟨rfl, rfl, Nat.le_of_ble_eq_true rfl, Nat.le_of_ble_eq_true rfl⟩ ⟨Nat.le_refl _, Nat.le_refl _⟩ rfl hl.1 rfl (Nat.le_of_ble_eq_true rfl) rfl (fun _ g => g) dX10_change_23 ?_
        clear hP hS hv5; intro H locs r6 hP hS _
        refine q_jn_in h (fun J => ∀ (H : Heap) (locs : List Loc) (ls : Array Slot), q_P D dA q_kdC q_rhoC 77 z sz μ H → va_S (q_A z 77) s.heap H locs → lv_has ls 4 [] → J = some (xo, μo) → W p l e ({ frames := 3, cells := 0, slots := 0, locals := 73 } : Room) s m args below meth c H locs 0 0 Qf (F0 m 33 ls [])) ?_ ?_
        · clear h hl hP hS; intro  H locs ls  hP hS hl h
          refine lv_ldc hx hb hown (hts _ ck_RX10_62) dX10_change_33 ?_
          rw [← hQ]
          exact q_ret2 hx hb hr hlocks hP hS (q_r (-100002) rfl) h dX10_change_35
        · clear h; intro j33 hj33 h
          refine q_zeq hx hb r6 (tgt := 33) dX10_change_26 (by decide) h ?_ ?_
          · clear h; intro g11 h
            exact hj33  _ _ _ hP hS (lv_sub hl [] rfl) h
          · clear h; intro g11 h
            refine lv_iload_n hx hb dX10_change_29 rfl (lv_at hl 3 rfl) ?_
            refine q_zne hx hb ra2 (tgt := 36) dX10_change_30 (by decide) h ?_ ?_
            · clear h; intro g10 h
              exact hj33  _ _ _ hP hS (lv_sub hl [] rfl) h
            · clear h; intro g10 h
              refine lv_aload_n hx hb dX10_change_36 rfl (lv_at hl 0 rfl) ?_
              refine q_getR hx hb hts hown hK hP fd_RX10_10 (Nat.le_of_ble_eq_true rfl) q_kdC_0 rfl q_rhC_0_0 dX10_change_37 ?_
              refine lv_iload_n hx hb dX10_change_40 rfl (lv_at hl 1 rfl) ?_
              refine lv_iload_n hx hb dX10_change_41 rfl (lv_at hl 2 rfl) ?_
              refine lv_iload_n hx hb dX10_change_42 rfl (lv_at hl 3 rfl) ?_
              obtain ⟨x8, μ9, hv7, h⟩ := q_b2_some h
              refine q_callV hx hb hml hts hown hK hP hS (As := [.int (q_I a0), .int (q_I a1), .int (q_I a2)]) (rest := []) (st1 := [.int (q_I x8)]) cv_RX10_96 (c_Wo_tryChange l D dA (Or.inl rfl) ra0 ra1 ra2 hv7) (Nat.le_of_ble_eq_true rfl) q_kdC_1 rfl ⟨rfl, rfl, Nat.le_of_ble_eq_true rfl, Nat.le_of_ble_eq_true rfl⟩ ⟨Nat.le_refl _, Nat.le_refl _⟩ rfl hl.1 rfl (Nat.le_of_ble_eq_true rfl) rfl (fun _ g => g) dX10_change_43 ?_
              clear hP hS hv7; intro H locs r8 hP hS _
              rw [← hQ]
              exact q_ret2 hx hb hr hlocks hP hS r8 h dX10_change_46
set_option maxHeartbeats 4000000 in
set_option maxRecDepth 100000 in
theorem c_CR_isPair (l : Launch) (D : va_G) (dA : Nat → ClassId) {z sz : Nat} {a0 : Int} (ra0 : q_R a0) {a1 : Int} (ra1 : q_R a1) {μ : q_M} {xo : Int} (h : f_CR_isPair a0 a1 μ = some xo) : Met l yX10_isPair (q_wc yX10_isPair cX10_isPair 3 (some .boolean)) ({ frames := 2, cells := 0, slots := 0, locals := 43 } : Room) (va_Pc [.ref (z + 0), .int (q_I a0), .int (q_I a1)] (q_B (q_P D dA q_kdC q_rhoC 77 z sz μ) D dA)) (q_Q (some (.int (q_I xo))) (q_R xo) (q_P D dA q_kdC q_rhoC 77 z sz μ) (q_A z 77)) 0 0 (q_A z 77) := by
  refine Met.ofW (cc := cX10_isPair) (maxL := 3) (ret := (some .boolean)) (by decide) rfl ?_
  intro p e s m args below meth c s₁ B hml hv
  obtain ⟨hargs, hP, hK⟩ := hv
  have hx := B.exec
  have hb := B.bytes
  have hr := B.returns
  have hts : ∀ w ∈ q_W, w.before args s = true := fun w hw => atoms_spec (ws := q_wc yX10_isPair cX10_isPair 3 (some .boolean)) B.pre w (List.mem_cons_of_mem _ hw)
  have hown : s.vm.findClass RX10 = some m.cls := findClass_of_methodNamed B.named
  have hlocks := B.notSynchronized
  have hS : va_S (q_A z 77) s.heap s.heap [] := va_S.rf
  have hA : ∀ k, k < 77 → q_A z 77 (z + k) := fun k hk => ⟨Nat.le_add_right z k, Nat.add_lt_add_left hk z⟩
  have hl := lv_entry [.ref (z + 0), .int (q_I a0), .int (q_I a1)] (n := 3) (Nat.le_of_ble_eq_true rfl)
  refine W.eq (by rw [hargs, lg_entry_eq]) ?_
  generalize (lg_sl [.ref (z + 0), .int (q_I a0), .int (q_I a1)] ++ List.replicate (3 - (lg_sl [.ref (z + 0), .int (q_I a0), .int (q_I a1)]).length) Slot.unset).toArray = ls at hl ⊢
  have hl : lv_has ls 3 [(0, .ref (z + 0)), (1, .int (q_I a0)), (2, .int (q_I a1))] := hl
  generalize hQ : MQ below _ args s 0 0 _ = Qf
  change W p l e ({ frames := 2, cells := 0, slots := 0, locals := 43 } : Room) s m args below meth c s.heap [] 0 0 Qf (F0 m 0 ls [])
  unfold f_CR_isPair at h
  refine lv_aload_n hx hb dX10_isPair_0 rfl (lv_at hl 0 rfl) ?_
  refine lv_iload_n hx hb dX10_isPair_1 rfl (lv_at hl 1 rfl) ?_
  obtain ⟨x2, hv1, h⟩ := q_b_some h
  refine q_callV hx hb hml hts hown hK hP hS (As := [.int (q_I a0)]) (rest := []) (st1 := [.int (q_I x2)]) cv_RX10_67 (c_CR_isProcess l D dA ra0 hv1) (Nat.le_of_ble_eq_true rfl) q_kdC_0 rfl ⟨rfl, rfl, Nat.le_of_ble_eq_true rfl, Nat.le_of_ble_eq_true rfl⟩ ⟨Nat.le_refl _, Nat.le_refl _⟩ rfl hl.1 rfl (Nat.le_of_ble_eq_true rfl) rfl (fun _ g => g) dX10_isPair_2 ?_
  clear hP hS hv1; intro H locs r2 hP hS _
  refine q_jn_in h (fun J => ∀ (x3 : Int) (H : Heap) (locs : List Loc) (ls : Array Slot), q_R x3 → q_P D dA q_kdC q_rhoC 77 z sz μ H → va_S (q_A z 77) s.heap H locs → lv_has ls 3 [] → J x3 = some xo → W p l e ({ frames := 2, cells := 0, slots := 0, locals := 43 } : Room) s m args below meth c H locs 0 0 Qf (F0 m 26 ls [.int (q_I x3)])) ?_ ?_
  · clear h hl hP hS; intro x3 H locs ls r3 hP hS hl h
    rw [← hQ]
    obtain ⟨hz, h⟩ := q_rz_some h
    exact q_retz1 hx hb hr hlocks hP hS hz h dX10_isPair_26
  · clear h; intro j26 hj26 h
    refine q_jn_in h (fun J => ∀ (H : Heap) (locs : List Loc) (ls : Array Slot), q_P D dA q_kdC q_rhoC 77 z sz μ H → va_S (q_A z 77) s.heap H locs → lv_has ls 3 [] → J = some xo → W p l e ({ frames := 2, cells := 0, slots := 0, locals := 43 } : Room) s m args below meth c H locs 0 0 Qf (F0 m 25 ls [])) ?_ ?_
    · clear h hl hP hS; intro  H locs ls  hP hS hl h
      refine lv_iconst (v := q_I 0) hx hb dX10_isPair_25 rfl ?_
      exact hj26 0 _ _ _ (q_r 0 rfl) hP hS (lv_sub hl [] rfl) h
    · clear h; intro j25 hj25 h
      refine q_zeq hx hb r2 (tgt := 25) dX10_isPair_5 (by decide) h ?_ ?_
      · clear h; intro g8 h
        exact hj25  _ _ _ hP hS (lv_sub hl [] rfl) h
      · clear h; intro g8 h
        refine lv_aload_n hx hb dX10_isPair_8 rfl (lv_at hl 0 rfl) ?_
        refine lv_iload_n hx hb dX10_isPair_9 rfl (lv_at hl 2 rfl) ?_
        obtain ⟨x5, hv4, h⟩ := q_b_some h
        refine q_callV hx hb hml hts hown hK hP hS (As := [.int (q_I a1)]) (rest := []) (st1 := [.int (q_I x5)]) cv_RX10_67 (c_CR_isProcess l D dA ra1 hv4) (Nat.le_of_ble_eq_true rfl) q_kdC_0 rfl ⟨rfl, rfl, Nat.le_of_ble_eq_true rfl, Nat.le_of_ble_eq_true rfl⟩ ⟨Nat.le_refl _, Nat.le_refl _⟩ rfl hl.1 rfl (Nat.le_of_ble_eq_true rfl) rfl (fun _ g => g) dX10_isPair_10 ?_
        clear hP hS hv4; intro H locs r5 hP hS _
        refine q_zeq hx hb r5 (tgt := 25) dX10_isPair_13 (by decide) h ?_ ?_
        · clear h; intro g7 h
          exact hj25  _ _ _ hP hS (lv_sub hl [] rfl) h
        · clear h; intro g7 h
          refine lv_iload_n hx hb dX10_isPair_16 rfl (lv_at hl 1 rfl) ?_
          refine lv_iload_n hx hb dX10_isPair_17 rfl (lv_at hl 2 rfl) ?_
          refine q_ceq hx hb ra0 ra1 (tgt := 25) dX10_isPair_18 (by decide) h ?_ ?_
          · clear h; intro g6 h
            exact hj25  _ _ _ hP hS (lv_sub hl [] rfl) h
          · clear h; intro g6 h
            refine lv_iconst (v := q_I 1) hx hb dX10_isPair_21 rfl ?_
            refine lv_goto (tgt := 26) hx hb dX10_isPair_22 (by decide) ?_
            exact hj26 1 _ _ _ (q_r 1 rfl) hP hS (lv_sub hl [] rfl) h
set_option maxHeartbeats 4000000 in
set_option maxRecDepth 100000 in
theorem c_CR_channelOf (l : Launch) (D : va_G) (dA : Nat → ClassId) {z sz : Nat} {a0 : Int} (ra0 : q_R a0) {a1 : Int} (ra1 : q_R a1) {μ : q_M} {xo : Int} (h : f_CR_channelOf a0 a1 μ = some xo) : Met l yX10_channelOf (q_wc yX10_channelOf cX10_channelOf 2 (some .int)) ({ frames := 0, cells := 0, slots := 0, locals := 0 } : Room) (va_Pc [.int (q_I a0), .int (q_I a1)] (q_B (q_P D dA q_kdC q_rhoC 77 z sz μ) D dA)) (q_Q (some (.int (q_I xo))) (q_R xo) (q_P D dA q_kdC q_rhoC 77 z sz μ) (q_A z 77)) 0 0 (q_A z 77) := by
  refine Met.ofW (cc := cX10_channelOf) (maxL := 2) (ret := (some .int)) (by decide) rfl ?_
  intro p e s m args below meth c s₁ B hml hv
  obtain ⟨hargs, hP, hK⟩ := hv
  have hx := B.exec
  have hb := B.bytes
  have hr := B.returns
  have hts : ∀ w ∈ q_W, w.before args s = true := fun w hw => atoms_spec (ws := q_wc yX10_channelOf cX10_channelOf 2 (some .int)) B.pre w (List.mem_cons_of_mem _ hw)
  have hown : s.vm.findClass RX10 = some m.cls := findClass_of_methodNamed B.named
  have hlocks := B.notSynchronized
  have hS : va_S (q_A z 77) s.heap s.heap [] := va_S.rf
  have hA : ∀ k, k < 77 → q_A z 77 (z + k) := fun k hk => ⟨Nat.le_add_right z k, Nat.add_lt_add_left hk z⟩
  have hl := lv_entry [.int (q_I a0), .int (q_I a1)] (n := 2) (Nat.le_of_ble_eq_true rfl)
  refine W.eq (by rw [hargs, lg_entry_eq]) ?_
  generalize (lg_sl [.int (q_I a0), .int (q_I a1)] ++ List.replicate (2 - (lg_sl [.int (q_I a0), .int (q_I a1)]).length) Slot.unset).toArray = ls at hl ⊢
  have hl : lv_has ls 2 [(0, .int (q_I a0)), (1, .int (q_I a1))] := hl
  generalize hQ : MQ below _ args s 0 0 _ = Qf
  change W p l e ({ frames := 0, cells := 0, slots := 0, locals := 0 } : Room) s m args below meth c s.heap [] 0 0 Qf (F0 m 0 ls [])
  unfold f_CR_channelOf at h
  refine lv_iload_n hx hb dX10_channelOf_0 rfl (lv_at hl 0 rfl) ?_
  refine lv_iconst (v := q_I 5) hx hb dX10_channelOf_1 rfl ?_
  refine q_imul hx hb dX10_channelOf_2 h ?_
  clear h; intro x1 r1 h
  refine lv_iload_n hx hb dX10_channelOf_3 rfl (lv_at hl 1 rfl) ?_
  refine q_iadd hx hb dX10_channelOf_4 h ?_
  clear h; intro x2 r2 h
  rw [← hQ]
  exact q_ret1 hx hb hr hlocks hP hS r2 h dX10_channelOf_5
set_option maxHeartbeats 4000000 in
set_option maxRecDepth 100000 in
theorem c_Ch_waitingAhead (l : Launch) (D : va_G) (dA : Nat → ClassId) {z sz : Nat} {N : Nat} {o : Nat} (ho : o = 15 ∨ o = 38) {a0 : Int} (ra0 : q_R a0) {a1 : Int} (ra1 : q_R a1) {μ : q_M} {xo : Int} (h : f_Ch_waitingAhead N o a0 a1 μ = some xo) : Met l yX0_waitingAhead (q_wc yX0_waitingAhead cX0_waitingAhead 5 (some .int)) ({ frames := 0, cells := 0, slots := 0, locals := 0 } : Room) (va_Pc [.ref (z + o), .int (q_I a0), .int (q_I a1)] (q_B (q_P D dA q_kdC q_rhoC 77 z sz μ) D dA)) (q_Q (some (.int (q_I xo))) (q_R xo) (q_P D dA q_kdC q_rhoC 77 z sz μ) (q_A z 77)) 0 0 (q_A z 77) := by
  refine Met.ofW (cc := cX0_waitingAhead) (maxL := 5) (ret := (some .int)) (by decide) rfl ?_
  intro p e s m args below meth c s₁ B hml hv
  obtain ⟨hargs, hP, hK⟩ := hv
  have hx := B.exec
  have hb := B.bytes
  have hr := B.returns
  have hts : ∀ w ∈ q_W, w.before args s = true := fun w hw => atoms_spec (ws := q_wc yX0_waitingAhead cX0_waitingAhead 5 (some .int)) B.pre w (List.mem_cons_of_mem _ hw)
  have hown : s.vm.findClass RX0 = some m.cls := findClass_of_methodNamed B.named
  have hlocks := B.notSynchronized
  have hS : va_S (q_A z 77) s.heap s.heap [] := va_S.rf
  have hA : ∀ k, k < 77 → q_A z 77 (z + k) := fun k hk => ⟨Nat.le_add_right z k, Nat.add_lt_add_left hk z⟩
  have hl := lv_entry [.ref (z + o), .int (q_I a0), .int (q_I a1)] (n := 5) (Nat.le_of_ble_eq_true rfl)
  refine W.eq (by rw [hargs, lg_entry_eq]) ?_
  generalize (lg_sl [.ref (z + o), .int (q_I a0), .int (q_I a1)] ++ List.replicate (5 - (lg_sl [.ref (z + o), .int (q_I a0), .int (q_I a1)]).length) Slot.unset).toArray = ls at hl ⊢
  have hl : lv_has ls 5 [(0, .ref (z + o)), (1, .int (q_I a0)), (2, .int (q_I a1))] := hl
  generalize hQ : MQ below _ args s 0 0 _ = Qf
  change W p l e ({ frames := 0, cells := 0, slots := 0, locals := 0 } : Room) s m args below meth c s.heap [] 0 0 Qf (F0 m 0 ls [])
  unfold f_Ch_waitingAhead at h
  refine lv_iconst (v := q_I 0) hx hb dX0_waitingAhead_0 rfl ?_
  refine lv_istore_n (lv' := [(3, .int (q_I 0)), (0, .ref (z + o)), (1, .int (q_I a0)), (2, .int (q_I a1))]) hx hb dX0_waitingAhead_1 rfl hl (by decide) rfl ?_
  clear hl; intro ls hl
  refine lv_iconst (v := q_I 0) hx hb dX0_waitingAhead_2 rfl ?_
  refine lv_istore (lv' := [(4, .int (q_I 0)), (3, .int (q_I 0)), (0, .ref (z + o)), (1, .int (q_I a0)), (2, .int (q_I a1))]) hx hb dX0_waitingAhead_3 hl (by decide) rfl ?_
  clear hl; intro ls hl
  have L5 : ∀ (k42 : Int → Option Int), (∀ (x3 : Int) (H : Heap) (locs : List Loc) (ls : Array Slot), q_R x3 → q_P D dA q_kdC q_rhoC 77 z sz μ H → va_S (q_A z 77) s.heap H locs → lv_has ls 5 [(3, .int (q_I x3))] → k42 x3 = some xo → W p l e ({ frames := 0, cells := 0, slots := 0, locals := 0 } : Room) s m args below meth c H locs 0 0 Qf (F0 m 42 ls [])) → ∀ (nf5 : Nat) (x1 : Int) (x2 : Int) (H : Heap) (locs : List Loc) (ls : Array Slot), q_R x1 → q_R x2 → q_P D dA q_kdC q_rhoC 77 z sz μ H → va_S (q_A z 77) s.heap H locs → lv_has ls 5 [(0, .ref (z + o)), (1, .int (q_I a0)), (2, .int (q_I a1)), (3, .int (q_I x1)), (4, .int (q_I x2))] → f_Ch_waitingAhead_L5 o a0 a1 μ k42 nf5 x1 x2 = some xo → W p l e ({ frames := 0, cells := 0, slots := 0, locals := 0 } : Room) s m args below meth c H locs 0 0 Qf (F0 m 5 ls []) := by
    clear h hl hP hS
    intro k42 hk42 nf5
    induction nf5 with
    | zero =>
      intro x1 x2 H locs ls r1 r2 hP hS hl h
      rw [f_Ch_waitingAhead_L5] at h
      cases h
    | succ nf5 ih5 =>
      intro x1 x2 H locs ls r1 r2 hP hS hl h
      rw [f_Ch_waitingAhead_L5] at h
      refine lv_iload hx hb dX0_waitingAhead_5 (lv_at hl 4 rfl) ?_
      refine lv_iload_n hx hb dX0_waitingAhead_7 rfl (lv_at hl 2 rfl) ?_
      refine q_cge hx hb r2 ra1 (tgt := 42) dX0_waitingAhead_8 (by decide) h ?_ ?_
      · clear h; intro g11 h
        exact hk42 x1 _ _ _ r1 hP hS (lv_sub hl [3] rfl) h
      · clear h; intro g11 h
        refine lv_aload_n hx hb dX0_waitingAhead_11 rfl (lv_at hl 0 rfl) ?_
        refine q_getR hx hb hts hown hK hP fd_RX0_9 (q_ltK0 ho) (q_kdK_0 ho) rfl (q_rhK_0_1 ho) dX0_waitingAhead_12 ?_
        refine lv_iload hx hb dX0_waitingAhead_15 (lv_at hl 4 rfl) ?_
        refine q_iald hx hb hK hP (q_ltK ho rfl) (q_kdK_1 ho) r2 dX0_waitingAhead_17 h ?_
        clear h; intro x4 r4 h
        refine lv_iload_n hx hb dX0_waitingAhead_18 rfl (lv_at hl 1 rfl) ?_
        refine q_jn_in h (fun J => ∀ (x5 : Int) (H : Heap) (locs : List Loc) (ls : Array Slot), q_R x5 → q_P D dA q_kdC q_rhoC 77 z sz μ H → va_S (q_A z 77) s.heap H locs → lv_has ls 5 [(0, .ref (z + o)), (1, .int (q_I a0)), (2, .int (q_I a1)), (3, .int (q_I x5)), (4, .int (q_I x2))] → J x5 = some xo → W p l e ({ frames := 0, cells := 0, slots := 0, locals := 0 } : Room) s m args below meth c H locs 0 0 Qf (F0 m 36 ls [])) ?_ ?_
        · clear h hl hP hS; intro x5 H locs ls r5 hP hS hl h
          refine q_iinc (k := 4) (lv' := fun t => [(4, .int (q_I t)), (0, .ref (z + o)), (1, .int (q_I a0)), (2, .int (q_I a1)), (3, .int (q_I x5))]) hx hb dX0_waitingAhead_36 hl rfl (by decide) (fun _ => rfl) h ?_
          clear h hl; intro x6 ls r6 hl h
          refine lv_goto (tgt := 5) hx hb dX0_waitingAhead_39 (by decide) ?_
          exact ih5 x5 x6 _ _ _ r5 r6 hP hS (lv_sub hl [1, 2, 3, 4, 0] rfl) h
        · clear h; intro j36 hj36 h
          refine q_cne hx hb r4 ra0 (tgt := 36) dX0_waitingAhead_19 (by decide) h ?_ ?_
          · clear h; intro g10 h
            refine lv_aload_n hx hb dX0_waitingAhead_22 rfl (lv_at hl 0 rfl) ?_
            refine q_getR hx hb hts hown hK hP fd_RX0_24 (q_ltK0 ho) (q_kdK_0 ho) rfl (q_rhK_0_5 ho) dX0_waitingAhead_23 ?_
            refine lv_iload hx hb dX0_waitingAhead_26 (lv_at hl 4 rfl) ?_
            refine q_iald hx hb hK hP (q_ltK ho rfl) (q_kdK_5 ho) r2 dX0_waitingAhead_28 h ?_
            clear h; intro x7 r7 h
            refine lv_iconst (v := q_I (-1)) hx hb dX0_waitingAhead_29 rfl ?_
            refine q_cne hx hb r7 (q_r (-1) rfl) (tgt := 36) dX0_waitingAhead_30 (by decide) h ?_ ?_
            · clear h; intro g9 h
              refine q_iinc (k := 3) (lv' := fun t => [(3, .int (q_I t)), (0, .ref (z + o)), (1, .int (q_I a0)), (2, .int (q_I a1)), (4, .int (q_I x2))]) hx hb dX0_waitingAhead_33 hl rfl (by decide) (fun _ => rfl) h ?_
              clear h hl; intro x8 ls r8 hl h
              exact hj36 x8 _ _ _ r8 hP hS (lv_sub hl [1, 2, 3, 0, 4] rfl) h
            · clear h; intro g9 h
              exact hj36 x1 _ _ _ r1 hP hS (lv_sub hl [0, 1, 2, 3, 4] rfl) h
          · clear h; intro g10 h
            exact hj36 x1 _ _ _ r1 hP hS (lv_sub hl [0, 1, 2, 3, 4] rfl) h
  refine L5 _ ?_  _ 0 0 _ _ _ (q_r 0 rfl) (q_r 0 rfl) hP hS (lv_sub hl [2, 3, 4, 1, 0] rfl) h
  · clear h hl hP hS; intro x3 H locs ls r3 hP hS hl h
    refine lv_iload_n hx hb dX0_waitingAhead_42 rfl (lv_at hl 0 rfl) ?_
    rw [← hQ]
    exact q_ret1 hx hb hr hlocks hP hS r3 h dX0_waitingAhead_43
set_option maxHeartbeats 4000000 in
set_option maxRecDepth 100000 in
theorem c_Ch_waitingIn (l : Launch) (D : va_G) (dA : Nat → ClassId) {z sz : Nat} {N : Nat} {o : Nat} (ho : o = 15 ∨ o = 38) {a0 : Int} (ra0 : q_R a0) {μ : q_M} {xo : Int} (h : f_Ch_waitingIn N o a0 μ = some xo) : Met l yX0_waitingIn (q_wc yX0_waitingIn cX0_waitingIn 2 (some .int)) ({ frames := 1, cells := 0, slots := 0, locals := 24 } : Room) (va_Pc [.ref (z + o), .int (q_I a0)] (q_B (q_P D dA q_kdC q_rhoC 77 z sz μ) D dA)) (q_Q (some (.int (q_I xo))) (q_R xo) (q_P D dA q_kdC q_rhoC 77 z sz μ) (q_A z 77)) 0 0 (q_A z 77) := by
  refine Met.ofW (cc := cX0_waitingIn) (maxL := 2) (ret := (some .int)) (by decide) rfl ?_
  intro p e s m args below meth c s₁ B hml hv
  obtain ⟨hargs, hP, hK⟩ := hv
  have hx := B.exec
  have hb := B.bytes
  have hr := B.returns
  have hts : ∀ w ∈ q_W, w.before args s = true := fun w hw => atoms_spec (ws := q_wc yX0_waitingIn cX0_waitingIn 2 (some .int)) B.pre w (List.mem_cons_of_mem _ hw)
  have hown : s.vm.findClass RX0 = some m.cls := findClass_of_methodNamed B.named
  have hlocks := B.notSynchronized
  have hS : va_S (q_A z 77) s.heap s.heap [] := va_S.rf
  have hA : ∀ k, k < 77 → q_A z 77 (z + k) := fun k hk => ⟨Nat.le_add_right z k, Nat.add_lt_add_left hk z⟩
  have hl := lv_entry [.ref (z + o), .int (q_I a0)] (n := 2) (Nat.le_of_ble_eq_true rfl)
  refine W.eq (by rw [hargs, lg_entry_eq]) ?_
  generalize (lg_sl [.ref (z + o), .int (q_I a0)] ++ List.replicate (2 - (lg_sl [.ref (z + o), .int (q_I a0)]).length) Slot.unset).toArray = ls at hl ⊢
  have hl : lv_has ls 2 [(0, .ref (z + o)), (1, .int (q_I a0))] := hl
  generalize hQ : MQ below _ args s 0 0 _ = Qf
  change W p l e ({ frames := 1, cells := 0, slots := 0, locals := 24 } : Room) s m args below meth c s.heap [] 0 0 Qf (F0 m 0 ls [])
  unfold f_Ch_waitingIn at h
  refine lv_aload_n hx hb dX0_waitingIn_0 rfl (lv_at hl 0 rfl) ?_
  refine lv_iload_n hx hb dX0_waitingIn_1 rfl (lv_at hl 1 rfl) ?_
  refine lv_aload_n hx hb dX0_waitingIn_2 rfl (lv_at hl 0 rfl) ?_
  refine q_getI hx hb hts hown hK hP fd_RX0_30 (q_ltK0 ho) (q_kdK_0 ho) rfl dX0_waitingIn_3 h ?_
  clear h; intro x1 r1 h
  obtain ⟨x3, hv2, h⟩ := q_b_some h
  refine q_callV hx hb hml hts hown hK hP hS (As := [.int (q_I a0), .int (q_I x1)]) (rest := []) (st1 := [.int (q_I x3)]) cv_RX0_47 (c_Ch_waitingAhead l D dA ho ra0 r1 hv2) (q_ltK0 ho) (q_kdK_0 ho) rfl ⟨rfl, rfl, Nat.le_of_ble_eq_true rfl, Nat.le_of_ble_eq_true rfl⟩ ⟨Nat.le_refl _, Nat.le_refl _⟩ rfl hl.1 rfl (Nat.le_of_ble_eq_true rfl) rfl (fun _ g => g) dX0_waitingIn_6 ?_
  clear hP hS hv2; intro H locs r3 hP hS _
  rw [← hQ]
  exact q_ret1 hx hb hr hlocks hP hS r3 h dX0_waitingIn_9
set_option maxHeartbeats 4000000 in
set_option maxRecDepth 100000 in
theorem c_Ch_put (l : Launch) (D : va_G) (dA : Nat → ClassId) {z sz : Nat} {o : Nat} (ho : o = 15 ∨ o = 38) {a0 : Int} (ra0 : q_R a0) {a1 : Int} (ra1 : q_R a1) {a2 : Int} (ra2 : q_R a2) {a3 : Int} (ra3 : q_R a3) {μ : q_M} {xo : Int} {μo : q_M} (h : f_Ch_put o a0 a1 a2 a3 μ = some (xo, μo)) : Met l yX0_put (q_wc yX0_put cX0_put 6 (some .int)) ({ frames := 0, cells := 0, slots := 0, locals := 0 } : Room) (va_Pc [.ref (z + o), .int (q_I a0), .int (q_I a1), .int (q_I a2), .int (q_I a3)] (q_B (q_P D dA q_kdC q_rhoC 77 z sz μ) D dA)) (q_Q (some (.int (q_I xo))) (q_R xo) (q_P D dA q_kdC q_rhoC 77 z sz μo) (q_A z 77)) 0 0 (q_A z 77) := by
  refine Met.ofW (cc := cX0_put) (maxL := 6) (ret := (some .int)) (by decide) rfl ?_
  intro p e s m args below meth c s₁ B hml hv
  obtain ⟨hargs, hP, hK⟩ := hv
  have hx := B.exec
  have hb := B.bytes
  have hr := B.returns
  have hts : ∀ w ∈ q_W, w.before args s = true := fun w hw => atoms_spec (ws := q_wc yX0_put cX0_put 6 (some .int)) B.pre w (List.mem_cons_of_mem _ hw)
  have hown : s.vm.findClass RX0 = some m.cls := findClass_of_methodNamed B.named
  have hlocks := B.notSynchronized
  have hS : va_S (q_A z 77) s.heap s.heap [] := va_S.rf
  have hA : ∀ k, k < 77 → q_A z 77 (z + k) := fun k hk => ⟨Nat.le_add_right z k, Nat.add_lt_add_left hk z⟩
  have hl := lv_entry [.ref (z + o), .int (q_I a0), .int (q_I a1), .int (q_I a2), .int (q_I a3)] (n := 6) (Nat.le_of_ble_eq_true rfl)
  refine W.eq (by rw [hargs, lg_entry_eq]) ?_
  generalize (lg_sl [.ref (z + o), .int (q_I a0), .int (q_I a1), .int (q_I a2), .int (q_I a3)] ++ List.replicate (6 - (lg_sl [.ref (z + o), .int (q_I a0), .int (q_I a1), .int (q_I a2), .int (q_I a3)]).length) Slot.unset).toArray = ls at hl ⊢
  have hl : lv_has ls 6 [(0, .ref (z + o)), (1, .int (q_I a0)), (2, .int (q_I a1)), (3, .int (q_I a2)), (4, .int (q_I a3))] := hl
  generalize hQ : MQ below _ args s 0 0 _ = Qf
  change W p l e ({ frames := 0, cells := 0, slots := 0, locals := 0 } : Room) s m args below meth c s.heap [] 0 0 Qf (F0 m 0 ls [])
  unfold f_Ch_put at h
  refine lv_aload_n hx hb dX0_put_0 rfl (lv_at hl 0 rfl) ?_
  refine q_getI hx hb hts hown hK hP fd_RX0_30 (q_ltK0 ho) (q_kdK_0 ho) rfl dX0_put_1 h ?_
  clear h; intro x1 r1 h
  refine lv_istore (lv' := [(5, .int (q_I x1)), (0, .ref (z + o)), (1, .int (q_I a0)), (2, .int (q_I a1)), (3, .int (q_I a2)), (4, .int (q_I a3))]) hx hb dX0_put_4 hl (by decide) rfl ?_
  clear hl; intro ls hl
  refine lv_aload_n hx hb dX0_put_6 rfl (lv_at hl 1 rfl) ?_
  refine q_getR hx hb hts hown hK hP fd_RX0_9 (q_ltK0 ho) (q_kdK_0 ho) rfl (q_rhK_0_1 ho) dX0_put_7 ?_
  refine lv_iload hx hb dX0_put_10 (lv_at hl 0 rfl) ?_
  refine lv_iload_n hx hb dX0_put_12 rfl (lv_at hl 2 rfl) ?_
  refine q_iast hx hb hK hP hS hA (q_ltK ho rfl) (q_kdK_1 ho) r1 ra0 dX0_put_13 h ?_
  clear h hP hS; intro μ2 H locs hP hS h
  refine lv_aload_n hx hb dX0_put_14 rfl (lv_at hl 1 rfl) ?_
  refine q_getR hx hb hts hown hK hP fd_RX0_15 (q_ltK0 ho) (q_kdK_0 ho) rfl (q_rhK_0_2 ho) dX0_put_15 ?_
  refine lv_iload hx hb dX0_put_18 (lv_at hl 0 rfl) ?_
  refine lv_iload_n hx hb dX0_put_20 rfl (lv_at hl 3 rfl) ?_
  refine q_iast hx hb hK hP hS hA (q_ltK ho rfl) (q_kdK_2 ho) r1 ra1 dX0_put_21 h ?_
  clear h hP hS; intro μ3 H locs hP hS h
  refine lv_aload_n hx hb dX0_put_22 rfl (lv_at hl 1 rfl) ?_
  refine q_getR hx hb hts hown hK hP fd_RX0_18 (q_ltK0 ho) (q_kdK_0 ho) rfl (q_rhK_0_3 ho) dX0_put_23 ?_
  refine lv_iload hx hb dX0_put_26 (lv_at hl 0 rfl) ?_
  refine lv_iload_n hx hb dX0_put_28 rfl (lv_at hl 4 rfl) ?_
  refine q_iast hx hb hK hP hS hA (q_ltK ho rfl) (q_kdK_3 ho) r1 ra2 dX0_put_29 h ?_
  clear h hP hS; intro μ4 H locs hP hS h
  refine lv_aload_n hx hb dX0_put_30 rfl (lv_at hl 1 rfl) ?_
  refine q_getR hx hb hts hown hK hP fd_RX0_21 (q_ltK0 ho) (q_kdK_0 ho) rfl (q_rhK_0_4 ho) dX0_put_31 ?_
  refine lv_iload hx hb dX0_put_34 (lv_at hl 0 rfl) ?_
  refine lv_iload hx hb dX0_put_36 (lv_at hl 5 rfl) ?_
  refine q_iast hx hb hK hP hS hA (q_ltK ho rfl) (q_kdK_4 ho) r1 ra3 dX0_put_38 h ?_
  clear h hP hS; intro μ5 H locs hP hS h
  refine lv_aload_n hx hb dX0_put_39 rfl (lv_at hl 1 rfl) ?_
  refine q_getR hx hb hts hown hK hP fd_RX0_24 (q_ltK0 ho) (q_kdK_0 ho) rfl (q_rhK_0_5 ho) dX0_put_40 ?_
  refine lv_iload hx hb dX0_put_43 (lv_at hl 0 rfl) ?_
  refine lv_iconst (v := q_I (-1)) hx hb dX0_put_45 rfl ?_
  refine q_iast hx hb hK hP hS hA (q_ltK ho rfl) (q_kdK_5 ho) r1 (q_r (-1) rfl) dX0_put_46 h ?_
  clear h hP hS; intro μ6 H locs hP hS h
  refine lv_aload_n hx hb dX0_put_47 rfl (lv_at hl 1 rfl) ?_
  refine lv_dup hx hb dX0_put_48 rfl ?_
  refine q_getI hx hb hts hown hK hP fd_RX0_30 (q_ltK0 ho) (q_kdK_0 ho) rfl dX0_put_49 h ?_
  clear h; intro x7 r7 h
  refine lv_iconst (v := q_I 1) hx hb dX0_put_52 rfl ?_
  refine q_iadd hx hb dX0_put_53 h ?_
  clear h; intro x8 r8 h
  refine q_putI hx hb hts hown hK hP hS hA fd_RX0_30 (q_ltK0 ho) (q_kdK_0 ho) rfl r8 dX0_put_54 h ?_
  clear h hP hS; intro μ9 H locs hP hS h
  refine lv_iload hx hb dX0_put_57 (lv_at hl 0 rfl) ?_
  rw [← hQ]
  exact q_ret2 hx hb hr hlocks hP hS r1 h dX0_put_59
set_option maxHeartbeats 4000000 in
set_option maxRecDepth 100000 in
theorem c_Wo_trySend (l : Launch) (D : va_G) (dA : Nat → ClassId) {z sz : Nat} {N : Nat} {o : Nat} (ho : o = 1 ∨ o = 24) {a0 : Int} (ra0 : q_R a0) {a1 : Int} (ra1 : q_R a1) {a2 : Int} (ra2 : q_R a2) {a3 : Int} (ra3 : q_R a3) {μ : q_M} {xo : Int} {μo : q_M} (h : f_Wo_trySend N o a0 a1 a2 a3 μ = some (xo, μo)) : Met l yX9_trySend (q_wc yX9_trySend cX9_trySend 9 (some .int)) ({ frames := 2, cells := 0, slots := 0, locals := 48 } : Room) (va_Pc [.ref (z + o), .int (q_I a0), .int (q_I a1), .int (q_I a2), .int (q_I a3)] (q_B (q_P D dA q_kdC q_rhoC 77 z sz μ) D dA)) (q_Q (some (.int (q_I xo))) (q_R xo) (q_P D dA q_kdC q_rhoC 77 z sz μo) (q_A z 77)) 0 0 (q_A z 77) := by
  refine Met.ofW (cc := cX9_trySend) (maxL := 9) (ret := (some .int)) (by decide) rfl ?_
  intro p e s m args below meth c s₁ B hml hv
  obtain ⟨hargs, hP, hK⟩ := hv
  have hx := B.exec
  have hb := B.bytes
  have hr := B.returns
  have hts : ∀ w ∈ q_W, w.before args s = true := fun w hw => atoms_spec (ws := q_wc yX9_trySend cX9_trySend 9 (some .int)) B.pre w (List.mem_cons_of_mem _ hw)
  have hown : s.vm.findClass RX9 = some m.cls := findClass_of_methodNamed B.named
  have hlocks := B.notSynchronized
  have hS : va_S (q_A z 77) s.heap s.heap [] := va_S.rf
  have hA : ∀ k, k < 77 → q_A z 77 (z + k) := fun k hk => ⟨Nat.le_add_right z k, Nat.add_lt_add_left hk z⟩
  have hl := lv_entry [.ref (z + o), .int (q_I a0), .int (q_I a1), .int (q_I a2), .int (q_I a3)] (n := 9) (Nat.le_of_ble_eq_true rfl)
  refine W.eq (by rw [hargs, lg_entry_eq]) ?_
  generalize (lg_sl [.ref (z + o), .int (q_I a0), .int (q_I a1), .int (q_I a2), .int (q_I a3)] ++ List.replicate (9 - (lg_sl [.ref (z + o), .int (q_I a0), .int (q_I a1), .int (q_I a2), .int (q_I a3)]).length) Slot.unset).toArray = ls at hl ⊢
  have hl : lv_has ls 9 [(0, .ref (z + o)), (1, .int (q_I a0)), (2, .int (q_I a1)), (3, .int (q_I a2)), (4, .int (q_I a3))] := hl
  generalize hQ : MQ below _ args s 0 0 _ = Qf
  change W p l e ({ frames := 2, cells := 0, slots := 0, locals := 48 } : Room) s m args below meth c s.heap [] 0 0 Qf (F0 m 0 ls [])
  unfold f_Wo_trySend at h
  refine lv_aload_n hx hb dX9_trySend_0 rfl (lv_at hl 0 rfl) ?_
  refine q_getR hx hb hts hown hK hP fd_RX9_9 (q_ltW0 ho) (q_kdW_0 ho) rfl (q_rhW_0_1 ho) dX9_trySend_1 ?_
  refine lv_iload_n hx hb dX9_trySend_4 rfl (lv_at hl 1 rfl) ?_
  refine lv_iload_n hx hb dX9_trySend_5 rfl (lv_at hl 3 rfl) ?_
  obtain ⟨x2, hv1, h⟩ := q_b_some h
  refine q_callN hx hb hml hts hown hK hP hS (As := [.int (q_I a0), .int (q_I a2)]) (rest := [.ref (z + (o + 1))]) (st1 := [.int (q_I x2), .ref (z + (o + 1))]) cn_RX9_97 (c_CR_slot l D dA ra0 ra2 hv1) ⟨rfl, rfl, Nat.le_of_ble_eq_true rfl, Nat.le_of_ble_eq_true rfl⟩ ⟨Nat.le_refl _, Nat.le_refl _⟩ rfl hl.1 rfl (Nat.le_of_ble_eq_true rfl) rfl (fun _ g => g) dX9_trySend_6 ?_
  clear hP hS hv1; intro H locs r2 hP hS _
  refine q_iald hx hb hK hP (q_ltW ho rfl) (q_kdW_1 ho) r2 dX9_trySend_9 h ?_
  clear h; intro x3 r3 h
  refine lv_iload hx hb dX9_trySend_10 (lv_at hl 4 rfl) ?_
  refine q_isub hx hb dX9_trySend_12 h ?_
  clear h; intro x4 r4 h
  refine lv_istore (lv' := [(5, .int (q_I x4)), (0, .ref (z + o)), (1, .int (q_I a0)), (2, .int (q_I a1)), (3, .int (q_I a2)), (4, .int (q_I a3))]) hx hb dX9_trySend_13 hl (by decide) rfl ?_
  clear hl; intro ls hl
  refine lv_iload hx hb dX9_trySend_15 (lv_at hl 0 rfl) ?_
  refine q_zge hx hb r4 (tgt := 23) dX9_trySend_17 (by decide) h ?_ ?_
  · clear h; intro g26 h
    refine lv_iload_n hx hb dX9_trySend_23 rfl (lv_at hl 2 rfl) ?_
    refine lv_iload_n hx hb dX9_trySend_24 rfl (lv_at hl 3 rfl) ?_
    obtain ⟨x6, hv5, h⟩ := q_b_some h
    refine q_callN hx hb hml hts hown hK hP hS (As := [.int (q_I a0), .int (q_I a1)]) (rest := []) (st1 := [.int (q_I x6)]) cn_RX9_117 (c_CR_channelOf l D dA ra0 ra1 hv5) ⟨rfl, rfl, Nat.le_of_ble_eq_true rfl, Nat.le_of_ble_eq_true rfl⟩ ⟨Nat.le_refl _, Nat.le_refl _⟩ rfl hl.1 rfl (Nat.le_of_ble_eq_true rfl) rfl (fun _ g => g) dX9_trySend_25 ?_
    clear hP hS hv5; intro H locs r6 hP hS _
    refine lv_istore (lv' := [(6, .int (q_I x6)), (5, .int (q_I x4)), (0, .ref (z + o)), (1, .int (q_I a0)), (2, .int (q_I a1)), (3, .int (q_I a2)), (4, .int (q_I a3))]) hx hb dX9_trySend_28 hl (by decide) rfl ?_
    clear hl; intro ls hl
    refine lv_aload_n hx hb dX9_trySend_30 rfl (lv_at hl 2 rfl) ?_
    refine q_getR hx hb hts hown hK hP fd_RX9_24 (q_ltW0 ho) (q_kdW_0 ho) rfl (q_rhW_0_4 ho) dX9_trySend_31 ?_
    refine q_getI hx hb hts hown hK hP fd_RX9_106 (q_ltW ho rfl) (q_kdW_4 ho) rfl dX9_trySend_34 h ?_
    clear h; intro x7 r7 h
    refine lv_bipush (v := q_I 100) hx hb dX9_trySend_37 (by decide) ?_
    refine q_jn_in h (fun J => ∀ (H : Heap) (locs : List Loc) (ls : Array Slot), q_P D dA q_kdC q_rhoC 77 z sz μ H → va_S (q_A z 77) s.heap H locs → lv_has ls 9 [] → J = some (xo, μo) → W p l e ({ frames := 2, cells := 0, slots := 0, locals := 48 } : Room) s m args below meth c H locs 0 0 Qf (F0 m 69 ls [])) ?_ ?_
    · clear h hl hP hS; intro  H locs ls  hP hS hl h
      refine lv_ldc hx hb hown (hts _ ck_RX9_107) dX9_trySend_69 ?_
      rw [← hQ]
      exact q_ret2 hx hb hr hlocks hP hS (q_r (-100005) rfl) h dX9_trySend_71
    · clear h; intro j69 hj69 h
      refine q_cge hx hb r7 (q_r 100 rfl) (tgt := 69) dX9_trySend_39 (by decide) h ?_ ?_
      · clear h; intro g25 h
        exact hj69  _ _ _ hP hS (lv_sub hl [] rfl) h
      · clear h; intro g25 h
        refine lv_aload_n hx hb dX9_trySend_42 rfl (lv_at hl 2 rfl) ?_
        refine q_getR hx hb hts hown hK hP fd_RX9_31 (q_ltW0 ho) (q_kdW_0 ho) rfl (q_rhW_0_5 ho) dX9_trySend_43 ?_
        refine q_getI hx hb hts hown hK hP fd_RX9_77 (q_ltW ho rfl) (q_kdW_14 ho) rfl dX9_trySend_46 h ?_
        clear h; intro x8 r8 h
        refine lv_sipush (v := q_I 512) hx hb dX9_trySend_49 (by decide) ?_
        refine q_cge hx hb r8 (q_r 512 rfl) (tgt := 69) dX9_trySend_52 (by decide) h ?_ ?_
        · clear h; intro g24 h
          exact hj69  _ _ _ hP hS (lv_sub hl [] rfl) h
        · clear h; intro g24 h
          refine lv_aload_n hx hb dX9_trySend_55 rfl (lv_at hl 2 rfl) ?_
          refine q_getR hx hb hts hown hK hP fd_RX9_31 (q_ltW0 ho) (q_kdW_0 ho) rfl (q_rhW_0_5 ho) dX9_trySend_56 ?_
          refine lv_iload hx hb dX9_trySend_59 (lv_at hl 0 rfl) ?_
          obtain ⟨x10, hv9, h⟩ := q_b_some h
          refine q_callV hx hb hml hts hown hK hP hS (As := [.int (q_I x6)]) (rest := []) (st1 := [.int (q_I x10)]) cv_RX9_119 (c_Ch_waitingIn l D dA (by omega) r6 hv9) (q_ltW ho rfl) (q_kdW_14 ho) rfl ⟨rfl, rfl, Nat.le_of_ble_eq_true rfl, Nat.le_of_ble_eq_true rfl⟩ ⟨Nat.le_refl _, Nat.le_refl _⟩ rfl hl.1 rfl (Nat.le_of_ble_eq_true rfl) rfl (fun _ g => g) dX9_trySend_61 ?_
          clear hP hS hv9; intro H locs r10 hP hS _
          refine lv_bipush (v := q_I 6) hx hb dX9_trySend_64 (by decide) ?_
          refine q_clt hx hb r10 (q_r 6 rfl) (tgt := 72) dX9_trySend_66 (by decide) h ?_ ?_
          · clear h; intro g23 h
            refine lv_aload_n hx hb dX9_trySend_72 rfl (lv_at hl 2 rfl) ?_
            refine q_getR hx hb hts hown hK hP fd_RX9_9 (q_ltW0 ho) (q_kdW_0 ho) rfl (q_rhW_0_1 ho) dX9_trySend_73 ?_
            refine lv_iload_n hx hb dX9_trySend_76 rfl (lv_at hl 3 rfl) ?_
            refine lv_iload_n hx hb dX9_trySend_77 rfl (lv_at hl 5 rfl) ?_
            obtain ⟨x12, hv11, h⟩ := q_b_some h
            refine q_callN hx hb hml hts hown hK hP hS (As := [.int (q_I a0), .int (q_I a2)]) (rest := [.ref (z + (o + 1))]) (st1 := [.int (q_I x12), .ref (z + (o + 1))]) cn_RX9_97 (c_CR_slot l D dA ra0 ra2 hv11) ⟨rfl, rfl, Nat.le_of_ble_eq_true rfl, Nat.le_of_ble_eq_true rfl⟩ ⟨Nat.le_refl _, Nat.le_refl _⟩ rfl hl.1 rfl (Nat.le_of_ble_eq_true rfl) rfl (fun _ g => g) dX9_trySend_78 ?_
            clear hP hS hv11; intro H locs r12 hP hS _
            refine lv_iload hx hb dX9_trySend_81 (lv_at hl 1 rfl) ?_
            refine q_iast hx hb hK hP hS hA (q_ltW ho rfl) (q_kdW_1 ho) r12 r4 dX9_trySend_83 h ?_
            clear h hP hS; intro μ13 H locs hP hS h
            refine lv_aload_n hx hb dX9_trySend_84 rfl (lv_at hl 2 rfl) ?_
            refine q_getR hx hb hts hown hK hP fd_RX9_31 (q_ltW0 ho) (q_kdW_0 ho) rfl (q_rhW_0_5 ho) dX9_trySend_85 ?_
            refine lv_iload hx hb dX9_trySend_88 (lv_at hl 0 rfl) ?_
            refine lv_iload_n hx hb dX9_trySend_90 rfl (lv_at hl 5 rfl) ?_
            refine lv_iload hx hb dX9_trySend_91 (lv_at hl 6 rfl) ?_
            refine lv_aload_n hx hb dX9_trySend_93 rfl (lv_at hl 2 rfl) ?_
            refine q_getR hx hb hts hown hK hP fd_RX9_24 (q_ltW0 ho) (q_kdW_0 ho) rfl (q_rhW_0_4 ho) dX9_trySend_94 ?_
            refine q_getI hx hb hts hown hK hP fd_RX9_106 (q_ltW ho rfl) (q_kdW_4 ho) rfl dX9_trySend_97 h ?_
            clear h; intro x14 r14 h
            obtain ⟨x16, μ17, hv15, h⟩ := q_b2_some h
            refine q_callV hx hb hml hts hown hK hP hS (As := [.int (q_I x6), .int (q_I a2), .int (q_I a3), .int (q_I x14)]) (rest := []) (st1 := [.int (q_I x16)]) cv_RX9_93 (c_Ch_put l D dA (by omega) r6 ra2 ra3 r14 hv15) (q_ltW ho rfl) (q_kdW_14 ho) rfl ⟨rfl, rfl, Nat.le_of_ble_eq_true rfl, Nat.le_of_ble_eq_true rfl⟩ ⟨Nat.le_refl _, Nat.le_refl _⟩ rfl hl.1 rfl (Nat.le_of_ble_eq_true rfl) rfl (fun _ g => g) dX9_trySend_100 ?_
            clear hP hS hv15; intro H locs r16 hP hS _
            refine lv_istore (lv' := [(7, .int (q_I x16)), (6, .int (q_I x6)), (5, .int (q_I x4)), (0, .ref (z + o)), (1, .int (q_I a0)), (2, .int (q_I a1)), (3, .int (q_I a2)), (4, .int (q_I a3))]) hx hb dX9_trySend_103 hl (by decide) rfl ?_
            clear hl; intro ls hl
            refine lv_aload_n hx hb dX9_trySend_105 rfl (lv_at hl 3 rfl) ?_
            refine q_getR hx hb hts hown hK hP fd_RX9_24 (q_ltW0 ho) (q_kdW_0 ho) rfl (q_rhW_0_4 ho) dX9_trySend_106 ?_
            refine lv_iload_n hx hb dX9_trySend_109 rfl (lv_at hl 4 rfl) ?_
            refine lv_iconst (v := q_I 1) hx hb dX9_trySend_110 rfl ?_
            refine lv_iload hx hb dX9_trySend_111 (lv_at hl 0 rfl) ?_
            obtain ⟨x19, μ20, hv18, h⟩ := q_b2_some h
            refine q_callV hx hb hml hts hown hK hP hS (As := [.int (q_I a0), .int (q_I 1), .int (q_I x16)]) (rest := []) (st1 := [.int (q_I x19)]) cv_RX9_108 (c_Hi_add l D dA (by omega) ra0 (q_r 1 rfl) r16 hv18) (q_ltW ho rfl) (q_kdW_4 ho) rfl ⟨rfl, rfl, Nat.le_of_ble_eq_true rfl, Nat.le_of_ble_eq_true rfl⟩ ⟨Nat.le_refl _, Nat.le_refl _⟩ rfl hl.1 rfl (Nat.le_of_ble_eq_true rfl) rfl (fun _ g => g) dX9_trySend_113 ?_
            clear hP hS hv18; intro H locs r19 hP hS _
            refine lv_istore (lv' := [(8, .int (q_I x19)), (7, .int (q_I x16)), (6, .int (q_I x6)), (5, .int (q_I x4)), (0, .ref (z + o)), (1, .int (q_I a0)), (2, .int (q_I a1)), (3, .int (q_I a2)), (4, .int (q_I a3))]) hx hb dX9_trySend_116 hl (by decide) rfl ?_
            clear hl; intro ls hl
            refine lv_aload_n hx hb dX9_trySend_118 rfl (lv_at hl 4 rfl) ?_
            refine q_getR hx hb hts hown hK hP fd_RX9_24 (q_ltW0 ho) (q_kdW_0 ho) rfl (q_rhW_0_4 ho) dX9_trySend_119 ?_
            refine lv_iload hx hb dX9_trySend_122 (lv_at hl 0 rfl) ?_
            refine lv_iload_n hx hb dX9_trySend_124 rfl (lv_at hl 7 rfl) ?_
            refine lv_iload hx hb dX9_trySend_125 (lv_at hl 8 rfl) ?_
            refine lv_iload_n hx hb dX9_trySend_127 rfl (lv_at hl 6 rfl) ?_
            obtain ⟨μ22, hv21, h⟩ := q_b_some h
            refine q_callV hx hb hml hts hown hK hP hS (As := [.int (q_I x19), .int (q_I a2), .int (q_I a3), .int (q_I a1)]) (rest := []) (st1 := []) cv_RX9_113 (c_Hi_describe l D dA (by omega) r19 ra2 ra3 ra1 hv21) (q_ltW ho rfl) (q_kdW_4 ho) rfl ⟨rfl, rfl, Nat.le_of_ble_eq_true rfl, Nat.le_of_ble_eq_true rfl⟩ ⟨Nat.le_refl _, Nat.le_refl _⟩ rfl hl.1 rfl (Nat.le_of_ble_eq_true rfl) rfl (fun _ g => g) dX9_trySend_128 ?_
            clear hP hS hv21; intro H locs _ hP hS _
            refine lv_iload hx hb dX9_trySend_131 (lv_at hl 0 rfl) ?_
            rw [← hQ]
            exact q_ret2 hx hb hr hlocks hP hS r19 h dX9_trySend_133
          · clear h; intro g23 h
            exact hj69  _ _ _ hP hS (lv_sub hl [] rfl) h
  · clear h; intro g26 h
    refine lv_ldc hx hb hown (hts _ ck_RX9_105) dX9_trySend_20 ?_
    rw [← hQ]
    exact q_ret2 hx hb hr hlocks hP hS (q_r (-100004) rfl) h dX9_trySend_22
set_option maxHeartbeats 4000000 in
set_option maxRecDepth 100000 in
theorem c_CR_send (l : Launch) (D : va_G) (dA : Nat → ClassId) {z sz : Nat} {N : Nat} {a0 : Int} (ra0 : q_R a0) {a1 : Int} (ra1 : q_R a1) {a2 : Int} (ra2 : q_R a2) {a3 : Int} (ra3 : q_R a3) {μ : q_M} {xo : Int} {μo : q_M} (h : f_CR_send N a0 a1 a2 a3 μ = some (xo, μo)) : Met l yX10_send (q_wc yX10_send cX10_send 5 (some .int)) ({ frames := 3, cells := 0, slots := 0, locals := 76 } : Room) (va_Pc [.ref (z + 0), .int (q_I a0), .int (q_I a1), .int (q_I a2), .int (q_I a3)] (q_B (q_P D dA q_kdC q_rhoC 77 z sz μ) D dA)) (q_Q (some (.int (q_I xo))) (q_R xo) (q_P D dA q_kdC q_rhoC 77 z sz μo) (q_A z 77)) 0 0 (q_A z 77) := by
  refine Met.ofW (cc := cX10_send) (maxL := 5) (ret := (some .int)) (by decide) rfl ?_
  intro p e s m args below meth c s₁ B hml hv
  obtain ⟨hargs, hP, hK⟩ := hv
  have hx := B.exec
  have hb := B.bytes
  have hr := B.returns
  have hts : ∀ w ∈ q_W, w.before args s = true := fun w hw => atoms_spec (ws := q_wc yX10_send cX10_send 5 (some .int)) B.pre w (List.mem_cons_of_mem _ hw)
  have hown : s.vm.findClass RX10 = some m.cls := findClass_of_methodNamed B.named
  have hlocks := B.notSynchronized
  have hS : va_S (q_A z 77) s.heap s.heap [] := va_S.rf
  have hA : ∀ k, k < 77 → q_A z 77 (z + k) := fun k hk => ⟨Nat.le_add_right z k, Nat.add_lt_add_left hk z⟩
  have hl := lv_entry [.ref (z + 0), .int (q_I a0), .int (q_I a1), .int (q_I a2), .int (q_I a3)] (n := 5) (Nat.le_of_ble_eq_true rfl)
  refine W.eq (by rw [hargs, lg_entry_eq]) ?_
  generalize (lg_sl [.ref (z + 0), .int (q_I a0), .int (q_I a1), .int (q_I a2), .int (q_I a3)] ++ List.replicate (5 - (lg_sl [.ref (z + 0), .int (q_I a0), .int (q_I a1), .int (q_I a2), .int (q_I a3)]).length) Slot.unset).toArray = ls at hl ⊢
  have hl : lv_has ls 5 [(0, .ref (z + 0)), (1, .int (q_I a0)), (2, .int (q_I a1)), (3, .int (q_I a2)), (4, .int (q_I a3))] := hl
  generalize hQ : MQ below _ args s 0 0 _ = Qf
  change W p l e ({ frames := 3, cells := 0, slots := 0, locals := 76 } : Room) s m args below meth c s.heap [] 0 0 Qf (F0 m 0 ls [])
  unfold f_CR_send at h
  refine lv_aload_n hx hb dX10_send_0 rfl (lv_at hl 0 rfl) ?_
  refine lv_iload_n hx hb dX10_send_1 rfl (lv_at hl 1 rfl) ?_
  refine lv_iload_n hx hb dX10_send_2 rfl (lv_at hl 2 rfl) ?_
  obtain ⟨x2, hv1, h⟩ := q_b_some h
  refine q_callV hx hb hml hts hown hK hP hS (As := [.int (q_I a0), .int (q_I a1)]) (rest := []) (st1 := [.int (q_I x2)]) cv_RX10_100 (c_CR_isPair l D dA ra0 ra1 hv1) (Nat.le_of_ble_eq_true rfl) q_kdC_0 rfl ⟨rfl, rfl, Nat.le_of_ble_eq_true rfl, Nat.le_of_ble_eq_true rfl⟩ ⟨Nat.le_refl _, Nat.le_refl _⟩ rfl hl.1 rfl (Nat.le_of_ble_eq_true rfl) rfl (fun _ g => g) dX10_send_3 ?_
  clear hP hS hv1; intro H locs r2 hP hS _
  refine q_jn_in h (fun J => ∀ (H : Heap) (locs : List Loc) (ls : Array Slot), q_P D dA q_kdC q_rhoC 77 z sz μ H → va_S (q_A z 77) s.heap H locs → lv_has ls 5 [] → J = some (xo, μo) → W p l e ({ frames := 3, cells := 0, slots := 0, locals := 76 } : Room) s m args below meth c H locs 0 0 Qf (F0 m 16 ls [])) ?_ ?_
  · clear h hl hP hS; intro  H locs ls  hP hS hl h
    refine lv_ldc hx hb hown (hts _ ck_RX10_74) dX10_send_16 ?_
    rw [← hQ]
    exact q_ret2 hx hb hr hlocks hP hS (q_r (-100001) rfl) h dX10_send_18
  · clear h; intro j16 hj16 h
    refine q_zeq hx hb r2 (tgt := 16) dX10_send_6 (by decide) h ?_ ?_
    · clear h; intro g12 h
      exact hj16  _ _ _ hP hS (lv_sub hl [] rfl) h
    · clear h; intro g12 h
      refine lv_iload_n hx hb dX10_send_9 rfl (lv_at hl 3 rfl) ?_
      obtain ⟨x4, hv3, h⟩ := q_b_some h
      refine q_callS hx hb hml hts hown hK hP hS (As := [.int (q_I a2)]) (rest := []) (st1 := [.int (q_I x4)]) cs_RX10_71 (c_CR_isStock l D dA ra2 hv3) ⟨rfl, rfl, Nat.le_of_ble_eq_true rfl, Nat.le_of_ble_eq_true rfl⟩ ⟨Nat.le_refl _, Nat.le_refl _⟩ rfl hl.1 rfl (Nat.le_of_ble_eq_true rfl) rfl (fun _ g => g) dX10_send_10 ?_
      clear hP hS hv3; intro H locs r4 hP hS _
      refine q_zne hx hb r4 (tgt := 19) dX10_send_13 (by decide) h ?_ ?_
      · clear h; intro g11 h
        exact hj16  _ _ _ hP hS (lv_sub hl [] rfl) h
      · clear h; intro g11 h
        refine lv_iload hx hb dX10_send_19 (lv_at hl 4 rfl) ?_
        refine lv_iconst (v := q_I 1) hx hb dX10_send_21 rfl ?_
        refine lv_bipush (v := q_I 100) hx hb dX10_send_22 (by decide) ?_
        obtain ⟨x6, hv5, h⟩ := q_b_some h
        refine q_callS hx hb hml hts hown hK hP hS (As := [.int (q_I a3), .int (q_I 1), .int (q_I 100)]) (rest := []) (st1 := [.int (q_I x6)]) cs_RX10_58 (c_CR_within l D dA ra3 (q_r 1 rfl) (q_r 100 rfl) hv5) ⟨rfl, rfl, Nat.le_of_ble_eq_true rfl, Nat.le_of_ble_eq_true rfl⟩ ⟨Nat.le_refl _, Nat.le_refl _⟩ rfl hl.1 rfl (Nat.le_of_ble_eq_true rfl) rfl (fun _ g => g) dX10_send_24 ?_
        clear hP hS hv5; intro H locs r6 hP hS _
        refine q_zne hx hb r6 (tgt := 33) dX10_send_27 (by decide) h ?_ ?_
        · clear h; intro g10 h
          refine lv_ldc hx hb hown (hts _ ck_RX10_62) dX10_send_30 ?_
          rw [← hQ]
          exact q_ret2 hx hb hr hlocks hP hS (q_r (-100002) rfl) h dX10_send_32
        · clear h; intro g10 h
          refine lv_aload_n hx hb dX10_send_33 rfl (lv_at hl 0 rfl) ?_
          refine q_getR hx hb hts hown hK hP fd_RX10_10 (Nat.le_of_ble_eq_true rfl) q_kdC_0 rfl q_rhC_0_0 dX10_send_34 ?_
          refine lv_iload_n hx hb dX10_send_37 rfl (lv_at hl 1 rfl) ?_
          refine lv_iload_n hx hb dX10_send_38 rfl (lv_at hl 2 rfl) ?_
          refine lv_iload_n hx hb dX10_send_39 rfl (lv_at hl 3 rfl) ?_
          refine lv_iload hx hb dX10_send_40 (lv_at hl 4 rfl) ?_
          obtain ⟨x8, μ9, hv7, h⟩ := q_b2_some h
          refine q_callV hx hb hml hts hown hK hP hS (As := [.int (q_I a0), .int (q_I a1), .int (q_I a2), .int (q_I a3)]) (rest := []) (st1 := [.int (q_I x8)]) cv_RX10_104 (c_Wo_trySend l D dA (Or.inl rfl) ra0 ra1 ra2 ra3 hv7) (Nat.le_of_ble_eq_true rfl) q_kdC_1 rfl ⟨rfl, rfl, Nat.le_of_ble_eq_true rfl, Nat.le_of_ble_eq_true rfl⟩ ⟨Nat.le_refl _, Nat.le_refl _⟩ rfl hl.1 rfl (Nat.le_of_ble_eq_true rfl) rfl (fun _ g => g) dX10_send_42 ?_
          clear hP hS hv7; intro H locs r8 hP hS _
          rw [← hQ]
          exact q_ret2 hx hb hr hlocks hP hS r8 h dX10_send_45
set_option maxHeartbeats 4000000 in
set_option maxRecDepth 100000 in
theorem c_Ch_messageAt (l : Launch) (D : va_G) (dA : Nat → ClassId) {z sz : Nat} {N : Nat} {o : Nat} (ho : o = 15 ∨ o = 38) {a0 : Int} (ra0 : q_R a0) {a1 : Int} (ra1 : q_R a1) {μ : q_M} {xo : Int} (h : f_Ch_messageAt N o a0 a1 μ = some xo) : Met l yX0_messageAt (q_wc yX0_messageAt cX0_messageAt 5 (some .int)) ({ frames := 0, cells := 0, slots := 0, locals := 0 } : Room) (va_Pc [.ref (z + o), .int (q_I a0), .int (q_I a1)] (q_B (q_P D dA q_kdC q_rhoC 77 z sz μ) D dA)) (q_Q (some (.int (q_I xo))) (q_R xo) (q_P D dA q_kdC q_rhoC 77 z sz μ) (q_A z 77)) 0 0 (q_A z 77) := by
  refine Met.ofW (cc := cX0_messageAt) (maxL := 5) (ret := (some .int)) (by decide) rfl ?_
  intro p e s m args below meth c s₁ B hml hv
  obtain ⟨hargs, hP, hK⟩ := hv
  have hx := B.exec
  have hb := B.bytes
  have hr := B.returns
  have hts : ∀ w ∈ q_W, w.before args s = true := fun w hw => atoms_spec (ws := q_wc yX0_messageAt cX0_messageAt 5 (some .int)) B.pre w (List.mem_cons_of_mem _ hw)
  have hown : s.vm.findClass RX0 = some m.cls := findClass_of_methodNamed B.named
  have hlocks := B.notSynchronized
  have hS : va_S (q_A z 77) s.heap s.heap [] := va_S.rf
  have hA : ∀ k, k < 77 → q_A z 77 (z + k) := fun k hk => ⟨Nat.le_add_right z k, Nat.add_lt_add_left hk z⟩
  have hl := lv_entry [.ref (z + o), .int (q_I a0), .int (q_I a1)] (n := 5) (Nat.le_of_ble_eq_true rfl)
  refine W.eq (by rw [hargs, lg_entry_eq]) ?_
  generalize (lg_sl [.ref (z + o), .int (q_I a0), .int (q_I a1)] ++ List.replicate (5 - (lg_sl [.ref (z + o), .int (q_I a0), .int (q_I a1)]).length) Slot.unset).toArray = ls at hl ⊢
  have hl : lv_has ls 5 [(0, .ref (z + o)), (1, .int (q_I a0)), (2, .int (q_I a1))] := hl
  generalize hQ : MQ below _ args s 0 0 _ = Qf
  change W p l e ({ frames := 0, cells := 0, slots := 0, locals := 0 } : Room) s m args below meth c s.heap [] 0 0 Qf (F0 m 0 ls [])
  unfold f_Ch_messageAt at h
  refine lv_iconst (v := q_I 0) hx hb dX0_messageAt_0 rfl ?_
  refine lv_istore_n (lv' := [(3, .int (q_I 0)), (0, .ref (z + o)), (1, .int (q_I a0)), (2, .int (q_I a1))]) hx hb dX0_messageAt_1 rfl hl (by decide) rfl ?_
  clear hl; intro ls hl
  refine lv_iconst (v := q_I 0) hx hb dX0_messageAt_2 rfl ?_
  refine lv_istore (lv' := [(4, .int (q_I 0)), (3, .int (q_I 0)), (0, .ref (z + o)), (1, .int (q_I a0)), (2, .int (q_I a1))]) hx hb dX0_messageAt_3 hl (by decide) rfl ?_
  clear hl; intro ls hl
  have L5 : ∀ (k41 : Int → Option Int) (k53 : Option Int), (∀ (x3 : Int) (H : Heap) (locs : List Loc) (ls : Array Slot), q_R x3 → q_P D dA q_kdC q_rhoC 77 z sz μ H → va_S (q_A z 77) s.heap H locs → lv_has ls 5 [(4, .int (q_I x3))] → k41 x3 = some xo → W p l e ({ frames := 0, cells := 0, slots := 0, locals := 0 } : Room) s m args below meth c H locs 0 0 Qf (F0 m 41 ls [])) → (∀ (H : Heap) (locs : List Loc) (ls : Array Slot), q_P D dA q_kdC q_rhoC 77 z sz μ H → va_S (q_A z 77) s.heap H locs → lv_has ls 5 [] → k53 = some xo → W p l e ({ frames := 0, cells := 0, slots := 0, locals := 0 } : Room) s m args below meth c H locs 0 0 Qf (F0 m 53 ls [])) → ∀ (nf5 : Nat) (x1 : Int) (x2 : Int) (H : Heap) (locs : List Loc) (ls : Array Slot), q_R x1 → q_R x2 → q_P D dA q_kdC q_rhoC 77 z sz μ H → va_S (q_A z 77) s.heap H locs → lv_has ls 5 [(0, .ref (z + o)), (1, .int (q_I a0)), (2, .int (q_I a1)), (3, .int (q_I x1)), (4, .int (q_I x2))] → f_Ch_messageAt_L5 o a0 a1 μ k41 k53 nf5 x1 x2 = some xo → W p l e ({ frames := 0, cells := 0, slots := 0, locals := 0 } : Room) s m args below meth c H locs 0 0 Qf (F0 m 5 ls []) := by
    clear h hl hP hS
    intro k41 k53 hk41 hk53 nf5
    induction nf5 with
    | zero =>
      intro x1 x2 H locs ls r1 r2 hP hS hl h
      rw [f_Ch_messageAt_L5] at h
      cases h
    | succ nf5 ih5 =>
      intro x1 x2 H locs ls r1 r2 hP hS hl h
      rw [f_Ch_messageAt_L5] at h
      refine lv_iload hx hb dX0_messageAt_5 (lv_at hl 4 rfl) ?_
      refine lv_aload_n hx hb dX0_messageAt_7 rfl (lv_at hl 0 rfl) ?_
      refine q_getI hx hb hts hown hK hP fd_RX0_30 (q_ltK0 ho) (q_kdK_0 ho) rfl dX0_messageAt_8 h ?_
      clear h; intro x4 r4 h
      refine q_cge hx hb r2 r4 (tgt := 53) dX0_messageAt_11 (by decide) h ?_ ?_
      · clear h; intro g13 h
        exact hk53  _ _ _ hP hS (lv_sub hl [] rfl) h
      · clear h; intro g13 h
        refine lv_aload_n hx hb dX0_messageAt_14 rfl (lv_at hl 0 rfl) ?_
        refine q_getR hx hb hts hown hK hP fd_RX0_9 (q_ltK0 ho) (q_kdK_0 ho) rfl (q_rhK_0_1 ho) dX0_messageAt_15 ?_
        refine lv_iload hx hb dX0_messageAt_18 (lv_at hl 4 rfl) ?_
        refine q_iald hx hb hK hP (q_ltK ho rfl) (q_kdK_1 ho) r2 dX0_messageAt_20 h ?_
        clear h; intro x5 r5 h
        refine lv_iload_n hx hb dX0_messageAt_21 rfl (lv_at hl 1 rfl) ?_
        refine q_jn_in h (fun J => ∀ (x6 : Int) (H : Heap) (locs : List Loc) (ls : Array Slot), q_R x6 → q_P D dA q_kdC q_rhoC 77 z sz μ H → va_S (q_A z 77) s.heap H locs → lv_has ls 5 [(0, .ref (z + o)), (1, .int (q_I a0)), (2, .int (q_I a1)), (3, .int (q_I x6)), (4, .int (q_I x2))] → J x6 = some xo → W p l e ({ frames := 0, cells := 0, slots := 0, locals := 0 } : Room) s m args below meth c H locs 0 0 Qf (F0 m 47 ls [])) ?_ ?_
        · clear h hl hP hS; intro x6 H locs ls r6 hP hS hl h
          refine q_iinc (k := 4) (lv' := fun t => [(4, .int (q_I t)), (0, .ref (z + o)), (1, .int (q_I a0)), (2, .int (q_I a1)), (3, .int (q_I x6))]) hx hb dX0_messageAt_47 hl rfl (by decide) (fun _ => rfl) h ?_
          clear h hl; intro x7 ls r7 hl h
          refine lv_goto (tgt := 5) hx hb dX0_messageAt_50 (by decide) ?_
          exact ih5 x6 x7 _ _ _ r6 r7 hP hS (lv_sub hl [1, 2, 3, 4, 0] rfl) h
        · clear h; intro j47 hj47 h
          refine q_cne hx hb r5 ra0 (tgt := 47) dX0_messageAt_22 (by decide) h ?_ ?_
          · clear h; intro g12 h
            refine lv_aload_n hx hb dX0_messageAt_25 rfl (lv_at hl 0 rfl) ?_
            refine q_getR hx hb hts hown hK hP fd_RX0_24 (q_ltK0 ho) (q_kdK_0 ho) rfl (q_rhK_0_5 ho) dX0_messageAt_26 ?_
            refine lv_iload hx hb dX0_messageAt_29 (lv_at hl 4 rfl) ?_
            refine q_iald hx hb hK hP (q_ltK ho rfl) (q_kdK_5 ho) r2 dX0_messageAt_31 h ?_
            clear h; intro x8 r8 h
            refine lv_iconst (v := q_I (-1)) hx hb dX0_messageAt_32 rfl ?_
            refine q_cne hx hb r8 (q_r (-1) rfl) (tgt := 47) dX0_messageAt_33 (by decide) h ?_ ?_
            · clear h; intro g11 h
              refine lv_iload_n hx hb dX0_messageAt_36 rfl (lv_at hl 3 rfl) ?_
              refine lv_iload_n hx hb dX0_messageAt_37 rfl (lv_at hl 2 rfl) ?_
              refine q_cne hx hb r1 ra1 (tgt := 44) dX0_messageAt_38 (by decide) h ?_ ?_
              · clear h; intro g10 h
                exact hk41 x2 _ _ _ r2 hP hS (lv_sub hl [4] rfl) h
              · clear h; intro g10 h
                refine q_iinc (k := 3) (lv' := fun t => [(3, .int (q_I t)), (0, .ref (z + o)), (1, .int (q_I a0)), (2, .int (q_I a1)), (4, .int (q_I x2))]) hx hb dX0_messageAt_44 hl rfl (by decide) (fun _ => rfl) h ?_
                clear h hl; intro x9 ls r9 hl h
                exact hj47 x9 _ _ _ r9 hP hS (lv_sub hl [1, 2, 3, 0, 4] rfl) h
            · clear h; intro g11 h
              exact hj47 x1 _ _ _ r1 hP hS (lv_sub hl [0, 1, 2, 3, 4] rfl) h
          · clear h; intro g12 h
            exact hj47 x1 _ _ _ r1 hP hS (lv_sub hl [0, 1, 2, 3, 4] rfl) h
  refine L5 _ _ ?_ ?_  _ 0 0 _ _ _ (q_r 0 rfl) (q_r 0 rfl) hP hS (lv_sub hl [2, 3, 4, 1, 0] rfl) h
  · clear h hl hP hS; intro x3 H locs ls r3 hP hS hl h
    refine lv_iload hx hb dX0_messageAt_41 (lv_at hl 0 rfl) ?_
    rw [← hQ]
    exact q_ret1 hx hb hr hlocks hP hS r3 h dX0_messageAt_43
  · clear h hl hP hS; intro  H locs ls  hP hS hl h
    refine lv_iconst (v := q_I (-1)) hx hb dX0_messageAt_53 rfl ?_
    rw [← hQ]
    exact q_ret1 hx hb hr hlocks hP hS (q_r (-1) rfl) h dX0_messageAt_54
set_option maxHeartbeats 4000000 in
set_option maxRecDepth 100000 in
theorem c_Ch_markerPlace (l : Launch) (D : va_G) (dA : Nat → ClassId) {z sz : Nat} {N : Nat} {o : Nat} (ho : o = 15 ∨ o = 38) {a0 : Int} (ra0 : q_R a0) {μ : q_M} {xo : Int} (h : f_Ch_markerPlace N o a0 μ = some xo) : Met l yX0_markerPlace (q_wc yX0_markerPlace cX0_markerPlace 3 (some .int)) ({ frames := 1, cells := 0, slots := 0, locals := 24 } : Room) (va_Pc [.ref (z + o), .int (q_I a0)] (q_B (q_P D dA q_kdC q_rhoC 77 z sz μ) D dA)) (q_Q (some (.int (q_I xo))) (q_R xo) (q_P D dA q_kdC q_rhoC 77 z sz μ) (q_A z 77)) 0 0 (q_A z 77) := by
  refine Met.ofW (cc := cX0_markerPlace) (maxL := 3) (ret := (some .int)) (by decide) rfl ?_
  intro p e s m args below meth c s₁ B hml hv
  obtain ⟨hargs, hP, hK⟩ := hv
  have hx := B.exec
  have hb := B.bytes
  have hr := B.returns
  have hts : ∀ w ∈ q_W, w.before args s = true := fun w hw => atoms_spec (ws := q_wc yX0_markerPlace cX0_markerPlace 3 (some .int)) B.pre w (List.mem_cons_of_mem _ hw)
  have hown : s.vm.findClass RX0 = some m.cls := findClass_of_methodNamed B.named
  have hlocks := B.notSynchronized
  have hS : va_S (q_A z 77) s.heap s.heap [] := va_S.rf
  have hA : ∀ k, k < 77 → q_A z 77 (z + k) := fun k hk => ⟨Nat.le_add_right z k, Nat.add_lt_add_left hk z⟩
  have hl := lv_entry [.ref (z + o), .int (q_I a0)] (n := 3) (Nat.le_of_ble_eq_true rfl)
  refine W.eq (by rw [hargs, lg_entry_eq]) ?_
  generalize (lg_sl [.ref (z + o), .int (q_I a0)] ++ List.replicate (3 - (lg_sl [.ref (z + o), .int (q_I a0)]).length) Slot.unset).toArray = ls at hl ⊢
  have hl : lv_has ls 3 [(0, .ref (z + o)), (1, .int (q_I a0))] := hl
  generalize hQ : MQ below _ args s 0 0 _ = Qf
  change W p l e ({ frames := 1, cells := 0, slots := 0, locals := 24 } : Room) s m args below meth c s.heap [] 0 0 Qf (F0 m 0 ls [])
  unfold f_Ch_markerPlace at h
  refine lv_aload_n hx hb dX0_markerPlace_0 rfl (lv_at hl 0 rfl) ?_
  refine q_getR hx hb hts hown hK hP fd_RX0_27 (q_ltK0 ho) (q_kdK_0 ho) rfl (q_rhK_0_6 ho) dX0_markerPlace_1 ?_
  refine lv_iload_n hx hb dX0_markerPlace_4 rfl (lv_at hl 1 rfl) ?_
  refine q_iald hx hb hK hP (q_ltK ho rfl) (q_kdK_6 ho) ra0 dX0_markerPlace_5 h ?_
  clear h; intro x1 r1 h
  refine lv_istore_n (lv' := [(2, .int (q_I x1)), (0, .ref (z + o)), (1, .int (q_I a0))]) hx hb dX0_markerPlace_6 rfl hl (by decide) rfl ?_
  clear hl; intro ls hl
  refine lv_iload_n hx hb dX0_markerPlace_7 rfl (lv_at hl 0 rfl) ?_
  refine lv_iconst (v := q_I (-1)) hx hb dX0_markerPlace_8 rfl ?_
  refine q_jn_in h (fun J => ∀ (x2 : Int) (H : Heap) (locs : List Loc) (ls : Array Slot), q_R x2 → q_P D dA q_kdC q_rhoC 77 z sz μ H → va_S (q_A z 77) s.heap H locs → lv_has ls 3 [] → J x2 = some xo → W p l e ({ frames := 1, cells := 0, slots := 0, locals := 24 } : Room) s m args below meth c H locs 0 0 Qf (F0 m 22 ls [.int (q_I x2)])) ?_ ?_
  · clear h hl hP hS; intro x2 H locs ls r2 hP hS hl h
    rw [← hQ]
    exact q_ret1 hx hb hr hlocks hP hS r2 h dX0_markerPlace_22
  · clear h; intro j22 hj22 h
    refine q_cne hx hb r1 (q_r (-1) rfl) (tgt := 16) dX0_markerPlace_9 (by decide) h ?_ ?_
    · clear h; intro g5 h
      refine lv_iconst (v := q_I (-1)) hx hb dX0_markerPlace_12 rfl ?_
      refine lv_goto (tgt := 22) hx hb dX0_markerPlace_13 (by decide) ?_
      exact hj22 ((-1)) _ _ _ (q_r (-1) rfl) hP hS (lv_sub hl [] rfl) h
    · clear h; intro g5 h
      refine lv_aload_n hx hb dX0_markerPlace_16 rfl (lv_at hl 1 rfl) ?_
      refine lv_iload_n hx hb dX0_markerPlace_17 rfl (lv_at hl 2 rfl) ?_
      refine lv_iload_n hx hb dX0_markerPlace_18 rfl (lv_at hl 0 rfl) ?_
      obtain ⟨x4, hv3, h⟩ := q_b_some h
      refine q_callV hx hb hml hts hown hK hP hS (As := [.int (q_I a0), .int (q_I x1)]) (rest := []) (st1 := [.int (q_I x4)]) cv_RX0_47 (c_Ch_waitingAhead l D dA ho ra0 r1 hv3) (q_ltK0 ho) (q_kdK_0 ho) rfl ⟨rfl, rfl, Nat.le_of_ble_eq_true rfl, Nat.le_of_ble_eq_true rfl⟩ ⟨Nat.le_refl _, Nat.le_refl _⟩ rfl hl.1 rfl (Nat.le_of_ble_eq_true rfl) rfl (fun _ g => g) dX0_markerPlace_19 ?_
      clear hP hS hv3; intro H locs r4 hP hS _
      exact hj22 x4 _ _ _ r4 hP hS (lv_sub hl [] rfl) h
set_option maxHeartbeats 4000000 in
set_option maxRecDepth 100000 in
theorem c_Ch_putMarker (l : Launch) (D : va_G) (dA : Nat → ClassId) {z sz : Nat} {o : Nat} (ho : o = 15 ∨ o = 38) {a0 : Int} (ra0 : q_R a0) {μ : q_M} {μo : q_M} (h : f_Ch_putMarker o a0 μ = some μo) : Met l yX0_putMarker (q_wc yX0_putMarker cX0_putMarker 2 none) ({ frames := 0, cells := 0, slots := 0, locals := 0 } : Room) (va_Pc [.ref (z + o), .int (q_I a0)] (q_B (q_P D dA q_kdC q_rhoC 77 z sz μ) D dA)) (q_Q none True (q_P D dA q_kdC q_rhoC 77 z sz μo) (q_A z 77)) 0 0 (q_A z 77) := by
  refine Met.ofW (cc := cX0_putMarker) (maxL := 2) (ret := none) (by decide) rfl ?_
  intro p e s m args below meth c s₁ B hml hv
  obtain ⟨hargs, hP, hK⟩ := hv
  have hx := B.exec
  have hb := B.bytes
  have hr := B.returns
  have hts : ∀ w ∈ q_W, w.before args s = true := fun w hw => atoms_spec (ws := q_wc yX0_putMarker cX0_putMarker 2 none) B.pre w (List.mem_cons_of_mem _ hw)
  have hown : s.vm.findClass RX0 = some m.cls := findClass_of_methodNamed B.named
  have hlocks := B.notSynchronized
  have hS : va_S (q_A z 77) s.heap s.heap [] := va_S.rf
  have hA : ∀ k, k < 77 → q_A z 77 (z + k) := fun k hk => ⟨Nat.le_add_right z k, Nat.add_lt_add_left hk z⟩
  have hl := lv_entry [.ref (z + o), .int (q_I a0)] (n := 2) (Nat.le_of_ble_eq_true rfl)
  refine W.eq (by rw [hargs, lg_entry_eq]) ?_
  generalize (lg_sl [.ref (z + o), .int (q_I a0)] ++ List.replicate (2 - (lg_sl [.ref (z + o), .int (q_I a0)]).length) Slot.unset).toArray = ls at hl ⊢
  have hl : lv_has ls 2 [(0, .ref (z + o)), (1, .int (q_I a0))] := hl
  generalize hQ : MQ below _ args s 0 0 _ = Qf
  change W p l e ({ frames := 0, cells := 0, slots := 0, locals := 0 } : Room) s m args below meth c s.heap [] 0 0 Qf (F0 m 0 ls [])
  unfold f_Ch_putMarker at h
  refine lv_aload_n hx hb dX0_putMarker_0 rfl (lv_at hl 0 rfl) ?_
  refine q_getR hx hb hts hown hK hP fd_RX0_27 (q_ltK0 ho) (q_kdK_0 ho) rfl (q_rhK_0_6 ho) dX0_putMarker_1 ?_
  refine lv_iload_n hx hb dX0_putMarker_4 rfl (lv_at hl 1 rfl) ?_
  refine lv_aload_n hx hb dX0_putMarker_5 rfl (lv_at hl 0 rfl) ?_
  refine q_getI hx hb hts hown hK hP fd_RX0_30 (q_ltK0 ho) (q_kdK_0 ho) rfl dX0_putMarker_6 h ?_
  clear h; intro x1 r1 h
  refine q_iast hx hb hK hP hS hA (q_ltK ho rfl) (q_kdK_6 ho) ra0 r1 dX0_putMarker_9 h ?_
  clear h hP hS; intro μ2 H locs hP hS h
  rw [← hQ]
  exact q_retv hx hb hr hlocks hP hS h dX0_putMarker_10
set_option maxHeartbeats 4000000 in
set_option maxRecDepth 100000 in
theorem c_Wo_noteEvents (l : Launch) (D : va_G) (dA : Nat → ClassId) {z sz : Nat} {N : Nat} {o : Nat} (ho : o = 1 ∨ o = 24) {a0 : Int} (ra0 : q_R a0) {μ : q_M} {μo : q_M} (h : f_Wo_noteEvents N o a0 μ = some μo) : Met l yX9_noteEvents (q_wc yX9_noteEvents cX9_noteEvents 3 none) ({ frames := 1, cells := 0, slots := 0, locals := 21 } : Room) (va_Pc [.ref (z + o), .int (q_I a0)] (q_B (q_P D dA q_kdC q_rhoC 77 z sz μ) D dA)) (q_Q none True (q_P D dA q_kdC q_rhoC 77 z sz μo) (q_A z 77)) 0 0 (q_A z 77) := by
  refine Met.ofW (cc := cX9_noteEvents) (maxL := 3) (ret := none) (by decide) rfl ?_
  intro p e s m args below meth c s₁ B hml hv
  obtain ⟨hargs, hP, hK⟩ := hv
  have hx := B.exec
  have hb := B.bytes
  have hr := B.returns
  have hts : ∀ w ∈ q_W, w.before args s = true := fun w hw => atoms_spec (ws := q_wc yX9_noteEvents cX9_noteEvents 3 none) B.pre w (List.mem_cons_of_mem _ hw)
  have hown : s.vm.findClass RX9 = some m.cls := findClass_of_methodNamed B.named
  have hlocks := B.notSynchronized
  have hS : va_S (q_A z 77) s.heap s.heap [] := va_S.rf
  have hA : ∀ k, k < 77 → q_A z 77 (z + k) := fun k hk => ⟨Nat.le_add_right z k, Nat.add_lt_add_left hk z⟩
  have hl := lv_entry [.ref (z + o), .int (q_I a0)] (n := 3) (Nat.le_of_ble_eq_true rfl)
  refine W.eq (by rw [hargs, lg_entry_eq]) ?_
  generalize (lg_sl [.ref (z + o), .int (q_I a0)] ++ List.replicate (3 - (lg_sl [.ref (z + o), .int (q_I a0)]).length) Slot.unset).toArray = ls at hl ⊢
  have hl : lv_has ls 3 [(0, .ref (z + o)), (1, .int (q_I a0))] := hl
  generalize hQ : MQ below _ args s 0 0 _ = Qf
  change W p l e ({ frames := 1, cells := 0, slots := 0, locals := 21 } : Room) s m args below meth c s.heap [] 0 0 Qf (F0 m 0 ls [])
  unfold f_Wo_noteEvents at h
  refine lv_aload_n hx hb dX9_noteEvents_0 rfl (lv_at hl 0 rfl) ?_
  refine q_getR hx hb hts hown hK hP fd_RX9_38 (q_ltW0 ho) (q_kdW_0 ho) rfl (q_rhW_0_6 ho) dX9_noteEvents_1 ?_
  refine q_getR hx hb hts hown hK hP fd_RX9_145 (q_ltW ho rfl) (q_kdW_21 ho) rfl (q_rhW_21_1 ho) dX9_noteEvents_4 ?_
  refine lv_iload_n hx hb dX9_noteEvents_7 rfl (lv_at hl 1 rfl) ?_
  refine lv_aload_n hx hb dX9_noteEvents_8 rfl (lv_at hl 0 rfl) ?_
  refine q_getR hx hb hts hown hK hP fd_RX9_24 (q_ltW0 ho) (q_kdW_0 ho) rfl (q_rhW_0_4 ho) dX9_noteEvents_9 ?_
  refine q_getR hx hb hts hown hK hP fd_RX9_161 (q_ltW ho rfl) (q_kdW_4 ho) rfl (q_rhW_4_9 ho) dX9_noteEvents_12 ?_
  refine lv_iload_n hx hb dX9_noteEvents_15 rfl (lv_at hl 1 rfl) ?_
  refine q_iald hx hb hK hP (q_ltW ho rfl) (q_kdW_13 ho) ra0 dX9_noteEvents_16 h ?_
  clear h; intro x1 r1 h
  refine q_iast hx hb hK hP hS hA (q_ltW ho rfl) (q_kdW_22 ho) ra0 r1 dX9_noteEvents_17 h ?_
  clear h hP hS; intro μ2 H locs hP hS h
  refine lv_iconst (v := q_I 0) hx hb dX9_noteEvents_18 rfl ?_
  refine lv_istore_n (lv' := [(2, .int (q_I 0)), (0, .ref (z + o)), (1, .int (q_I a0))]) hx hb dX9_noteEvents_19 rfl hl (by decide) rfl ?_
  clear hl; intro ls hl
  have L20 : ∀ (k51 : q_M → Option q_M), (∀ (μ5 : q_M) (H : Heap) (locs : List Loc) (ls : Array Slot), q_P D dA q_kdC q_rhoC 77 z sz μ5 H → va_S (q_A z 77) s.heap H locs → lv_has ls 3 [] → k51 μ5 = some μo → W p l e ({ frames := 1, cells := 0, slots := 0, locals := 21 } : Room) s m args below meth c H locs 0 0 Qf (F0 m 51 ls [])) → ∀ (nf20 : Nat) (x3 : Int) (μ4 : q_M) (H : Heap) (locs : List Loc) (ls : Array Slot), q_R x3 → q_P D dA q_kdC q_rhoC 77 z sz μ4 H → va_S (q_A z 77) s.heap H locs → lv_has ls 3 [(0, .ref (z + o)), (1, .int (q_I a0)), (2, .int (q_I x3))] → f_Wo_noteEvents_L20 o a0 k51 nf20 x3 μ4 = some μo → W p l e ({ frames := 1, cells := 0, slots := 0, locals := 21 } : Room) s m args below meth c H locs 0 0 Qf (F0 m 20 ls []) := by
    clear h hl hP hS
    intro k51 hk51 nf20
    induction nf20 with
    | zero =>
      intro x3 μ4 H locs ls r3 hP hS hl h
      rw [f_Wo_noteEvents_L20] at h
      cases h
    | succ nf20 ih20 =>
      intro x3 μ4 H locs ls r3 hP hS hl h
      rw [f_Wo_noteEvents_L20] at h
      refine lv_iload_n hx hb dX9_noteEvents_20 rfl (lv_at hl 2 rfl) ?_
      refine lv_aload_n hx hb dX9_noteEvents_21 rfl (lv_at hl 0 rfl) ?_
      refine q_getI hx hb hts hown hK hP fd_RX9_42 (q_ltW0 ho) (q_kdW_0 ho) rfl dX9_noteEvents_22 h ?_
      clear h; intro x6 r6 h
      refine q_cge hx hb r3 r6 (tgt := 51) dX9_noteEvents_25 (by decide) h ?_ ?_
      · clear h; intro g14 h
        exact hk51 μ4 _ _ _ hP hS (lv_sub hl [] rfl) h
      · clear h; intro g14 h
        refine lv_iload_n hx hb dX9_noteEvents_28 rfl (lv_at hl 2 rfl) ?_
        refine lv_iload_n hx hb dX9_noteEvents_29 rfl (lv_at hl 1 rfl) ?_
        refine q_jn_in h (fun J => ∀ (μ7 : q_M) (H : Heap) (locs : List Loc) (ls : Array Slot), q_P D dA q_kdC q_rhoC 77 z sz μ7 H → va_S (q_A z 77) s.heap H locs → lv_has ls 3 [(0, .ref (z + o)), (1, .int (q_I a0)), (2, .int (q_I x3))] → J μ7 = some μo → W p l e ({ frames := 1, cells := 0, slots := 0, locals := 21 } : Room) s m args below meth c H locs 0 0 Qf (F0 m 45 ls [])) ?_ ?_
        · clear h hl hP hS; intro μ7 H locs ls  hP hS hl h
          refine q_iinc (k := 2) (lv' := fun t => [(2, .int (q_I t)), (0, .ref (z + o)), (1, .int (q_I a0))]) hx hb dX9_noteEvents_45 hl rfl (by decide) (fun _ => rfl) h ?_
          clear h hl; intro x8 ls r8 hl h
          refine lv_goto (tgt := 20) hx hb dX9_noteEvents_48 (by decide) ?_
          exact ih20 x8 μ7 _ _ _ r8 hP hS (lv_sub hl [1, 2, 0] rfl) h
        · clear h; intro j45 hj45 h
          refine q_ceq hx hb r3 ra0 (tgt := 45) dX9_noteEvents_30 (by decide) h ?_ ?_
          · clear h; intro g13 h
            exact hj45 μ4 _ _ _ hP hS (lv_sub hl [0, 1, 2] rfl) h
          · clear h; intro g13 h
            refine lv_aload_n hx hb dX9_noteEvents_33 rfl (lv_at hl 0 rfl) ?_
            refine q_getR hx hb hts hown hK hP fd_RX9_31 (q_ltW0 ho) (q_kdW_0 ho) rfl (q_rhW_0_5 ho) dX9_noteEvents_34 ?_
            refine lv_iload_n hx hb dX9_noteEvents_37 rfl (lv_at hl 1 rfl) ?_
            refine lv_iload_n hx hb dX9_noteEvents_38 rfl (lv_at hl 2 rfl) ?_
            obtain ⟨x10, hv9, h⟩ := q_b_some h
            refine q_callN hx hb hml hts hown hK hP hS (As := [.int (q_I a0), .int (q_I x3)]) (rest := [.ref (z + (o + 14))]) (st1 := [.int (q_I x10), .ref (z + (o + 14))]) cn_RX9_117 (c_CR_channelOf l D dA ra0 r3 hv9) ⟨rfl, rfl, Nat.le_of_ble_eq_true rfl, Nat.le_of_ble_eq_true rfl⟩ ⟨Nat.le_refl _, Nat.le_refl _⟩ rfl hl.1 rfl (Nat.le_of_ble_eq_true rfl) rfl (fun _ g => g) dX9_noteEvents_39 ?_
            clear hP hS hv9; intro H locs r10 hP hS _
            obtain ⟨μ12, hv11, h⟩ := q_b_some h
            refine q_callV hx hb hml hts hown hK hP hS (As := [.int (q_I x10)]) (rest := []) (st1 := []) cv_RX9_164 (c_Ch_putMarker l D dA (by omega) r10 hv11) (q_ltW ho rfl) (q_kdW_14 ho) rfl ⟨rfl, rfl, Nat.le_of_ble_eq_true rfl, Nat.le_of_ble_eq_true rfl⟩ ⟨Nat.le_refl _, Nat.le_refl _⟩ rfl hl.1 rfl (Nat.le_of_ble_eq_true rfl) rfl (fun _ g => g) dX9_noteEvents_42 ?_
            clear hP hS hv11; intro H locs _ hP hS _
            exact hj45 μ12 _ _ _ hP hS (lv_sub hl [0, 1, 2] rfl) h
  refine L20 _ ?_  _ 0 μ2 _ _ _ (q_r 0 rfl) hP hS (lv_sub hl [1, 2, 0] rfl) h
  · clear h hl hP hS; intro μ5 H locs ls  hP hS hl h
    rw [← hQ]
    exact q_retv hx hb hr hlocks hP hS h dX9_noteEvents_51
set_option maxHeartbeats 4000000 in
set_option maxRecDepth 100000 in
theorem c_Sn_hasAll (l : Launch) (D : va_G) (dA : Nat → ClassId) {z sz : Nat} {N : Nat} {o : Nat} (ho : o = 22 ∨ o = 45) {a0 : Int} (ra0 : q_R a0) {μ : q_M} {xo : Int} (h : f_Sn_hasAll N o a0 μ = some xo) : Met l yX7_hasAll (q_wc yX7_hasAll cX7_hasAll 3 (some .boolean)) ({ frames := 0, cells := 0, slots := 0, locals := 0 } : Room) (va_Pc [.ref (z + o), .int (q_I a0)] (q_B (q_P D dA q_kdC q_rhoC 77 z sz μ) D dA)) (q_Q (some (.int (q_I xo))) (q_R xo) (q_P D dA q_kdC q_rhoC 77 z sz μ) (q_A z 77)) 0 0 (q_A z 77) := by
  refine Met.ofW (cc := cX7_hasAll) (maxL := 3) (ret := (some .boolean)) (by decide) rfl ?_
  intro p e s m args below meth c s₁ B hml hv
  obtain ⟨hargs, hP, hK⟩ := hv
  have hx := B.exec
  have hb := B.bytes
  have hr := B.returns
  have hts : ∀ w ∈ q_W, w.before args s = true := fun w hw => atoms_spec (ws := q_wc yX7_hasAll cX7_hasAll 3 (some .boolean)) B.pre w (List.mem_cons_of_mem _ hw)
  have hown : s.vm.findClass RX7 = some m.cls := findClass_of_methodNamed B.named
  have hlocks := B.notSynchronized
  have hS : va_S (q_A z 77) s.heap s.heap [] := va_S.rf
  have hA : ∀ k, k < 77 → q_A z 77 (z + k) := fun k hk => ⟨Nat.le_add_right z k, Nat.add_lt_add_left hk z⟩
  have hl := lv_entry [.ref (z + o), .int (q_I a0)] (n := 3) (Nat.le_of_ble_eq_true rfl)
  refine W.eq (by rw [hargs, lg_entry_eq]) ?_
  generalize (lg_sl [.ref (z + o), .int (q_I a0)] ++ List.replicate (3 - (lg_sl [.ref (z + o), .int (q_I a0)]).length) Slot.unset).toArray = ls at hl ⊢
  have hl : lv_has ls 3 [(0, .ref (z + o)), (1, .int (q_I a0))] := hl
  generalize hQ : MQ below _ args s 0 0 _ = Qf
  change W p l e ({ frames := 0, cells := 0, slots := 0, locals := 0 } : Room) s m args below meth c s.heap [] 0 0 Qf (F0 m 0 ls [])
  unfold f_Sn_hasAll at h
  refine lv_iconst (v := q_I 0) hx hb dX7_hasAll_0 rfl ?_
  refine lv_istore_n (lv' := [(2, .int (q_I 0)), (0, .ref (z + o)), (1, .int (q_I a0))]) hx hb dX7_hasAll_1 rfl hl (by decide) rfl ?_
  clear hl; intro ls hl
  have L2 : ∀ (k17 : Option Int) (k25 : Option Int), (∀ (H : Heap) (locs : List Loc) (ls : Array Slot), q_P D dA q_kdC q_rhoC 77 z sz μ H → va_S (q_A z 77) s.heap H locs → lv_has ls 3 [] → k17 = some xo → W p l e ({ frames := 0, cells := 0, slots := 0, locals := 0 } : Room) s m args below meth c H locs 0 0 Qf (F0 m 17 ls [])) → (∀ (H : Heap) (locs : List Loc) (ls : Array Slot), q_P D dA q_kdC q_rhoC 77 z sz μ H → va_S (q_A z 77) s.heap H locs → lv_has ls 3 [] → k25 = some xo → W p l e ({ frames := 0, cells := 0, slots := 0, locals := 0 } : Room) s m args below meth c H locs 0 0 Qf (F0 m 25 ls [])) → ∀ (nf2 : Nat) (x1 : Int) (H : Heap) (locs : List Loc) (ls : Array Slot), q_R x1 → q_P D dA q_kdC q_rhoC 77 z sz μ H → va_S (q_A z 77) s.heap H locs → lv_has ls 3 [(0, .ref (z + o)), (1, .int (q_I a0)), (2, .int (q_I x1))] → f_Sn_hasAll_L2 o a0 μ k17 k25 nf2 x1 = some xo → W p l e ({ frames := 0, cells := 0, slots := 0, locals := 0 } : Room) s m args below meth c H locs 0 0 Qf (F0 m 2 ls []) := by
    clear h hl hP hS
    intro k17 k25 hk17 hk25 nf2
    induction nf2 with
    | zero =>
      intro x1 H locs ls r1 hP hS hl h
      rw [f_Sn_hasAll_L2] at h
      cases h
    | succ nf2 ih2 =>
      intro x1 H locs ls r1 hP hS hl h
      rw [f_Sn_hasAll_L2] at h
      refine lv_iload_n hx hb dX7_hasAll_2 rfl (lv_at hl 2 rfl) ?_
      refine lv_iload_n hx hb dX7_hasAll_3 rfl (lv_at hl 1 rfl) ?_
      refine q_cge hx hb r1 ra0 (tgt := 25) dX7_hasAll_4 (by decide) h ?_ ?_
      · clear h; intro g5 h
        exact hk25  _ _ _ hP hS (lv_sub hl [] rfl) h
      · clear h; intro g5 h
        refine lv_aload_n hx hb dX7_hasAll_7 rfl (lv_at hl 0 rfl) ?_
        refine q_getR hx hb hts hown hK hP fd_RX7_9 (q_ltS0 ho) (q_kdS_0 ho) rfl (q_rhS_0_1 ho) dX7_hasAll_8 ?_
        refine lv_iload_n hx hb dX7_hasAll_11 rfl (lv_at hl 2 rfl) ?_
        refine q_iald hx hb hK hP (q_ltS ho rfl) (q_kdS_1 ho) r1 dX7_hasAll_12 h ?_
        clear h; intro x2 r2 h
        refine lv_iconst (v := q_I (-1)) hx hb dX7_hasAll_13 rfl ?_
        refine q_cne hx hb r2 (q_r (-1) rfl) (tgt := 19) dX7_hasAll_14 (by decide) h ?_ ?_
        · clear h; intro g4 h
          exact hk17  _ _ _ hP hS (lv_sub hl [] rfl) h
        · clear h; intro g4 h
          refine q_iinc (k := 2) (lv' := fun t => [(2, .int (q_I t)), (0, .ref (z + o)), (1, .int (q_I a0))]) hx hb dX7_hasAll_19 hl rfl (by decide) (fun _ => rfl) h ?_
          clear h hl; intro x3 ls r3 hl h
          refine lv_goto (tgt := 2) hx hb dX7_hasAll_22 (by decide) ?_
          exact ih2 x3 _ _ _ r3 hP hS (lv_sub hl [1, 2, 0] rfl) h
  refine L2 _ _ ?_ ?_  _ 0 _ _ _ (q_r 0 rfl) hP hS (lv_sub hl [1, 2, 0] rfl) h
  · clear h hl hP hS; intro  H locs ls  hP hS hl h
    refine lv_iconst (v := q_I 0) hx hb dX7_hasAll_17 rfl ?_
    rw [← hQ]
    exact q_retz1 hx hb hr hlocks hP hS (Or.inl rfl) h dX7_hasAll_18
  · clear h hl hP hS; intro  H locs ls  hP hS hl h
    refine lv_iconst (v := q_I 1) hx hb dX7_hasAll_25 rfl ?_
    rw [← hQ]
    exact q_retz1 hx hb hr hlocks hP hS (Or.inr rfl) h dX7_hasAll_26
set_option maxHeartbeats 4000000 in
set_option maxRecDepth 100000 in
theorem c_Ch_waitingMarkers (l : Launch) (D : va_G) (dA : Nat → ClassId) {z sz : Nat} {N : Nat} {o : Nat} (ho : o = 15 ∨ o = 38) {μ : q_M} {xo : Int} (h : f_Ch_waitingMarkers N o μ = some xo) : Met l yX0_waitingMarkers (q_wc yX0_waitingMarkers cX0_waitingMarkers 3 (some .int)) ({ frames := 0, cells := 0, slots := 0, locals := 0 } : Room) (va_Pc [.ref (z + o)] (q_B (q_P D dA q_kdC q_rhoC 77 z sz μ) D dA)) (q_Q (some (.int (q_I xo))) (q_R xo) (q_P D dA q_kdC q_rhoC 77 z sz μ) (q_A z 77)) 0 0 (q_A z 77) := by
  refine Met.ofW (cc := cX0_waitingMarkers) (maxL := 3) (ret := (some .int)) (by decide) rfl ?_
  intro p e s m args below meth c s₁ B hml hv
  obtain ⟨hargs, hP, hK⟩ := hv
  have hx := B.exec
  have hb := B.bytes
  have hr := B.returns
  have hts : ∀ w ∈ q_W, w.before args s = true := fun w hw => atoms_spec (ws := q_wc yX0_waitingMarkers cX0_waitingMarkers 3 (some .int)) B.pre w (List.mem_cons_of_mem _ hw)
  have hown : s.vm.findClass RX0 = some m.cls := findClass_of_methodNamed B.named
  have hlocks := B.notSynchronized
  have hS : va_S (q_A z 77) s.heap s.heap [] := va_S.rf
  have hA : ∀ k, k < 77 → q_A z 77 (z + k) := fun k hk => ⟨Nat.le_add_right z k, Nat.add_lt_add_left hk z⟩
  have hl := lv_entry [.ref (z + o)] (n := 3) (Nat.le_of_ble_eq_true rfl)
  refine W.eq (by rw [hargs, lg_entry_eq]) ?_
  generalize (lg_sl [.ref (z + o)] ++ List.replicate (3 - (lg_sl [.ref (z + o)]).length) Slot.unset).toArray = ls at hl ⊢
  have hl : lv_has ls 3 [(0, .ref (z + o))] := hl
  generalize hQ : MQ below _ args s 0 0 _ = Qf
  change W p l e ({ frames := 0, cells := 0, slots := 0, locals := 0 } : Room) s m args below meth c s.heap [] 0 0 Qf (F0 m 0 ls [])
  unfold f_Ch_waitingMarkers at h
  refine lv_iconst (v := q_I 0) hx hb dX0_waitingMarkers_0 rfl ?_
  refine lv_istore_n (lv' := [(1, .int (q_I 0)), (0, .ref (z + o))]) hx hb dX0_waitingMarkers_1 rfl hl (by decide) rfl ?_
  clear hl; intro ls hl
  refine lv_iconst (v := q_I 0) hx hb dX0_waitingMarkers_2 rfl ?_
  refine lv_istore_n (lv' := [(2, .int (q_I 0)), (1, .int (q_I 0)), (0, .ref (z + o))]) hx hb dX0_waitingMarkers_3 rfl hl (by decide) rfl ?_
  clear hl; intro ls hl
  have L4 : ∀ (k32 : Int → Option Int), (∀ (x3 : Int) (H : Heap) (locs : List Loc) (ls : Array Slot), q_R x3 → q_P D dA q_kdC q_rhoC 77 z sz μ H → va_S (q_A z 77) s.heap H locs → lv_has ls 3 [(1, .int (q_I x3))] → k32 x3 = some xo → W p l e ({ frames := 0, cells := 0, slots := 0, locals := 0 } : Room) s m args below meth c H locs 0 0 Qf (F0 m 32 ls [])) → ∀ (nf4 : Nat) (x1 : Int) (x2 : Int) (H : Heap) (locs : List Loc) (ls : Array Slot), q_R x1 → q_R x2 → q_P D dA q_kdC q_rhoC 77 z sz μ H → va_S (q_A z 77) s.heap H locs → lv_has ls 3 [(0, .ref (z + o)), (1, .int (q_I x1)), (2, .int (q_I x2))] → f_Ch_waitingMarkers_L4 o μ k32 nf4 x1 x2 = some xo → W p l e ({ frames := 0, cells := 0, slots := 0, locals := 0 } : Room) s m args below meth c H locs 0 0 Qf (F0 m 4 ls []) := by
    clear h hl hP hS
    intro k32 hk32 nf4
    induction nf4 with
    | zero =>
      intro x1 x2 H locs ls r1 r2 hP hS hl h
      rw [f_Ch_waitingMarkers_L4] at h
      cases h
    | succ nf4 ih4 =>
      intro x1 x2 H locs ls r1 r2 hP hS hl h
      rw [f_Ch_waitingMarkers_L4] at h
      refine lv_iload_n hx hb dX0_waitingMarkers_4 rfl (lv_at hl 2 rfl) ?_
      refine lv_aload_n hx hb dX0_waitingMarkers_5 rfl (lv_at hl 0 rfl) ?_
      refine q_getR hx hb hts hown hK hP fd_RX0_27 (q_ltK0 ho) (q_kdK_0 ho) rfl (q_rhK_0_6 ho) dX0_waitingMarkers_6 ?_
      refine q_alen (v := 25) hx hb hK hP (q_ltK ho rfl) (q_kdK_6 ho) (by decide) rfl dX0_waitingMarkers_9 ?_
      refine q_cge hx hb r2 (q_r 25 rfl) (tgt := 32) dX0_waitingMarkers_10 (by decide) h ?_ ?_
      · clear h; intro g9 h
        exact hk32 x1 _ _ _ r1 hP hS (lv_sub hl [1] rfl) h
      · clear h; intro g9 h
        refine lv_aload_n hx hb dX0_waitingMarkers_13 rfl (lv_at hl 0 rfl) ?_
        refine q_getR hx hb hts hown hK hP fd_RX0_27 (q_ltK0 ho) (q_kdK_0 ho) rfl (q_rhK_0_6 ho) dX0_waitingMarkers_14 ?_
        refine lv_iload_n hx hb dX0_waitingMarkers_17 rfl (lv_at hl 2 rfl) ?_
        refine q_iald hx hb hK hP (q_ltK ho rfl) (q_kdK_6 ho) r2 dX0_waitingMarkers_18 h ?_
        clear h; intro x4 r4 h
        refine lv_iconst (v := q_I (-1)) hx hb dX0_waitingMarkers_19 rfl ?_
        refine q_jn_in h (fun J => ∀ (x5 : Int) (H : Heap) (locs : List Loc) (ls : Array Slot), q_R x5 → q_P D dA q_kdC q_rhoC 77 z sz μ H → va_S (q_A z 77) s.heap H locs → lv_has ls 3 [(0, .ref (z + o)), (1, .int (q_I x5)), (2, .int (q_I x2))] → J x5 = some xo → W p l e ({ frames := 0, cells := 0, slots := 0, locals := 0 } : Room) s m args below meth c H locs 0 0 Qf (F0 m 26 ls [])) ?_ ?_
        · clear h hl hP hS; intro x5 H locs ls r5 hP hS hl h
          refine q_iinc (k := 2) (lv' := fun t => [(2, .int (q_I t)), (0, .ref (z + o)), (1, .int (q_I x5))]) hx hb dX0_waitingMarkers_26 hl rfl (by decide) (fun _ => rfl) h ?_
          clear h hl; intro x6 ls r6 hl h
          refine lv_goto (tgt := 4) hx hb dX0_waitingMarkers_29 (by decide) ?_
          exact ih4 x5 x6 _ _ _ r5 r6 hP hS (lv_sub hl [1, 2, 0] rfl) h
        · clear h; intro j26 hj26 h
          refine q_ceq hx hb r4 (q_r (-1) rfl) (tgt := 26) dX0_waitingMarkers_20 (by decide) h ?_ ?_
          · clear h; intro g8 h
            exact hj26 x1 _ _ _ r1 hP hS (lv_sub hl [0, 1, 2] rfl) h
          · clear h; intro g8 h
            refine q_iinc (k := 1) (lv' := fun t => [(1, .int (q_I t)), (0, .ref (z + o)), (2, .int (q_I x2))]) hx hb dX0_waitingMarkers_23 hl rfl (by decide) (fun _ => rfl) h ?_
            clear h hl; intro x7 ls r7 hl h
            exact hj26 x7 _ _ _ r7 hP hS (lv_sub hl [1, 0, 2] rfl) h
  refine L4 _ ?_  _ 0 0 _ _ _ (q_r 0 rfl) (q_r 0 rfl) hP hS (lv_sub hl [2, 1, 0] rfl) h
  · clear h hl hP hS; intro x3 H locs ls r3 hP hS hl h
    refine lv_iload_n hx hb dX0_waitingMarkers_32 rfl (lv_at hl 0 rfl) ?_
    rw [← hQ]
    exact q_ret1 hx hb hr hlocks hP hS r3 h dX0_waitingMarkers_33
set_option maxHeartbeats 4000000 in
set_option maxRecDepth 100000 in
theorem c_Wo_takeMarker (l : Launch) (D : va_G) (dA : Nat → ClassId) {z sz : Nat} {N : Nat} {o : Nat} (ho : o = 1 ∨ o = 24) {a0 : Int} (ra0 : q_R a0) {a1 : Int} (ra1 : q_R a1) {μ : q_M} {μo : q_M} (h : f_Wo_takeMarker N o a0 a1 μ = some μo) : Met l yX9_takeMarker (q_wc yX9_takeMarker cX9_takeMarker 3 none) ({ frames := 2, cells := 0, slots := 0, locals := 43 } : Room) (va_Pc [.ref (z + o), .int (q_I a0), .int (q_I a1)] (q_B (q_P D dA q_kdC q_rhoC 77 z sz μ) D dA)) (q_Q none True (q_P D dA q_kdC q_rhoC 77 z sz μo) (q_A z 77)) 0 0 (q_A z 77) := by
  refine Met.ofW (cc := cX9_takeMarker) (maxL := 3) (ret := none) (by decide) rfl ?_
  intro p e s m args below meth c s₁ B hml hv
  obtain ⟨hargs, hP, hK⟩ := hv
  have hx := B.exec
  have hb := B.bytes
  have hr := B.returns
  have hts : ∀ w ∈ q_W, w.before args s = true := fun w hw => atoms_spec (ws := q_wc yX9_takeMarker cX9_takeMarker 3 none) B.pre w (List.mem_cons_of_mem _ hw)
  have hown : s.vm.findClass RX9 = some m.cls := findClass_of_methodNamed B.named
  have hlocks := B.notSynchronized
  have hS : va_S (q_A z 77) s.heap s.heap [] := va_S.rf
  have hA : ∀ k, k < 77 → q_A z 77 (z + k) := fun k hk => ⟨Nat.le_add_right z k, Nat.add_lt_add_left hk z⟩
  have hl := lv_entry [.ref (z + o), .int (q_I a0), .int (q_I a1)] (n := 3) (Nat.le_of_ble_eq_true rfl)
  refine W.eq (by rw [hargs, lg_entry_eq]) ?_
  generalize (lg_sl [.ref (z + o), .int (q_I a0), .int (q_I a1)] ++ List.replicate (3 - (lg_sl [.ref (z + o), .int (q_I a0), .int (q_I a1)]).length) Slot.unset).toArray = ls at hl ⊢
  have hl : lv_has ls 3 [(0, .ref (z + o)), (1, .int (q_I a0)), (2, .int (q_I a1))] := hl
  generalize hQ : MQ below _ args s 0 0 _ = Qf
  change W p l e ({ frames := 2, cells := 0, slots := 0, locals := 43 } : Room) s m args below meth c s.heap [] 0 0 Qf (F0 m 0 ls [])
  unfold f_Wo_takeMarker at h
  refine lv_aload_n hx hb dX9_takeMarker_0 rfl (lv_at hl 0 rfl) ?_
  refine q_getR hx hb hts hown hK hP fd_RX9_31 (q_ltW0 ho) (q_kdW_0 ho) rfl (q_rhW_0_5 ho) dX9_takeMarker_1 ?_
  refine q_getR hx hb hts hown hK hP fd_RX9_142 (q_ltW ho rfl) (q_kdW_14 ho) rfl (q_rhW_14_6 ho) dX9_takeMarker_4 ?_
  refine lv_iload_n hx hb dX9_takeMarker_7 rfl (lv_at hl 2 rfl) ?_
  refine lv_iconst (v := q_I (-1)) hx hb dX9_takeMarker_8 rfl ?_
  refine q_iast hx hb hK hP hS hA (q_ltW ho rfl) (q_kdW_20 ho) ra1 (q_r (-1) rfl) dX9_takeMarker_9 h ?_
  clear h hP hS; intro μ1 H locs hP hS h
  refine lv_aload_n hx hb dX9_takeMarker_10 rfl (lv_at hl 0 rfl) ?_
  refine q_getR hx hb hts hown hK hP fd_RX9_38 (q_ltW0 ho) (q_kdW_0 ho) rfl (q_rhW_0_6 ho) dX9_takeMarker_11 ?_
  refine q_getR hx hb hts hown hK hP fd_RX9_145 (q_ltW ho rfl) (q_kdW_21 ho) rfl (q_rhW_21_1 ho) dX9_takeMarker_14 ?_
  refine lv_iload_n hx hb dX9_takeMarker_17 rfl (lv_at hl 1 rfl) ?_
  refine q_iald hx hb hK hP (q_ltW ho rfl) (q_kdW_22 ho) ra0 dX9_takeMarker_18 h ?_
  clear h; intro x2 r2 h
  refine lv_iconst (v := q_I (-1)) hx hb dX9_takeMarker_19 rfl ?_
  refine q_jn_in h (fun J => ∀ (μ3 : q_M) (H : Heap) (locs : List Loc) (ls : Array Slot), q_P D dA q_kdC q_rhoC 77 z sz μ3 H → va_S (q_A z 77) s.heap H locs → lv_has ls 3 [(0, .ref (z + o))] → J μ3 = some μo → W p l e ({ frames := 2, cells := 0, slots := 0, locals := 43 } : Room) s m args below meth c H locs 0 0 Qf (F0 m 28 ls [])) ?_ ?_
  · clear h hl hP hS; intro μ3 H locs ls  hP hS hl h
    refine lv_aload_n hx hb dX9_takeMarker_28 rfl (lv_at hl 0 rfl) ?_
    refine q_getR hx hb hts hown hK hP fd_RX9_38 (q_ltW0 ho) (q_kdW_0 ho) rfl (q_rhW_0_6 ho) dX9_takeMarker_29 ?_
    refine lv_aload_n hx hb dX9_takeMarker_32 rfl (lv_at hl 0 rfl) ?_
    refine q_getI hx hb hts hown hK hP fd_RX9_42 (q_ltW0 ho) (q_kdW_0 ho) rfl dX9_takeMarker_33 h ?_
    clear h; intro x4 r4 h
    obtain ⟨x6, hv5, h⟩ := q_b_some h
    refine q_callV hx hb hml hts hown hK hP hS (As := [.int (q_I x4)]) (rest := []) (st1 := [.int (q_I x6)]) cv_RX9_151 (c_Sn_hasAll l D dA (by omega) r4 hv5) (q_ltW ho rfl) (q_kdW_21 ho) rfl ⟨rfl, rfl, Nat.le_of_ble_eq_true rfl, Nat.le_of_ble_eq_true rfl⟩ ⟨Nat.le_refl _, Nat.le_refl _⟩ rfl hl.1 rfl (Nat.le_of_ble_eq_true rfl) rfl (fun _ g => g) dX9_takeMarker_36 ?_
    clear hP hS hv5; intro H locs r6 hP hS _
    refine q_jn_in h (fun J => ∀ (μ7 : q_M) (H : Heap) (locs : List Loc) (ls : Array Slot), q_P D dA q_kdC q_rhoC 77 z sz μ7 H → va_S (q_A z 77) s.heap H locs → lv_has ls 3 [] → J μ7 = some μo → W p l e ({ frames := 2, cells := 0, slots := 0, locals := 43 } : Room) s m args below meth c H locs 0 0 Qf (F0 m 60 ls [])) ?_ ?_
    · clear h hl hP hS; intro μ7 H locs ls  hP hS hl h
      rw [← hQ]
      exact q_retv hx hb hr hlocks hP hS h dX9_takeMarker_60
    · clear h; intro j60 hj60 h
      refine q_zeq hx hb r6 (tgt := 60) dX9_takeMarker_39 (by decide) h ?_ ?_
      · clear h; intro g12 h
        exact hj60 μ3 _ _ _ hP hS (lv_sub hl [] rfl) h
      · clear h; intro g12 h
        refine lv_aload_n hx hb dX9_takeMarker_42 rfl (lv_at hl 0 rfl) ?_
        refine q_getR hx hb hts hown hK hP fd_RX9_31 (q_ltW0 ho) (q_kdW_0 ho) rfl (q_rhW_0_5 ho) dX9_takeMarker_43 ?_
        obtain ⟨x9, hv8, h⟩ := q_b_some h
        refine q_callV hx hb hml hts hown hK hP hS (As := []) (rest := []) (st1 := [.int (q_I x9)]) cv_RX9_154 (c_Ch_waitingMarkers l D dA (by omega) hv8) (q_ltW ho rfl) (q_kdW_14 ho) rfl ⟨rfl, rfl, Nat.le_of_ble_eq_true rfl, Nat.le_of_ble_eq_true rfl⟩ ⟨Nat.le_refl _, Nat.le_refl _⟩ rfl hl.1 rfl (Nat.le_of_ble_eq_true rfl) rfl (fun _ g => g) dX9_takeMarker_46 ?_
        clear hP hS hv8; intro H locs r9 hP hS _
        refine q_zne hx hb r9 (tgt := 60) dX9_takeMarker_49 (by decide) h ?_ ?_
        · clear h; intro g11 h
          refine lv_aload_n hx hb dX9_takeMarker_52 rfl (lv_at hl 0 rfl) ?_
          refine q_getR hx hb hts hown hK hP fd_RX9_38 (q_ltW0 ho) (q_kdW_0 ho) rfl (q_rhW_0_6 ho) dX9_takeMarker_53 ?_
          refine lv_iconst (v := q_I 2) hx hb dX9_takeMarker_56 rfl ?_
          refine q_putI hx hb hts hown hK hP hS hA fd_RX9_158 (q_ltW ho rfl) (q_kdW_21 ho) rfl (q_r 2 rfl) dX9_takeMarker_57 h ?_
          clear h hP hS; intro μ10 H locs hP hS h
          exact hj60 μ10 _ _ _ hP hS (lv_sub hl [] rfl) h
        · clear h; intro g11 h
          exact hj60 μ3 _ _ _ hP hS (lv_sub hl [] rfl) h
  · clear h; intro j28 hj28 h
    refine q_cne hx hb r2 (q_r (-1) rfl) (tgt := 28) dX9_takeMarker_20 (by decide) h ?_ ?_
    · clear h; intro g15 h
      refine lv_aload_n hx hb dX9_takeMarker_23 rfl (lv_at hl 0 rfl) ?_
      refine lv_iload_n hx hb dX9_takeMarker_24 rfl (lv_at hl 1 rfl) ?_
      obtain ⟨μ14, hv13, h⟩ := q_b_some h
      refine q_callV hx hb hml hts hown hK hP hS (As := [.int (q_I a0)]) (rest := []) (st1 := []) cv_RX9_148 (c_Wo_noteEvents l D dA ho ra0 hv13) (q_ltW0 ho) (q_kdW_0 ho) rfl ⟨rfl, rfl, Nat.le_of_ble_eq_true rfl, Nat.le_of_ble_eq_true rfl⟩ ⟨Nat.le_refl _, Nat.le_refl _⟩ rfl hl.1 rfl (Nat.le_of_ble_eq_true rfl) rfl (fun _ g => g) dX9_takeMarker_25 ?_
      clear hP hS hv13; intro H locs _ hP hS _
      exact hj28 μ14 _ _ _ hP hS (lv_sub hl [0] rfl) h
    · clear h; intro g15 h
      exact hj28 μ1 _ _ _ hP hS (lv_sub hl [0] rfl) h
set_option maxHeartbeats 4000000 in
set_option maxRecDepth 100000 in
theorem c_Hi_learnFrom (l : Launch) (D : va_G) (dA : Nat → ClassId) {z sz : Nat} {N : Nat} {o : Nat} (ho : o = 5 ∨ o = 28) {a0 : Int} (ra0 : q_R a0) {a1 : Int} (ra1 : q_R a1) {μ : q_M} {μo : q_M} (h : f_Hi_learnFrom N o a0 a1 μ = some μo) : Met l yX3_learnFrom (q_wc yX3_learnFrom cX3_learnFrom 5 none) ({ frames := 1, cells := 0, slots := 0, locals := 21 } : Room) (va_Pc [.ref (z + o), .int (q_I a0), .int (q_I a1)] (q_B (q_P D dA q_kdC q_rhoC 77 z sz μ) D dA)) (q_Q none True (q_P D dA q_kdC q_rhoC 77 z sz μo) (q_A z 77)) 0 0 (q_A z 77) := by
  refine Met.ofW (cc := cX3_learnFrom) (maxL := 5) (ret := none) (by decide) rfl ?_
  intro p e s m args below meth c s₁ B hml hv
  obtain ⟨hargs, hP, hK⟩ := hv
  have hx := B.exec
  have hb := B.bytes
  have hr := B.returns
  have hts : ∀ w ∈ q_W, w.before args s = true := fun w hw => atoms_spec (ws := q_wc yX3_learnFrom cX3_learnFrom 5 none) B.pre w (List.mem_cons_of_mem _ hw)
  have hown : s.vm.findClass RX3 = some m.cls := findClass_of_methodNamed B.named
  have hlocks := B.notSynchronized
  have hS : va_S (q_A z 77) s.heap s.heap [] := va_S.rf
  have hA : ∀ k, k < 77 → q_A z 77 (z + k) := fun k hk => ⟨Nat.le_add_right z k, Nat.add_lt_add_left hk z⟩
  have hl := lv_entry [.ref (z + o), .int (q_I a0), .int (q_I a1)] (n := 5) (Nat.le_of_ble_eq_true rfl)
  refine W.eq (by rw [hargs, lg_entry_eq]) ?_
  generalize (lg_sl [.ref (z + o), .int (q_I a0), .int (q_I a1)] ++ List.replicate (5 - (lg_sl [.ref (z + o), .int (q_I a0), .int (q_I a1)]).length) Slot.unset).toArray = ls at hl ⊢
  have hl : lv_has ls 5 [(0, .ref (z + o)), (1, .int (q_I a0)), (2, .int (q_I a1))] := hl
  generalize hQ : MQ below _ args s 0 0 _ = Qf
  change W p l e ({ frames := 1, cells := 0, slots := 0, locals := 21 } : Room) s m args below meth c s.heap [] 0 0 Qf (F0 m 0 ls [])
  unfold f_Hi_learnFrom at h
  refine lv_iload_n hx hb dX3_learnFrom_0 rfl (lv_at hl 2 rfl) ?_
  refine lv_iconst (v := q_I (-1)) hx hb dX3_learnFrom_1 rfl ?_
  refine q_cne hx hb ra1 (q_r (-1) rfl) (tgt := 6) dX3_learnFrom_2 (by decide) h ?_ ?_
  · clear h; intro g14 h
    rw [← hQ]
    exact q_retv hx hb hr hlocks hP hS h dX3_learnFrom_5
  · clear h; intro g14 h
    refine lv_iconst (v := q_I 0) hx hb dX3_learnFrom_6 rfl ?_
    refine lv_istore_n (lv' := [(3, .int (q_I 0)), (0, .ref (z + o)), (1, .int (q_I a0)), (2, .int (q_I a1))]) hx hb dX3_learnFrom_7 rfl hl (by decide) rfl ?_
    clear hl; intro ls hl
    have L8 : ∀ (k53 : q_M → Option q_M), (∀ (μ3 : q_M) (H : Heap) (locs : List Loc) (ls : Array Slot), q_P D dA q_kdC q_rhoC 77 z sz μ3 H → va_S (q_A z 77) s.heap H locs → lv_has ls 5 [] → k53 μ3 = some μo → W p l e ({ frames := 1, cells := 0, slots := 0, locals := 21 } : Room) s m args below meth c H locs 0 0 Qf (F0 m 53 ls [])) → ∀ (nf8 : Nat) (x1 : Int) (μ2 : q_M) (H : Heap) (locs : List Loc) (ls : Array Slot), q_R x1 → q_P D dA q_kdC q_rhoC 77 z sz μ2 H → va_S (q_A z 77) s.heap H locs → lv_has ls 5 [(0, .ref (z + o)), (1, .int (q_I a0)), (2, .int (q_I a1)), (3, .int (q_I x1))] → f_Hi_learnFrom_L8 o a0 a1 k53 nf8 x1 μ2 = some μo → W p l e ({ frames := 1, cells := 0, slots := 0, locals := 21 } : Room) s m args below meth c H locs 0 0 Qf (F0 m 8 ls []) := by
      clear h hl hP hS
      intro k53 hk53 nf8
      induction nf8 with
      | zero =>
        intro x1 μ2 H locs ls r1 hP hS hl h
        rw [f_Hi_learnFrom_L8] at h
        cases h
      | succ nf8 ih8 =>
        intro x1 μ2 H locs ls r1 hP hS hl h
        rw [f_Hi_learnFrom_L8] at h
        refine lv_iload_n hx hb dX3_learnFrom_8 rfl (lv_at hl 3 rfl) ?_
        refine lv_iconst (v := q_I 5) hx hb dX3_learnFrom_9 rfl ?_
        refine q_cge hx hb r1 (q_r 5 rfl) (tgt := 53) dX3_learnFrom_10 (by decide) h ?_ ?_
        · clear h; intro g13 h
          exact hk53 μ2 _ _ _ hP hS (lv_sub hl [] rfl) h
        · clear h; intro g13 h
          refine lv_iload_n hx hb dX3_learnFrom_13 rfl (lv_at hl 1 rfl) ?_
          refine lv_iconst (v := q_I 5) hx hb dX3_learnFrom_14 rfl ?_
          refine q_imul hx hb dX3_learnFrom_15 h ?_
          clear h; intro x4 r4 h
          refine lv_iload_n hx hb dX3_learnFrom_16 rfl (lv_at hl 3 rfl) ?_
          refine q_iadd hx hb dX3_learnFrom_17 h ?_
          clear h; intro x5 r5 h
          refine lv_istore (lv' := [(4, .int (q_I x5)), (0, .ref (z + o)), (1, .int (q_I a0)), (2, .int (q_I a1)), (3, .int (q_I x1))]) hx hb dX3_learnFrom_18 hl (by decide) rfl ?_
          clear hl; intro ls hl
          refine lv_aload_n hx hb dX3_learnFrom_20 rfl (lv_at hl 1 rfl) ?_
          refine q_getR hx hb hts hown hK hP fd_RX3_33 (q_ltH0 ho) (q_kdH_0 ho) rfl (q_rhH_0_8 ho) dX3_learnFrom_21 ?_
          refine lv_iload hx hb dX3_learnFrom_24 (lv_at hl 0 rfl) ?_
          refine lv_aload_n hx hb dX3_learnFrom_26 rfl (lv_at hl 1 rfl) ?_
          refine q_getR hx hb hts hown hK hP fd_RX3_33 (q_ltH0 ho) (q_kdH_0 ho) rfl (q_rhH_0_8 ho) dX3_learnFrom_27 ?_
          refine lv_iload hx hb dX3_learnFrom_30 (lv_at hl 0 rfl) ?_
          refine q_iald hx hb hK hP (q_ltH ho rfl) (q_kdH_8 ho) r5 dX3_learnFrom_32 h ?_
          clear h; intro x6 r6 h
          refine lv_aload_n hx hb dX3_learnFrom_33 rfl (lv_at hl 1 rfl) ?_
          refine q_getR hx hb hts hown hK hP fd_RX3_33 (q_ltH0 ho) (q_kdH_0 ho) rfl (q_rhH_0_8 ho) dX3_learnFrom_34 ?_
          refine lv_iload_n hx hb dX3_learnFrom_37 rfl (lv_at hl 3 rfl) ?_
          refine lv_iconst (v := q_I 5) hx hb dX3_learnFrom_38 rfl ?_
          refine q_imul hx hb dX3_learnFrom_39 h ?_
          clear h; intro x7 r7 h
          refine lv_iload_n hx hb dX3_learnFrom_40 rfl (lv_at hl 4 rfl) ?_
          refine q_iadd hx hb dX3_learnFrom_41 h ?_
          clear h; intro x8 r8 h
          refine q_iald hx hb hK hP (q_ltH ho rfl) (q_kdH_8 ho) r8 dX3_learnFrom_42 h ?_
          clear h; intro x9 r9 h
          refine q_mmax hx hb hml hl.1 hts hown cm_RX3_57 ⟨Nat.le_refl _, Nat.le_refl _⟩ (Nat.le_of_ble_eq_true rfl) (Nat.le_of_ble_eq_true rfl) (Nat.le_of_ble_eq_true rfl) r6 r9 dX3_learnFrom_43 h ?_
          clear h; intro x10 r10 h
          refine q_iast hx hb hK hP hS hA (q_ltH ho rfl) (q_kdH_8 ho) r5 r10 dX3_learnFrom_46 h ?_
          clear h hP hS; intro μ11 H locs hP hS h
          refine q_iinc (k := 4) (lv' := fun t => [(3, .int (q_I t)), (4, .int (q_I x5)), (0, .ref (z + o)), (1, .int (q_I a0)), (2, .int (q_I a1))]) hx hb dX3_learnFrom_47 hl rfl (by decide) (fun _ => rfl) h ?_
          clear h hl; intro x12 ls r12 hl h
          refine lv_goto (tgt := 8) hx hb dX3_learnFrom_50 (by decide) ?_
          exact ih8 x12 μ11 _ _ _ r12 hP hS (lv_sub hl [2, 3, 4, 0] rfl) h
    refine L8 _ ?_  _ 0 μ _ _ _ (q_r 0 rfl) hP hS (lv_sub hl [1, 2, 3, 0] rfl) h
    · clear h hl hP hS; intro μ3 H locs ls  hP hS hl h
      rw [← hQ]
      exact q_retv hx hb hr hlocks hP hS h dX3_learnFrom_53
set_option maxHeartbeats 4000000 in
set_option maxRecDepth 100000 in
theorem c_Wo_tryReceive (l : Launch) (D : va_G) (dA : Nat → ClassId) {z sz : Nat} {N : Nat} {o : Nat} (ho : o = 1 ∨ o = 24) {a0 : Int} (ra0 : q_R a0) {a1 : Int} (ra1 : q_R a1) {μ : q_M} {xo : Int} {μo : q_M} (h : f_Wo_tryReceive N o a0 a1 μ = some (xo, μo)) : Met l yX9_tryReceive (q_wc yX9_tryReceive cX9_tryReceive 8 (some .int)) ({ frames := 3, cells := 0, slots := 0, locals := 65 } : Room) (va_Pc [.ref (z + o), .int (q_I a0), .int (q_I a1)] (q_B (q_P D dA q_kdC q_rhoC 77 z sz μ) D dA)) (q_Q (some (.int (q_I xo))) (q_R xo) (q_P D dA q_kdC q_rhoC 77 z sz μo) (q_A z 77)) 0 0 (q_A z 77) := by
  refine Met.ofW (cc := cX9_tryReceive) (maxL := 8) (ret := (some .int)) (by decide) rfl ?_
  intro p e s m args below meth c s₁ B hml hv
  obtain ⟨hargs, hP, hK⟩ := hv
  have hx := B.exec
  have hb := B.bytes
  have hr := B.returns
  have hts : ∀ w ∈ q_W, w.before args s = true := fun w hw => atoms_spec (ws := q_wc yX9_tryReceive cX9_tryReceive 8 (some .int)) B.pre w (List.mem_cons_of_mem _ hw)
  have hown : s.vm.findClass RX9 = some m.cls := findClass_of_methodNamed B.named
  have hlocks := B.notSynchronized
  have hS : va_S (q_A z 77) s.heap s.heap [] := va_S.rf
  have hA : ∀ k, k < 77 → q_A z 77 (z + k) := fun k hk => ⟨Nat.le_add_right z k, Nat.add_lt_add_left hk z⟩
  have hl := lv_entry [.ref (z + o), .int (q_I a0), .int (q_I a1)] (n := 8) (Nat.le_of_ble_eq_true rfl)
  refine W.eq (by rw [hargs, lg_entry_eq]) ?_
  generalize (lg_sl [.ref (z + o), .int (q_I a0), .int (q_I a1)] ++ List.replicate (8 - (lg_sl [.ref (z + o), .int (q_I a0), .int (q_I a1)]).length) Slot.unset).toArray = ls at hl ⊢
  have hl : lv_has ls 8 [(0, .ref (z + o)), (1, .int (q_I a0)), (2, .int (q_I a1))] := hl
  generalize hQ : MQ below _ args s 0 0 _ = Qf
  change W p l e ({ frames := 3, cells := 0, slots := 0, locals := 65 } : Room) s m args below meth c s.heap [] 0 0 Qf (F0 m 0 ls [])
  unfold f_Wo_tryReceive at h
  refine lv_iload_n hx hb dX9_tryReceive_0 rfl (lv_at hl 2 rfl) ?_
  refine lv_iload_n hx hb dX9_tryReceive_1 rfl (lv_at hl 1 rfl) ?_
  obtain ⟨x2, hv1, h⟩ := q_b_some h
  refine q_callN hx hb hml hts hown hK hP hS (As := [.int (q_I a1), .int (q_I a0)]) (rest := []) (st1 := [.int (q_I x2)]) cn_RX9_117 (c_CR_channelOf l D dA ra1 ra0 hv1) ⟨rfl, rfl, Nat.le_of_ble_eq_true rfl, Nat.le_of_ble_eq_true rfl⟩ ⟨Nat.le_refl _, Nat.le_refl _⟩ rfl hl.1 rfl (Nat.le_of_ble_eq_true rfl) rfl (fun _ g => g) dX9_tryReceive_2 ?_
  clear hP hS hv1; intro H locs r2 hP hS _
  refine lv_istore_n (lv' := [(3, .int (q_I x2)), (0, .ref (z + o)), (1, .int (q_I a0)), (2, .int (q_I a1))]) hx hb dX9_tryReceive_5 rfl hl (by decide) rfl ?_
  clear hl; intro ls hl
  refine lv_aload_n hx hb dX9_tryReceive_6 rfl (lv_at hl 1 rfl) ?_
  refine q_getR hx hb hts hown hK hP fd_RX9_31 (q_ltW0 ho) (q_kdW_0 ho) rfl (q_rhW_0_5 ho) dX9_tryReceive_7 ?_
  refine lv_iload_n hx hb dX9_tryReceive_10 rfl (lv_at hl 0 rfl) ?_
  refine lv_iconst (v := q_I 0) hx hb dX9_tryReceive_11 rfl ?_
  obtain ⟨x4, hv3, h⟩ := q_b_some h
  refine q_callV hx hb hml hts hown hK hP hS (As := [.int (q_I x2), .int (q_I 0)]) (rest := []) (st1 := [.int (q_I x4)]) cv_RX9_123 (c_Ch_messageAt l D dA (by omega) r2 (q_r 0 rfl) hv3) (q_ltW ho rfl) (q_kdW_14 ho) rfl ⟨rfl, rfl, Nat.le_of_ble_eq_true rfl, Nat.le_of_ble_eq_true rfl⟩ ⟨Nat.le_refl _, Nat.le_refl _⟩ rfl hl.1 rfl (Nat.le_of_ble_eq_true rfl) rfl (fun _ g => g) dX9_tryReceive_12 ?_
  clear hP hS hv3; intro H locs r4 hP hS _
  refine lv_istore (lv' := [(4, .int (q_I x4)), (3, .int (q_I x2)), (0, .ref (z + o)), (1, .int (q_I a0)), (2, .int (q_I a1))]) hx hb dX9_tryReceive_15 hl (by decide) rfl ?_
  clear hl; intro ls hl
  refine lv_aload_n hx hb dX9_tryReceive_17 rfl (lv_at hl 2 rfl) ?_
  refine q_getR hx hb hts hown hK hP fd_RX9_31 (q_ltW0 ho) (q_kdW_0 ho) rfl (q_rhW_0_5 ho) dX9_tryReceive_18 ?_
  refine lv_iload_n hx hb dX9_tryReceive_21 rfl (lv_at hl 1 rfl) ?_
  obtain ⟨x6, hv5, h⟩ := q_b_some h
  refine q_callV hx hb hml hts hown hK hP hS (As := [.int (q_I x2)]) (rest := []) (st1 := [.int (q_I x6)]) cv_RX9_126 (c_Ch_markerPlace l D dA (by omega) r2 hv5) (q_ltW ho rfl) (q_kdW_14 ho) rfl ⟨rfl, rfl, Nat.le_of_ble_eq_true rfl, Nat.le_of_ble_eq_true rfl⟩ ⟨Nat.le_refl _, Nat.le_refl _⟩ rfl hl.1 rfl (Nat.le_of_ble_eq_true rfl) rfl (fun _ g => g) dX9_tryReceive_22 ?_
  clear hP hS hv5; intro H locs r6 hP hS _
  refine q_zne hx hb r6 (tgt := 38) dX9_tryReceive_25 (by decide) h ?_ ?_
  · clear h; intro g33 h
    refine lv_aload_n hx hb dX9_tryReceive_28 rfl (lv_at hl 2 rfl) ?_
    refine lv_iload_n hx hb dX9_tryReceive_29 rfl (lv_at hl 3 rfl) ?_
    refine lv_iload_n hx hb dX9_tryReceive_30 rfl (lv_at hl 1 rfl) ?_
    obtain ⟨μ32, hv31, h⟩ := q_b_some h
    refine q_callV hx hb hml hts hown hK hP hS (As := [.int (q_I a0), .int (q_I x2)]) (rest := []) (st1 := []) cv_RX9_129 (c_Wo_takeMarker l D dA ho ra0 r2 hv31) (q_ltW0 ho) (q_kdW_0 ho) rfl ⟨rfl, rfl, Nat.le_of_ble_eq_true rfl, Nat.le_of_ble_eq_true rfl⟩ ⟨Nat.le_refl _, Nat.le_refl _⟩ rfl hl.1 rfl (Nat.le_of_ble_eq_true rfl) rfl (fun _ g => g) dX9_tryReceive_31 ?_
    clear hP hS hv31; intro H locs _ hP hS _
    refine lv_sipush (v := q_I 1000) hx hb dX9_tryReceive_34 (by decide) ?_
    rw [← hQ]
    exact q_ret2 hx hb hr hlocks hP hS (q_r 1000 rfl) h dX9_tryReceive_37
  · clear h; intro g33 h
    refine lv_iload hx hb dX9_tryReceive_38 (lv_at hl 0 rfl) ?_
    refine lv_iconst (v := q_I (-1)) hx hb dX9_tryReceive_40 rfl ?_
    refine q_cne hx hb r4 (q_r (-1) rfl) (tgt := 47) dX9_tryReceive_41 (by decide) h ?_ ?_
    · clear h; intro g30 h
      refine lv_ldc hx hb hown (hts _ ck_RX9_112) dX9_tryReceive_44 ?_
      rw [← hQ]
      exact q_ret2 hx hb hr hlocks hP hS (q_r (-100006) rfl) h dX9_tryReceive_46
    · clear h; intro g30 h
      refine lv_aload_n hx hb dX9_tryReceive_47 rfl (lv_at hl 2 rfl) ?_
      refine q_getR hx hb hts hown hK hP fd_RX9_31 (q_ltW0 ho) (q_kdW_0 ho) rfl (q_rhW_0_5 ho) dX9_tryReceive_48 ?_
      refine q_getR hx hb hts hown hK hP fd_RX9_87 (q_ltW ho rfl) (q_kdW_14 ho) rfl (q_rhW_14_2 ho) dX9_tryReceive_51 ?_
      refine lv_iload hx hb dX9_tryReceive_54 (lv_at hl 0 rfl) ?_
      refine q_iald hx hb hK hP (q_ltW ho rfl) (q_kdW_16 ho) r4 dX9_tryReceive_56 h ?_
      clear h; intro x7 r7 h
      refine lv_istore (lv' := [(5, .int (q_I x7)), (4, .int (q_I x4)), (3, .int (q_I x2)), (0, .ref (z + o)), (1, .int (q_I a0)), (2, .int (q_I a1))]) hx hb dX9_tryReceive_57 hl (by decide) rfl ?_
      clear hl; intro ls hl
      refine lv_aload_n hx hb dX9_tryReceive_59 rfl (lv_at hl 3 rfl) ?_
      refine q_getR hx hb hts hown hK hP fd_RX9_31 (q_ltW0 ho) (q_kdW_0 ho) rfl (q_rhW_0_5 ho) dX9_tryReceive_60 ?_
      refine q_getR hx hb hts hown hK hP fd_RX9_90 (q_ltW ho rfl) (q_kdW_14 ho) rfl (q_rhW_14_3 ho) dX9_tryReceive_63 ?_
      refine lv_iload hx hb dX9_tryReceive_66 (lv_at hl 1 rfl) ?_
      refine q_iald hx hb hK hP (q_ltW ho rfl) (q_kdW_17 ho) r4 dX9_tryReceive_68 h ?_
      clear h; intro x8 r8 h
      refine lv_istore (lv' := [(6, .int (q_I x8)), (5, .int (q_I x7)), (4, .int (q_I x4)), (3, .int (q_I x2)), (0, .ref (z + o)), (1, .int (q_I a0)), (2, .int (q_I a1))]) hx hb dX9_tryReceive_69 hl (by decide) rfl ?_
      clear hl; intro ls hl
      refine lv_aload_n hx hb dX9_tryReceive_71 rfl (lv_at hl 4 rfl) ?_
      refine q_getR hx hb hts hown hK hP fd_RX9_9 (q_ltW0 ho) (q_kdW_0 ho) rfl (q_rhW_0_1 ho) dX9_tryReceive_72 ?_
      refine lv_iload_n hx hb dX9_tryReceive_75 rfl (lv_at hl 5 rfl) ?_
      refine lv_iload hx hb dX9_tryReceive_76 (lv_at hl 1 rfl) ?_
      obtain ⟨x10, hv9, h⟩ := q_b_some h
      refine q_callN hx hb hml hts hown hK hP hS (As := [.int (q_I a0), .int (q_I x7)]) (rest := [.ref (z + (o + 1))]) (st1 := [.int (q_I x10), .ref (z + (o + 1))]) cn_RX9_97 (c_CR_slot l D dA ra0 r7 hv9) ⟨rfl, rfl, Nat.le_of_ble_eq_true rfl, Nat.le_of_ble_eq_true rfl⟩ ⟨Nat.le_refl _, Nat.le_refl _⟩ rfl hl.1 rfl (Nat.le_of_ble_eq_true rfl) rfl (fun _ g => g) dX9_tryReceive_78 ?_
      clear hP hS hv9; intro H locs r10 hP hS _
      refine q_iald hx hb hK hP (q_ltW ho rfl) (q_kdW_1 ho) r10 dX9_tryReceive_81 h ?_
      clear h; intro x11 r11 h
      refine lv_iload hx hb dX9_tryReceive_82 (lv_at hl 0 rfl) ?_
      refine q_iadd hx hb dX9_tryReceive_84 h ?_
      clear h; intro x12 r12 h
      refine lv_sipush (v := q_I 1000) hx hb dX9_tryReceive_85 (by decide) ?_
      refine q_cle hx hb r12 (q_r 1000 rfl) (tgt := 94) dX9_tryReceive_88 (by decide) h ?_ ?_
      · clear h; intro g29 h
        refine lv_aload_n hx hb dX9_tryReceive_94 rfl (lv_at hl 4 rfl) ?_
        refine q_getR hx hb hts hown hK hP fd_RX9_24 (q_ltW0 ho) (q_kdW_0 ho) rfl (q_rhW_0_4 ho) dX9_tryReceive_95 ?_
        refine q_getI hx hb hts hown hK hP fd_RX9_106 (q_ltW ho rfl) (q_kdW_4 ho) rfl dX9_tryReceive_98 h ?_
        clear h; intro x13 r13 h
        refine lv_bipush (v := q_I 100) hx hb dX9_tryReceive_101 (by decide) ?_
        refine q_clt hx hb r13 (q_r 100 rfl) (tgt := 109) dX9_tryReceive_103 (by decide) h ?_ ?_
        · clear h; intro g28 h
          refine lv_aload_n hx hb dX9_tryReceive_109 rfl (lv_at hl 4 rfl) ?_
          refine q_getR hx hb hts hown hK hP fd_RX9_9 (q_ltW0 ho) (q_kdW_0 ho) rfl (q_rhW_0_1 ho) dX9_tryReceive_110 ?_
          refine lv_iload_n hx hb dX9_tryReceive_113 rfl (lv_at hl 5 rfl) ?_
          refine lv_iload hx hb dX9_tryReceive_114 (lv_at hl 1 rfl) ?_
          obtain ⟨x15, hv14, h⟩ := q_b_some h
          refine q_callN hx hb hml hts hown hK hP hS (As := [.int (q_I a0), .int (q_I x7)]) (rest := [.ref (z + (o + 1))]) (st1 := [.int (q_I x15), .ref (z + (o + 1))]) cn_RX9_97 (c_CR_slot l D dA ra0 r7 hv14) ⟨rfl, rfl, Nat.le_of_ble_eq_true rfl, Nat.le_of_ble_eq_true rfl⟩ ⟨Nat.le_refl _, Nat.le_refl _⟩ rfl hl.1 rfl (Nat.le_of_ble_eq_true rfl) rfl (fun _ g => g) dX9_tryReceive_116 ?_
          clear hP hS hv14; intro H locs r15 hP hS _
          refine lv_dup2_11 hx hb dX9_tryReceive_119 rfl rfl ?_
          refine q_iald hx hb hK hP (q_ltW ho rfl) (q_kdW_1 ho) r15 dX9_tryReceive_120 h ?_
          clear h; intro x16 r16 h
          refine lv_iload hx hb dX9_tryReceive_121 (lv_at hl 0 rfl) ?_
          refine q_iadd hx hb dX9_tryReceive_123 h ?_
          clear h; intro x17 r17 h
          refine q_iast hx hb hK hP hS hA (q_ltW ho rfl) (q_kdW_1 ho) r15 r17 dX9_tryReceive_124 h ?_
          clear h hP hS; intro μ18 H locs hP hS h
          refine lv_aload_n hx hb dX9_tryReceive_125 rfl (lv_at hl 4 rfl) ?_
          refine q_getR hx hb hts hown hK hP fd_RX9_24 (q_ltW0 ho) (q_kdW_0 ho) rfl (q_rhW_0_4 ho) dX9_tryReceive_126 ?_
          refine lv_iload_n hx hb dX9_tryReceive_129 rfl (lv_at hl 5 rfl) ?_
          refine lv_iconst (v := q_I 2) hx hb dX9_tryReceive_130 rfl ?_
          refine lv_iload hx hb dX9_tryReceive_131 (lv_at hl 2 rfl) ?_
          obtain ⟨x20, μ21, hv19, h⟩ := q_b2_some h
          refine q_callV hx hb hml hts hown hK hP hS (As := [.int (q_I a0), .int (q_I 2), .int (q_I x4)]) (rest := []) (st1 := [.int (q_I x20)]) cv_RX9_108 (c_Hi_add l D dA (by omega) ra0 (q_r 2 rfl) r4 hv19) (q_ltW ho rfl) (q_kdW_4 ho) rfl ⟨rfl, rfl, Nat.le_of_ble_eq_true rfl, Nat.le_of_ble_eq_true rfl⟩ ⟨Nat.le_refl _, Nat.le_refl _⟩ rfl hl.1 rfl (Nat.le_of_ble_eq_true rfl) rfl (fun _ g => g) dX9_tryReceive_133 ?_
          clear hP hS hv19; intro H locs r20 hP hS _
          refine lv_istore (lv' := [(7, .int (q_I x20)), (6, .int (q_I x8)), (5, .int (q_I x7)), (4, .int (q_I x4)), (3, .int (q_I x2)), (0, .ref (z + o)), (1, .int (q_I a0)), (2, .int (q_I a1))]) hx hb dX9_tryReceive_136 hl (by decide) rfl ?_
          clear hl; intro ls hl
          refine lv_aload_n hx hb dX9_tryReceive_138 rfl (lv_at hl 5 rfl) ?_
          refine q_getR hx hb hts hown hK hP fd_RX9_24 (q_ltW0 ho) (q_kdW_0 ho) rfl (q_rhW_0_4 ho) dX9_tryReceive_139 ?_
          refine lv_iload hx hb dX9_tryReceive_142 (lv_at hl 0 rfl) ?_
          refine lv_iload hx hb dX9_tryReceive_144 (lv_at hl 2 rfl) ?_
          refine lv_iload hx hb dX9_tryReceive_146 (lv_at hl 1 rfl) ?_
          refine lv_iload_n hx hb dX9_tryReceive_148 rfl (lv_at hl 7 rfl) ?_
          obtain ⟨μ23, hv22, h⟩ := q_b_some h
          refine q_callV hx hb hml hts hown hK hP hS (As := [.int (q_I x20), .int (q_I x7), .int (q_I x8), .int (q_I a1)]) (rest := []) (st1 := []) cv_RX9_113 (c_Hi_describe l D dA (by omega) r20 r7 r8 ra1 hv22) (q_ltW ho rfl) (q_kdW_4 ho) rfl ⟨rfl, rfl, Nat.le_of_ble_eq_true rfl, Nat.le_of_ble_eq_true rfl⟩ ⟨Nat.le_refl _, Nat.le_refl _⟩ rfl hl.1 rfl (Nat.le_of_ble_eq_true rfl) rfl (fun _ g => g) dX9_tryReceive_149 ?_
          clear hP hS hv22; intro H locs _ hP hS _
          refine lv_aload_n hx hb dX9_tryReceive_152 rfl (lv_at hl 5 rfl) ?_
          refine q_getR hx hb hts hown hK hP fd_RX9_24 (q_ltW0 ho) (q_kdW_0 ho) rfl (q_rhW_0_4 ho) dX9_tryReceive_153 ?_
          refine lv_iload hx hb dX9_tryReceive_156 (lv_at hl 0 rfl) ?_
          refine lv_aload_n hx hb dX9_tryReceive_158 rfl (lv_at hl 5 rfl) ?_
          refine q_getR hx hb hts hown hK hP fd_RX9_31 (q_ltW0 ho) (q_kdW_0 ho) rfl (q_rhW_0_5 ho) dX9_tryReceive_159 ?_
          refine q_getR hx hb hts hown hK hP fd_RX9_133 (q_ltW ho rfl) (q_kdW_14 ho) rfl (q_rhW_14_4 ho) dX9_tryReceive_162 ?_
          refine lv_iload hx hb dX9_tryReceive_165 (lv_at hl 3 rfl) ?_
          refine q_iald hx hb hK hP (q_ltW ho rfl) (q_kdW_18 ho) r4 dX9_tryReceive_167 h ?_
          clear h; intro x24 r24 h
          obtain ⟨μ26, hv25, h⟩ := q_b_some h
          refine q_callV hx hb hml hts hown hK hP hS (As := [.int (q_I x20), .int (q_I x24)]) (rest := []) (st1 := []) cv_RX9_136 (c_Hi_learnFrom l D dA (by omega) r20 r24 hv25) (q_ltW ho rfl) (q_kdW_4 ho) rfl ⟨rfl, rfl, Nat.le_of_ble_eq_true rfl, Nat.le_of_ble_eq_true rfl⟩ ⟨Nat.le_refl _, Nat.le_refl _⟩ rfl hl.1 rfl (Nat.le_of_ble_eq_true rfl) rfl (fun _ g => g) dX9_tryReceive_168 ?_
          clear hP hS hv25; intro H locs _ hP hS _
          refine lv_aload_n hx hb dX9_tryReceive_171 rfl (lv_at hl 5 rfl) ?_
          refine q_getR hx hb hts hown hK hP fd_RX9_31 (q_ltW0 ho) (q_kdW_0 ho) rfl (q_rhW_0_5 ho) dX9_tryReceive_172 ?_
          refine q_getR hx hb hts hown hK hP fd_RX9_139 (q_ltW ho rfl) (q_kdW_14 ho) rfl (q_rhW_14_5 ho) dX9_tryReceive_175 ?_
          refine lv_iload hx hb dX9_tryReceive_178 (lv_at hl 3 rfl) ?_
          refine lv_iload hx hb dX9_tryReceive_180 (lv_at hl 0 rfl) ?_
          refine q_iast hx hb hK hP hS hA (q_ltW ho rfl) (q_kdW_19 ho) r4 r20 dX9_tryReceive_182 h ?_
          clear h hP hS; intro μ27 H locs hP hS h
          refine lv_iload hx hb dX9_tryReceive_183 (lv_at hl 0 rfl) ?_
          rw [← hQ]
          exact q_ret2 hx hb hr hlocks hP hS r20 h dX9_tryReceive_185
        · clear h; intro g28 h
          refine lv_ldc hx hb hown (hts _ ck_RX9_107) dX9_tryReceive_106 ?_
          rw [← hQ]
          exact q_ret2 hx hb hr hlocks hP hS (q_r (-100005) rfl) h dX9_tryReceive_108
      · clear h; intro g29 h
        refine lv_ldc hx hb hown (hts _ ck_RX9_105) dX9_tryReceive_91 ?_
        rw [← hQ]
        exact q_ret2 hx hb hr hlocks hP hS (q_r (-100004) rfl) h dX9_tryReceive_93
set_option maxHeartbeats 4000000 in
set_option maxRecDepth 100000 in
theorem c_CR_receive (l : Launch) (D : va_G) (dA : Nat → ClassId) {z sz : Nat} {N : Nat} {a0 : Int} (ra0 : q_R a0) {a1 : Int} (ra1 : q_R a1) {μ : q_M} {xo : Int} {μo : q_M} (h : f_CR_receive N a0 a1 μ = some (xo, μo)) : Met l yX10_receive (q_wc yX10_receive cX10_receive 3 (some .int)) ({ frames := 4, cells := 0, slots := 0, locals := 92 } : Room) (va_Pc [.ref (z + 0), .int (q_I a0), .int (q_I a1)] (q_B (q_P D dA q_kdC q_rhoC 77 z sz μ) D dA)) (q_Q (some (.int (q_I xo))) (q_R xo) (q_P D dA q_kdC q_rhoC 77 z sz μo) (q_A z 77)) 0 0 (q_A z 77) := by
  refine Met.ofW (cc := cX10_receive) (maxL := 3) (ret := (some .int)) (by decide) rfl ?_
  intro p e s m args below meth c s₁ B hml hv
  obtain ⟨hargs, hP, hK⟩ := hv
  have hx := B.exec
  have hb := B.bytes
  have hr := B.returns
  have hts : ∀ w ∈ q_W, w.before args s = true := fun w hw => atoms_spec (ws := q_wc yX10_receive cX10_receive 3 (some .int)) B.pre w (List.mem_cons_of_mem _ hw)
  have hown : s.vm.findClass RX10 = some m.cls := findClass_of_methodNamed B.named
  have hlocks := B.notSynchronized
  have hS : va_S (q_A z 77) s.heap s.heap [] := va_S.rf
  have hA : ∀ k, k < 77 → q_A z 77 (z + k) := fun k hk => ⟨Nat.le_add_right z k, Nat.add_lt_add_left hk z⟩
  have hl := lv_entry [.ref (z + 0), .int (q_I a0), .int (q_I a1)] (n := 3) (Nat.le_of_ble_eq_true rfl)
  refine W.eq (by rw [hargs, lg_entry_eq]) ?_
  generalize (lg_sl [.ref (z + 0), .int (q_I a0), .int (q_I a1)] ++ List.replicate (3 - (lg_sl [.ref (z + 0), .int (q_I a0), .int (q_I a1)]).length) Slot.unset).toArray = ls at hl ⊢
  have hl : lv_has ls 3 [(0, .ref (z + 0)), (1, .int (q_I a0)), (2, .int (q_I a1))] := hl
  generalize hQ : MQ below _ args s 0 0 _ = Qf
  change W p l e ({ frames := 4, cells := 0, slots := 0, locals := 92 } : Room) s m args below meth c s.heap [] 0 0 Qf (F0 m 0 ls [])
  unfold f_CR_receive at h
  refine lv_aload_n hx hb dX10_receive_0 rfl (lv_at hl 0 rfl) ?_
  refine lv_iload_n hx hb dX10_receive_1 rfl (lv_at hl 2 rfl) ?_
  refine lv_iload_n hx hb dX10_receive_2 rfl (lv_at hl 1 rfl) ?_
  obtain ⟨x2, hv1, h⟩ := q_b_some h
  refine q_callV hx hb hml hts hown hK hP hS (As := [.int (q_I a1), .int (q_I a0)]) (rest := []) (st1 := [.int (q_I x2)]) cv_RX10_100 (c_CR_isPair l D dA ra1 ra0 hv1) (Nat.le_of_ble_eq_true rfl) q_kdC_0 rfl ⟨rfl, rfl, Nat.le_of_ble_eq_true rfl, Nat.le_of_ble_eq_true rfl⟩ ⟨Nat.le_refl _, Nat.le_refl _⟩ rfl hl.1 rfl (Nat.le_of_ble_eq_true rfl) rfl (fun _ g => g) dX10_receive_3 ?_
  clear hP hS hv1; intro H locs r2 hP hS _
  refine q_zne hx hb r2 (tgt := 12) dX10_receive_6 (by decide) h ?_ ?_
  · clear h; intro g6 h
    refine lv_ldc hx hb hown (hts _ ck_RX10_74) dX10_receive_9 ?_
    rw [← hQ]
    exact q_ret2 hx hb hr hlocks hP hS (q_r (-100001) rfl) h dX10_receive_11
  · clear h; intro g6 h
    refine lv_aload_n hx hb dX10_receive_12 rfl (lv_at hl 0 rfl) ?_
    refine q_getR hx hb hts hown hK hP fd_RX10_10 (Nat.le_of_ble_eq_true rfl) q_kdC_0 rfl q_rhC_0_0 dX10_receive_13 ?_
    refine lv_iload_n hx hb dX10_receive_16 rfl (lv_at hl 1 rfl) ?_
    refine lv_iload_n hx hb dX10_receive_17 rfl (lv_at hl 2 rfl) ?_
    obtain ⟨x4, μ5, hv3, h⟩ := q_b2_some h
    refine q_callV hx hb hml hts hown hK hP hS (As := [.int (q_I a0), .int (q_I a1)]) (rest := []) (st1 := [.int (q_I x4)]) cv_RX10_108 (c_Wo_tryReceive l D dA (Or.inl rfl) ra0 ra1 hv3) (Nat.le_of_ble_eq_true rfl) q_kdC_1 rfl ⟨rfl, rfl, Nat.le_of_ble_eq_true rfl, Nat.le_of_ble_eq_true rfl⟩ ⟨Nat.le_refl _, Nat.le_refl _⟩ rfl hl.1 rfl (Nat.le_of_ble_eq_true rfl) rfl (fun _ g => g) dX10_receive_18 ?_
    clear hP hS hv3; intro H locs r4 hP hS _
    rw [← hQ]
    exact q_ret2 hx hb hr hlocks hP hS r4 h dX10_receive_21
set_option maxHeartbeats 4000000 in
set_option maxRecDepth 100000 in
theorem c_CR_stock (l : Launch) (D : va_G) (dA : Nat → ClassId) {z sz : Nat} {a0 : Int} (ra0 : q_R a0) {a1 : Int} (ra1 : q_R a1) {μ : q_M} {xo : Int} (h : f_CR_stock a0 a1 μ = some xo) : Met l yX10_stock (q_wc yX10_stock cX10_stock 3 (some .int)) ({ frames := 2, cells := 0, slots := 0, locals := 43 } : Room) (va_Pc [.ref (z + 0), .int (q_I a0), .int (q_I a1)] (q_B (q_P D dA q_kdC q_rhoC 77 z sz μ) D dA)) (q_Q (some (.int (q_I xo))) (q_R xo) (q_P D dA q_kdC q_rhoC 77 z sz μ) (q_A z 77)) 0 0 (q_A z 77) := by
  refine Met.ofW (cc := cX10_stock) (maxL := 3) (ret := (some .int)) (by decide) rfl ?_
  intro p e s m args below meth c s₁ B hml hv
  obtain ⟨hargs, hP, hK⟩ := hv
  have hx := B.exec
  have hb := B.bytes
  have hr := B.returns
  have hts : ∀ w ∈ q_W, w.before args s = true := fun w hw => atoms_spec (ws := q_wc yX10_stock cX10_stock 3 (some .int)) B.pre w (List.mem_cons_of_mem _ hw)
  have hown : s.vm.findClass RX10 = some m.cls := findClass_of_methodNamed B.named
  have hlocks := B.notSynchronized
  have hS : va_S (q_A z 77) s.heap s.heap [] := va_S.rf
  have hA : ∀ k, k < 77 → q_A z 77 (z + k) := fun k hk => ⟨Nat.le_add_right z k, Nat.add_lt_add_left hk z⟩
  have hl := lv_entry [.ref (z + 0), .int (q_I a0), .int (q_I a1)] (n := 3) (Nat.le_of_ble_eq_true rfl)
  refine W.eq (by rw [hargs, lg_entry_eq]) ?_
  generalize (lg_sl [.ref (z + 0), .int (q_I a0), .int (q_I a1)] ++ List.replicate (3 - (lg_sl [.ref (z + 0), .int (q_I a0), .int (q_I a1)]).length) Slot.unset).toArray = ls at hl ⊢
  have hl : lv_has ls 3 [(0, .ref (z + 0)), (1, .int (q_I a0)), (2, .int (q_I a1))] := hl
  generalize hQ : MQ below _ args s 0 0 _ = Qf
  change W p l e ({ frames := 2, cells := 0, slots := 0, locals := 43 } : Room) s m args below meth c s.heap [] 0 0 Qf (F0 m 0 ls [])
  unfold f_CR_stock at h
  refine lv_aload_n hx hb dX10_stock_0 rfl (lv_at hl 0 rfl) ?_
  refine lv_iload_n hx hb dX10_stock_1 rfl (lv_at hl 1 rfl) ?_
  obtain ⟨x2, hv1, h⟩ := q_b_some h
  refine q_callV hx hb hml hts hown hK hP hS (As := [.int (q_I a0)]) (rest := []) (st1 := [.int (q_I x2)]) cv_RX10_67 (c_CR_isProcess l D dA ra0 hv1) (Nat.le_of_ble_eq_true rfl) q_kdC_0 rfl ⟨rfl, rfl, Nat.le_of_ble_eq_true rfl, Nat.le_of_ble_eq_true rfl⟩ ⟨Nat.le_refl _, Nat.le_refl _⟩ rfl hl.1 rfl (Nat.le_of_ble_eq_true rfl) rfl (fun _ g => g) dX10_stock_2 ?_
  clear hP hS hv1; intro H locs r2 hP hS _
  refine q_jn_in h (fun J => ∀ (H : Heap) (locs : List Loc) (ls : Array Slot), q_P D dA q_kdC q_rhoC 77 z sz μ H → va_S (q_A z 77) s.heap H locs → lv_has ls 3 [] → J = some xo → W p l e ({ frames := 2, cells := 0, slots := 0, locals := 43 } : Room) s m args below meth c H locs 0 0 Qf (F0 m 15 ls [])) ?_ ?_
  · clear h hl hP hS; intro  H locs ls  hP hS hl h
    refine lv_ldc hx hb hown (hts _ ck_RX10_74) dX10_stock_15 ?_
    rw [← hQ]
    exact q_ret1 hx hb hr hlocks hP hS (q_r (-100001) rfl) h dX10_stock_17
  · clear h; intro j15 hj15 h
    refine q_zeq hx hb r2 (tgt := 15) dX10_stock_5 (by decide) h ?_ ?_
    · clear h; intro g9 h
      exact hj15  _ _ _ hP hS (lv_sub hl [] rfl) h
    · clear h; intro g9 h
      refine lv_iload_n hx hb dX10_stock_8 rfl (lv_at hl 2 rfl) ?_
      obtain ⟨x4, hv3, h⟩ := q_b_some h
      refine q_callS hx hb hml hts hown hK hP hS (As := [.int (q_I a1)]) (rest := []) (st1 := [.int (q_I x4)]) cs_RX10_71 (c_CR_isStock l D dA ra1 hv3) ⟨rfl, rfl, Nat.le_of_ble_eq_true rfl, Nat.le_of_ble_eq_true rfl⟩ ⟨Nat.le_refl _, Nat.le_refl _⟩ rfl hl.1 rfl (Nat.le_of_ble_eq_true rfl) rfl (fun _ g => g) dX10_stock_9 ?_
      clear hP hS hv3; intro H locs r4 hP hS _
      refine q_zne hx hb r4 (tgt := 18) dX10_stock_12 (by decide) h ?_ ?_
      · clear h; intro g8 h
        exact hj15  _ _ _ hP hS (lv_sub hl [] rfl) h
      · clear h; intro g8 h
        refine lv_aload_n hx hb dX10_stock_18 rfl (lv_at hl 0 rfl) ?_
        refine q_getR hx hb hts hown hK hP fd_RX10_10 (Nat.le_of_ble_eq_true rfl) q_kdC_0 rfl q_rhC_0_0 dX10_stock_19 ?_
        refine q_getR hx hb hts hown hK hP fd_RX10_85 (Nat.le_of_ble_eq_true rfl) q_kdC_1 rfl q_rhC_1_1 dX10_stock_22 ?_
        refine lv_iload_n hx hb dX10_stock_25 rfl (lv_at hl 1 rfl) ?_
        refine lv_iload_n hx hb dX10_stock_26 rfl (lv_at hl 2 rfl) ?_
        obtain ⟨x6, hv5, h⟩ := q_b_some h
        refine q_callS hx hb hml hts hown hK hP hS (As := [.int (q_I a0), .int (q_I a1)]) (rest := [.ref (z + 2)]) (st1 := [.int (q_I x6), .ref (z + 2)]) cs_RX10_89 (c_CR_slot l D dA ra0 ra1 hv5) ⟨rfl, rfl, Nat.le_of_ble_eq_true rfl, Nat.le_of_ble_eq_true rfl⟩ ⟨Nat.le_refl _, Nat.le_refl _⟩ rfl hl.1 rfl (Nat.le_of_ble_eq_true rfl) rfl (fun _ g => g) dX10_stock_27 ?_
        clear hP hS hv5; intro H locs r6 hP hS _
        refine q_iald hx hb hK hP (Nat.le_of_ble_eq_true rfl) q_kdC_2 r6 dX10_stock_30 h ?_
        clear h; intro x7 r7 h
        rw [← hQ]
        exact q_ret1 hx hb hr hlocks hP hS r7 h dX10_stock_31
set_option maxHeartbeats 4000000 in
set_option maxRecDepth 100000 in
theorem c_Ch_propertyAt (l : Launch) (D : va_G) (dA : Nat → ClassId) {z sz : Nat} {N : Nat} {o : Nat} (ho : o = 15 ∨ o = 38) {a0 : Int} (ra0 : q_R a0) {a1 : Int} (ra1 : q_R a1) {a2 : Int} (ra2 : q_R a2) {μ : q_M} {xo : Int} (h : f_Ch_propertyAt N o a0 a1 a2 μ = some xo) : Met l yX0_propertyAt (q_wc yX0_propertyAt cX0_propertyAt 7 (some .int)) ({ frames := 2, cells := 0, slots := 0, locals := 46 } : Room) (va_Pc [.ref (z + o), .int (q_I a0), .int (q_I a1), .int (q_I a2)] (q_B (q_P D dA q_kdC q_rhoC 77 z sz μ) D dA)) (q_Q (some (.int (q_I xo))) (q_R xo) (q_P D dA q_kdC q_rhoC 77 z sz μ) (q_A z 77)) 0 0 (q_A z 77) := by
  refine Met.ofW (cc := cX0_propertyAt) (maxL := 7) (ret := (some .int)) (by decide) rfl ?_
  intro p e s m args below meth c s₁ B hml hv
  obtain ⟨hargs, hP, hK⟩ := hv
  have hx := B.exec
  have hb := B.bytes
  have hr := B.returns
  have hts : ∀ w ∈ q_W, w.before args s = true := fun w hw => atoms_spec (ws := q_wc yX0_propertyAt cX0_propertyAt 7 (some .int)) B.pre w (List.mem_cons_of_mem _ hw)
  have hown : s.vm.findClass RX0 = some m.cls := findClass_of_methodNamed B.named
  have hlocks := B.notSynchronized
  have hS : va_S (q_A z 77) s.heap s.heap [] := va_S.rf
  have hA : ∀ k, k < 77 → q_A z 77 (z + k) := fun k hk => ⟨Nat.le_add_right z k, Nat.add_lt_add_left hk z⟩
  have hl := lv_entry [.ref (z + o), .int (q_I a0), .int (q_I a1), .int (q_I a2)] (n := 7) (Nat.le_of_ble_eq_true rfl)
  refine W.eq (by rw [hargs, lg_entry_eq]) ?_
  generalize (lg_sl [.ref (z + o), .int (q_I a0), .int (q_I a1), .int (q_I a2)] ++ List.replicate (7 - (lg_sl [.ref (z + o), .int (q_I a0), .int (q_I a1), .int (q_I a2)]).length) Slot.unset).toArray = ls at hl ⊢
  have hl : lv_has ls 7 [(0, .ref (z + o)), (1, .int (q_I a0)), (2, .int (q_I a1)), (3, .int (q_I a2))] := hl
  generalize hQ : MQ below _ args s 0 0 _ = Qf
  change W p l e ({ frames := 2, cells := 0, slots := 0, locals := 46 } : Room) s m args below meth c s.heap [] 0 0 Qf (F0 m 0 ls [])
  unfold f_Ch_propertyAt at h
  refine lv_aload_n hx hb dX0_propertyAt_0 rfl (lv_at hl 0 rfl) ?_
  refine lv_iload_n hx hb dX0_propertyAt_1 rfl (lv_at hl 1 rfl) ?_
  obtain ⟨x2, hv1, h⟩ := q_b_some h
  refine q_callV hx hb hml hts hown hK hP hS (As := [.int (q_I a0)]) (rest := []) (st1 := [.int (q_I x2)]) cv_RX0_51 (c_Ch_markerPlace l D dA ho ra0 hv1) (q_ltK0 ho) (q_kdK_0 ho) rfl ⟨rfl, rfl, Nat.le_of_ble_eq_true rfl, Nat.le_of_ble_eq_true rfl⟩ ⟨Nat.le_refl _, Nat.le_refl _⟩ rfl hl.1 rfl (Nat.le_of_ble_eq_true rfl) rfl (fun _ g => g) dX0_propertyAt_2 ?_
  clear hP hS hv1; intro H locs r2 hP hS _
  refine lv_istore (lv' := [(4, .int (q_I x2)), (0, .ref (z + o)), (1, .int (q_I a0)), (2, .int (q_I a1)), (3, .int (q_I a2))]) hx hb dX0_propertyAt_5 hl (by decide) rfl ?_
  clear hl; intro ls hl
  refine lv_iload hx hb dX0_propertyAt_7 (lv_at hl 0 rfl) ?_
  refine lv_iload_n hx hb dX0_propertyAt_9 rfl (lv_at hl 3 rfl) ?_
  refine q_cne hx hb r2 ra1 (tgt := 33) dX0_propertyAt_10 (by decide) h ?_ ?_
  · clear h; intro g23 h
    refine lv_iload_n hx hb dX0_propertyAt_13 rfl (lv_at hl 4 rfl) ?_
    refine q_jn_in h (fun J => ∀ (x20 : Int) (H : Heap) (locs : List Loc) (ls : Array Slot), q_R x20 → q_P D dA q_kdC q_rhoC 77 z sz μ H → va_S (q_A z 77) s.heap H locs → lv_has ls 7 [] → J x20 = some xo → W p l e ({ frames := 2, cells := 0, slots := 0, locals := 46 } : Room) s m args below meth c H locs 0 0 Qf (F0 m 32 ls [.int (q_I x20)])) ?_ ?_
    · clear h hl hP hS; intro x20 H locs ls r20 hP hS hl h
      rw [← hQ]
      exact q_ret1 hx hb hr hlocks hP hS r20 h dX0_propertyAt_32
    · clear h; intro j32 hj32 h
      refine q_zne hx hb ra2 (tgt := 21) dX0_propertyAt_14 (by decide) h ?_ ?_
      · clear h; intro g22 h
        refine lv_iconst (v := q_I 2) hx hb dX0_propertyAt_17 rfl ?_
        refine lv_goto (tgt := 32) hx hb dX0_propertyAt_18 (by decide) ?_
        exact hj32 2 _ _ _ (q_r 2 rfl) hP hS (lv_sub hl [] rfl) h
      · clear h; intro g22 h
        refine lv_iload_n hx hb dX0_propertyAt_21 rfl (lv_at hl 4 rfl) ?_
        refine lv_iconst (v := q_I 1) hx hb dX0_propertyAt_22 rfl ?_
        refine q_cne hx hb ra2 (q_r 1 rfl) (tgt := 30) dX0_propertyAt_23 (by decide) h ?_ ?_
        · clear h; intro g21 h
          refine lv_iconst (v := q_I 0) hx hb dX0_propertyAt_26 rfl ?_
          refine lv_goto (tgt := 32) hx hb dX0_propertyAt_27 (by decide) ?_
          exact hj32 0 _ _ _ (q_r 0 rfl) hP hS (lv_sub hl [] rfl) h
        · clear h; intro g21 h
          refine lv_ldc hx hb hown (hts _ ck_RX0_55) dX0_propertyAt_30 ?_
          exact hj32 ((-100006)) _ _ _ (q_r (-100006) rfl) hP hS (lv_sub hl [] rfl) h
  · clear h; intro g23 h
    refine lv_iload hx hb dX0_propertyAt_33 (lv_at hl 0 rfl) ?_
    refine lv_iconst (v := q_I (-1)) hx hb dX0_propertyAt_35 rfl ?_
    refine q_jn_in h (fun J => ∀ (x3 : Int) (H : Heap) (locs : List Loc) (ls : Array Slot), q_R x3 → q_P D dA q_kdC q_rhoC 77 z sz μ H → va_S (q_A z 77) s.heap H locs → lv_has ls 7 [(0, .ref (z + o)), (1, .int (q_I a0)), (2, .int (q_I a1)), (3, .int (q_I a2))] → J x3 = some xo → W p l e ({ frames := 2, cells := 0, slots := 0, locals := 46 } : Room) s m args below meth c H locs 0 0 Qf (F0 m 50 ls [.int (q_I x3)])) ?_ ?_
    · clear h hl hP hS; intro x3 H locs ls r3 hP hS hl h
      refine lv_istore (lv' := [(5, .int (q_I x3)), (0, .ref (z + o)), (1, .int (q_I a0)), (2, .int (q_I a1)), (3, .int (q_I a2))]) hx hb dX0_propertyAt_50 hl (by decide) rfl ?_
      clear hl; intro ls hl
      refine lv_aload_n hx hb dX0_propertyAt_52 rfl (lv_at hl 1 rfl) ?_
      refine lv_iload_n hx hb dX0_propertyAt_53 rfl (lv_at hl 2 rfl) ?_
      refine lv_iload hx hb dX0_propertyAt_54 (lv_at hl 0 rfl) ?_
      refine q_jn_in h (fun J => ∀ (x4 : Int) (H : Heap) (locs : List Loc) (ls : Array Slot), q_R x4 → q_P D dA q_kdC q_rhoC 77 z sz μ H → va_S (q_A z 77) s.heap H locs → lv_has ls 7 [(0, .ref (z + o)), (3, .int (q_I a2))] → J x4 = some xo → W p l e ({ frames := 2, cells := 0, slots := 0, locals := 46 } : Room) s m args below meth c H locs 0 0 Qf (F0 m 66 ls [.int (q_I x4), .int (q_I a0), .ref (z + o)])) ?_ ?_
      · clear h hl hP hS; intro x4 H locs ls r4 hP hS hl h
        obtain ⟨x6, hv5, h⟩ := q_b_some h
        refine q_callV hx hb hml hts hown hK hP hS (As := [.int (q_I a0), .int (q_I x4)]) (rest := []) (st1 := [.int (q_I x6)]) cv_RX0_56 (c_Ch_messageAt l D dA ho ra0 r4 hv5) (q_ltK0 ho) (q_kdK_0 ho) rfl ⟨rfl, rfl, Nat.le_of_ble_eq_true rfl, Nat.le_of_ble_eq_true rfl⟩ ⟨Nat.le_refl _, Nat.le_refl _⟩ rfl hl.1 rfl (Nat.le_of_ble_eq_true rfl) rfl (fun _ g => g) dX0_propertyAt_66 ?_
        clear hP hS hv5; intro H locs r6 hP hS _
        refine lv_istore (lv' := [(6, .int (q_I x6)), (0, .ref (z + o)), (3, .int (q_I a2))]) hx hb dX0_propertyAt_69 hl (by decide) rfl ?_
        clear hl; intro ls hl
        refine lv_iload hx hb dX0_propertyAt_71 (lv_at hl 0 rfl) ?_
        refine lv_iconst (v := q_I (-1)) hx hb dX0_propertyAt_73 rfl ?_
        refine q_cne hx hb r6 (q_r (-1) rfl) (tgt := 80) dX0_propertyAt_74 (by decide) h ?_ ?_
        · clear h; intro g15 h
          refine lv_ldc hx hb hown (hts _ ck_RX0_55) dX0_propertyAt_77 ?_
          rw [← hQ]
          exact q_ret1 hx hb hr hlocks hP hS (q_r (-100006) rfl) h dX0_propertyAt_79
        · clear h; intro g15 h
          refine lv_iload_n hx hb dX0_propertyAt_80 rfl (lv_at hl 2 rfl) ?_
          refine q_zne hx hb ra2 (tgt := 92) dX0_propertyAt_81 (by decide) h ?_ ?_
          · clear h; intro g14 h
            refine lv_aload_n hx hb dX0_propertyAt_84 rfl (lv_at hl 1 rfl) ?_
            refine q_getR hx hb hts hown hK hP fd_RX0_15 (q_ltK0 ho) (q_kdK_0 ho) rfl (q_rhK_0_2 ho) dX0_propertyAt_85 ?_
            refine lv_iload hx hb dX0_propertyAt_88 (lv_at hl 0 rfl) ?_
            refine q_iald hx hb hK hP (q_ltK ho rfl) (q_kdK_2 ho) r6 dX0_propertyAt_90 h ?_
            clear h; intro x13 r13 h
            rw [← hQ]
            exact q_ret1 hx hb hr hlocks hP hS r13 h dX0_propertyAt_91
          · clear h; intro g14 h
            refine lv_iload_n hx hb dX0_propertyAt_92 rfl (lv_at hl 2 rfl) ?_
            refine lv_iconst (v := q_I 1) hx hb dX0_propertyAt_93 rfl ?_
            refine q_cne hx hb ra2 (q_r 1 rfl) (tgt := 105) dX0_propertyAt_94 (by decide) h ?_ ?_
            · clear h; intro g12 h
              refine lv_aload_n hx hb dX0_propertyAt_97 rfl (lv_at hl 1 rfl) ?_
              refine q_getR hx hb hts hown hK hP fd_RX0_18 (q_ltK0 ho) (q_kdK_0 ho) rfl (q_rhK_0_3 ho) dX0_propertyAt_98 ?_
              refine lv_iload hx hb dX0_propertyAt_101 (lv_at hl 0 rfl) ?_
              refine q_iald hx hb hK hP (q_ltK ho rfl) (q_kdK_3 ho) r6 dX0_propertyAt_103 h ?_
              clear h; intro x11 r11 h
              rw [← hQ]
              exact q_ret1 hx hb hr hlocks hP hS r11 h dX0_propertyAt_104
            · clear h; intro g12 h
              refine lv_aload_n hx hb dX0_propertyAt_105 rfl (lv_at hl 1 rfl) ?_
              refine q_getR hx hb hts hown hK hP fd_RX0_21 (q_ltK0 ho) (q_kdK_0 ho) rfl (q_rhK_0_4 ho) dX0_propertyAt_106 ?_
              refine lv_iload hx hb dX0_propertyAt_109 (lv_at hl 0 rfl) ?_
              refine q_iald hx hb hK hP (q_ltK ho rfl) (q_kdK_4 ho) r6 dX0_propertyAt_111 h ?_
              clear h; intro x7 r7 h
              refine lv_iconst (v := q_I (-1)) hx hb dX0_propertyAt_112 rfl ?_
              refine q_jn_in h (fun J => ∀ (x8 : Int) (H : Heap) (locs : List Loc) (ls : Array Slot), q_R x8 → q_P D dA q_kdC q_rhoC 77 z sz μ H → va_S (q_A z 77) s.heap H locs → lv_has ls 7 [] → J x8 = some xo → W p l e ({ frames := 2, cells := 0, slots := 0, locals := 46 } : Room) s m args below meth c H locs 0 0 Qf (F0 m 128 ls [.int (q_I x8)])) ?_ ?_
              · clear h hl hP hS; intro x8 H locs ls r8 hP hS hl h
                rw [← hQ]
                exact q_ret1 hx hb hr hlocks hP hS r8 h dX0_propertyAt_128
              · clear h; intro j128 hj128 h
                refine q_cne hx hb r7 (q_r (-1) rfl) (tgt := 121) dX0_propertyAt_113 (by decide) h ?_ ?_
                · clear h; intro g10 h
                  refine lv_ldc hx hb hown (hts _ ck_RX0_55) dX0_propertyAt_116 ?_
                  refine lv_goto (tgt := 128) hx hb dX0_propertyAt_118 (by decide) ?_
                  exact hj128 ((-100006)) _ _ _ (q_r (-100006) rfl) hP hS (lv_sub hl [] rfl) h
                · clear h; intro g10 h
                  refine lv_aload_n hx hb dX0_propertyAt_121 rfl (lv_at hl 1 rfl) ?_
                  refine q_getR hx hb hts hown hK hP fd_RX0_21 (q_ltK0 ho) (q_kdK_0 ho) rfl (q_rhK_0_4 ho) dX0_propertyAt_122 ?_
                  refine lv_iload hx hb dX0_propertyAt_125 (lv_at hl 0 rfl) ?_
                  refine q_iald hx hb hK hP (q_ltK ho rfl) (q_kdK_4 ho) r6 dX0_propertyAt_127 h ?_
                  clear h; intro x9 r9 h
                  exact hj128 x9 _ _ _ r9 hP hS (lv_sub hl [] rfl) h
      · clear h; intro j66 hj66 h
        refine q_zeq hx hb r3 (tgt := 65) dX0_propertyAt_56 (by decide) h ?_ ?_
        · clear h; intro g17 h
          refine lv_iload_n hx hb dX0_propertyAt_65 rfl (lv_at hl 3 rfl) ?_
          exact hj66 a1 _ _ _ ra1 hP hS (lv_sub hl [1, 4] rfl) h
        · clear h; intro g17 h
          refine lv_iload_n hx hb dX0_propertyAt_59 rfl (lv_at hl 3 rfl) ?_
          refine lv_iconst (v := q_I 1) hx hb dX0_propertyAt_60 rfl ?_
          refine q_isub hx hb dX0_propertyAt_61 h ?_
          clear h; intro x16 r16 h
          refine lv_goto (tgt := 66) hx hb dX0_propertyAt_62 (by decide) ?_
          exact hj66 x16 _ _ _ r16 hP hS (lv_sub hl [1, 4] rfl) h
    · clear h; intro j50 hj50 h
      refine q_jn_in h (fun J => ∀ (H : Heap) (locs : List Loc) (ls : Array Slot), q_P D dA q_kdC q_rhoC 77 z sz μ H → va_S (q_A z 77) s.heap H locs → lv_has ls 7 [(0, .ref (z + o)), (1, .int (q_I a0)), (2, .int (q_I a1)), (3, .int (q_I a2))] → J = some xo → W p l e ({ frames := 2, cells := 0, slots := 0, locals := 46 } : Room) s m args below meth c H locs 0 0 Qf (F0 m 49 ls [])) ?_ ?_
      · clear h hl hP hS; intro  H locs ls  hP hS hl h
        refine lv_iconst (v := q_I 0) hx hb dX0_propertyAt_49 rfl ?_
        exact hj50 0 _ _ _ (q_r 0 rfl) hP hS (lv_sub hl [0, 1, 2, 3] rfl) h
      · clear h; intro j49 hj49 h
        refine q_ceq hx hb r2 (q_r (-1) rfl) (tgt := 49) dX0_propertyAt_36 (by decide) h ?_ ?_
        · clear h; intro g19 h
          exact hj49  _ _ _ hP hS (lv_sub hl [1, 2, 3, 4] rfl) h
        · clear h; intro g19 h
          refine lv_iload_n hx hb dX0_propertyAt_39 rfl (lv_at hl 3 rfl) ?_
          refine lv_iload hx hb dX0_propertyAt_40 (lv_at hl 0 rfl) ?_
          refine q_cle hx hb ra1 r2 (tgt := 49) dX0_propertyAt_42 (by decide) h ?_ ?_
          · clear h; intro g18 h
            exact hj49  _ _ _ hP hS (lv_sub hl [1, 2, 3, 4] rfl) h
          · clear h; intro g18 h
            refine lv_iconst (v := q_I 1) hx hb dX0_propertyAt_45 rfl ?_
            refine lv_goto (tgt := 50) hx hb dX0_propertyAt_46 (by decide) ?_
            exact hj50 1 _ _ _ (q_r 1 rfl) hP hS (lv_sub hl [1, 2, 3, 4] rfl) h
set_option maxHeartbeats 4000000 in
set_option maxRecDepth 100000 in
theorem c_CR_inChannel (l : Launch) (D : va_G) (dA : Nat → ClassId) {z sz : Nat} {N : Nat} {a0 : Int} (ra0 : q_R a0) {a1 : Int} (ra1 : q_R a1) {a2 : Int} (ra2 : q_R a2) {a3 : Int} (ra3 : q_R a3) {μ : q_M} {xo : Int} (h : f_CR_inChannel N a0 a1 a2 a3 μ = some xo) : Met l yX10_inChannel (q_wc yX10_inChannel cX10_inChannel 5 (some .int)) ({ frames := 3, cells := 0, slots := 0, locals := 72 } : Room) (va_Pc [.ref (z + 0), .int (q_I a0), .int (q_I a1), .int (q_I a2), .int (q_I a3)] (q_B (q_P D dA q_kdC q_rhoC 77 z sz μ) D dA)) (q_Q (some (.int (q_I xo))) (q_R xo) (q_P D dA q_kdC q_rhoC 77 z sz μ) (q_A z 77)) 0 0 (q_A z 77) := by
  refine Met.ofW (cc := cX10_inChannel) (maxL := 5) (ret := (some .int)) (by decide) rfl ?_
  intro p e s m args below meth c s₁ B hml hv
  obtain ⟨hargs, hP, hK⟩ := hv
  have hx := B.exec
  have hb := B.bytes
  have hr := B.returns
  have hts : ∀ w ∈ q_W, w.before args s = true := fun w hw => atoms_spec (ws := q_wc yX10_inChannel cX10_inChannel 5 (some .int)) B.pre w (List.mem_cons_of_mem _ hw)
  have hown : s.vm.findClass RX10 = some m.cls := findClass_of_methodNamed B.named
  have hlocks := B.notSynchronized
  have hS : va_S (q_A z 77) s.heap s.heap [] := va_S.rf
  have hA : ∀ k, k < 77 → q_A z 77 (z + k) := fun k hk => ⟨Nat.le_add_right z k, Nat.add_lt_add_left hk z⟩
  have hl := lv_entry [.ref (z + 0), .int (q_I a0), .int (q_I a1), .int (q_I a2), .int (q_I a3)] (n := 5) (Nat.le_of_ble_eq_true rfl)
  refine W.eq (by rw [hargs, lg_entry_eq]) ?_
  generalize (lg_sl [.ref (z + 0), .int (q_I a0), .int (q_I a1), .int (q_I a2), .int (q_I a3)] ++ List.replicate (5 - (lg_sl [.ref (z + 0), .int (q_I a0), .int (q_I a1), .int (q_I a2), .int (q_I a3)]).length) Slot.unset).toArray = ls at hl ⊢
  have hl : lv_has ls 5 [(0, .ref (z + 0)), (1, .int (q_I a0)), (2, .int (q_I a1)), (3, .int (q_I a2)), (4, .int (q_I a3))] := hl
  generalize hQ : MQ below _ args s 0 0 _ = Qf
  change W p l e ({ frames := 3, cells := 0, slots := 0, locals := 72 } : Room) s m args below meth c s.heap [] 0 0 Qf (F0 m 0 ls [])
  unfold f_CR_inChannel at h
  refine lv_aload_n hx hb dX10_inChannel_0 rfl (lv_at hl 0 rfl) ?_
  refine lv_iload_n hx hb dX10_inChannel_1 rfl (lv_at hl 1 rfl) ?_
  refine lv_iload_n hx hb dX10_inChannel_2 rfl (lv_at hl 2 rfl) ?_
  obtain ⟨x2, hv1, h⟩ := q_b_some h
  refine q_callV hx hb hml hts hown hK hP hS (As := [.int (q_I a0), .int (q_I a1)]) (rest := []) (st1 := [.int (q_I x2)]) cv_RX10_100 (c_CR_isPair l D dA ra0 ra1 hv1) (Nat.le_of_ble_eq_true rfl) q_kdC_0 rfl ⟨rfl, rfl, Nat.le_of_ble_eq_true rfl, Nat.le_of_ble_eq_true rfl⟩ ⟨Nat.le_refl _, Nat.le_refl _⟩ rfl hl.1 rfl (Nat.le_of_ble_eq_true rfl) rfl (fun _ g => g) dX10_inChannel_3 ?_
  clear hP hS hv1; intro H locs r2 hP hS _
  refine q_zne hx hb r2 (tgt := 12) dX10_inChannel_6 (by decide) h ?_ ?_
  · clear h; intro g11 h
    refine lv_ldc hx hb hown (hts _ ck_RX10_74) dX10_inChannel_9 ?_
    rw [← hQ]
    exact q_ret1 hx hb hr hlocks hP hS (q_r (-100001) rfl) h dX10_inChannel_11
  · clear h; intro g11 h
    refine lv_iload_n hx hb dX10_inChannel_12 rfl (lv_at hl 3 rfl) ?_
    refine q_jn_in h (fun J => ∀ (H : Heap) (locs : List Loc) (ls : Array Slot), q_P D dA q_kdC q_rhoC 77 z sz μ H → va_S (q_A z 77) s.heap H locs → lv_has ls 5 [] → J = some xo → W p l e ({ frames := 3, cells := 0, slots := 0, locals := 72 } : Room) s m args below meth c H locs 0 0 Qf (F0 m 26 ls [])) ?_ ?_
    · clear h hl hP hS; intro  H locs ls  hP hS hl h
      refine lv_ldc hx hb hown (hts _ ck_RX10_62) dX10_inChannel_26 ?_
      rw [← hQ]
      exact q_ret1 hx hb hr hlocks hP hS (q_r (-100002) rfl) h dX10_inChannel_28
    · clear h; intro j26 hj26 h
      refine q_zlt hx hb ra2 (tgt := 26) dX10_inChannel_13 (by decide) h ?_ ?_
      · clear h; intro g10 h
        exact hj26  _ _ _ hP hS (lv_sub hl [] rfl) h
      · clear h; intro g10 h
        refine lv_iload hx hb dX10_inChannel_16 (lv_at hl 4 rfl) ?_
        refine lv_iconst (v := q_I 0) hx hb dX10_inChannel_18 rfl ?_
        refine lv_iconst (v := q_I 2) hx hb dX10_inChannel_19 rfl ?_
        obtain ⟨x4, hv3, h⟩ := q_b_some h
        refine q_callS hx hb hml hts hown hK hP hS (As := [.int (q_I a3), .int (q_I 0), .int (q_I 2)]) (rest := []) (st1 := [.int (q_I x4)]) cs_RX10_58 (c_CR_within l D dA ra3 (q_r 0 rfl) (q_r 2 rfl) hv3) ⟨rfl, rfl, Nat.le_of_ble_eq_true rfl, Nat.le_of_ble_eq_true rfl⟩ ⟨Nat.le_refl _, Nat.le_refl _⟩ rfl hl.1 rfl (Nat.le_of_ble_eq_true rfl) rfl (fun _ g => g) dX10_inChannel_20 ?_
        clear hP hS hv3; intro H locs r4 hP hS _
        refine q_zne hx hb r4 (tgt := 29) dX10_inChannel_23 (by decide) h ?_ ?_
        · clear h; intro g9 h
          exact hj26  _ _ _ hP hS (lv_sub hl [] rfl) h
        · clear h; intro g9 h
          refine lv_aload_n hx hb dX10_inChannel_29 rfl (lv_at hl 0 rfl) ?_
          refine q_getR hx hb hts hown hK hP fd_RX10_10 (Nat.le_of_ble_eq_true rfl) q_kdC_0 rfl q_rhC_0_0 dX10_inChannel_30 ?_
          refine q_getR hx hb hts hown hK hP fd_RX10_111 (Nat.le_of_ble_eq_true rfl) q_kdC_1 rfl q_rhC_1_5 dX10_inChannel_33 ?_
          refine lv_iload_n hx hb dX10_inChannel_36 rfl (lv_at hl 1 rfl) ?_
          refine lv_iload_n hx hb dX10_inChannel_37 rfl (lv_at hl 2 rfl) ?_
          obtain ⟨x6, hv5, h⟩ := q_b_some h
          refine q_callS hx hb hml hts hown hK hP hS (As := [.int (q_I a0), .int (q_I a1)]) (rest := [.ref (z + 15)]) (st1 := [.int (q_I x6), .ref (z + 15)]) cs_RX10_115 (c_CR_channelOf l D dA ra0 ra1 hv5) ⟨rfl, rfl, Nat.le_of_ble_eq_true rfl, Nat.le_of_ble_eq_true rfl⟩ ⟨Nat.le_refl _, Nat.le_refl _⟩ rfl hl.1 rfl (Nat.le_of_ble_eq_true rfl) rfl (fun _ g => g) dX10_inChannel_38 ?_
          clear hP hS hv5; intro H locs r6 hP hS _
          refine lv_iload_n hx hb dX10_inChannel_41 rfl (lv_at hl 3 rfl) ?_
          refine lv_iload hx hb dX10_inChannel_42 (lv_at hl 4 rfl) ?_
          obtain ⟨x8, hv7, h⟩ := q_b_some h
          refine q_callV hx hb hml hts hown hK hP hS (As := [.int (q_I x6), .int (q_I a2), .int (q_I a3)]) (rest := []) (st1 := [.int (q_I x8)]) cv_RX10_118 (c_Ch_propertyAt l D dA (Or.inl rfl) r6 ra2 ra3 hv7) (Nat.le_of_ble_eq_true rfl) q_kdC_15 rfl ⟨rfl, rfl, Nat.le_of_ble_eq_true rfl, Nat.le_of_ble_eq_true rfl⟩ ⟨Nat.le_refl _, Nat.le_refl _⟩ rfl hl.1 rfl (Nat.le_of_ble_eq_true rfl) rfl (fun _ g => g) dX10_inChannel_44 ?_
          clear hP hS hv7; intro H locs r8 hP hS _
          rw [← hQ]
          exact q_ret1 hx hb hr hlocks hP hS r8 h dX10_inChannel_47
set_option maxHeartbeats 4000000 in
set_option maxRecDepth 100000 in
theorem c_CR_isEvent (l : Launch) (D : va_G) (dA : Nat → ClassId) {z sz : Nat} {a0 : Int} (ra0 : q_R a0) {μ : q_M} {xo : Int} (h : f_CR_isEvent a0 μ = some xo) : Met l yX10_isEvent (q_wc yX10_isEvent cX10_isEvent 2 (some .boolean)) ({ frames := 1, cells := 0, slots := 0, locals := 22 } : Room) (va_Pc [.ref (z + 0), .int (q_I a0)] (q_B (q_P D dA q_kdC q_rhoC 77 z sz μ) D dA)) (q_Q (some (.int (q_I xo))) (q_R xo) (q_P D dA q_kdC q_rhoC 77 z sz μ) (q_A z 77)) 0 0 (q_A z 77) := by
  refine Met.ofW (cc := cX10_isEvent) (maxL := 2) (ret := (some .boolean)) (by decide) rfl ?_
  intro p e s m args below meth c s₁ B hml hv
  obtain ⟨hargs, hP, hK⟩ := hv
  have hx := B.exec
  have hb := B.bytes
  have hr := B.returns
  have hts : ∀ w ∈ q_W, w.before args s = true := fun w hw => atoms_spec (ws := q_wc yX10_isEvent cX10_isEvent 2 (some .boolean)) B.pre w (List.mem_cons_of_mem _ hw)
  have hown : s.vm.findClass RX10 = some m.cls := findClass_of_methodNamed B.named
  have hlocks := B.notSynchronized
  have hS : va_S (q_A z 77) s.heap s.heap [] := va_S.rf
  have hA : ∀ k, k < 77 → q_A z 77 (z + k) := fun k hk => ⟨Nat.le_add_right z k, Nat.add_lt_add_left hk z⟩
  have hl := lv_entry [.ref (z + 0), .int (q_I a0)] (n := 2) (Nat.le_of_ble_eq_true rfl)
  refine W.eq (by rw [hargs, lg_entry_eq]) ?_
  generalize (lg_sl [.ref (z + 0), .int (q_I a0)] ++ List.replicate (2 - (lg_sl [.ref (z + 0), .int (q_I a0)]).length) Slot.unset).toArray = ls at hl ⊢
  have hl : lv_has ls 2 [(0, .ref (z + 0)), (1, .int (q_I a0))] := hl
  generalize hQ : MQ below _ args s 0 0 _ = Qf
  change W p l e ({ frames := 1, cells := 0, slots := 0, locals := 22 } : Room) s m args below meth c s.heap [] 0 0 Qf (F0 m 0 ls [])
  unfold f_CR_isEvent at h
  refine lv_iload_n hx hb dX10_isEvent_0 rfl (lv_at hl 1 rfl) ?_
  refine lv_iconst (v := q_I 0) hx hb dX10_isEvent_1 rfl ?_
  refine lv_aload_n hx hb dX10_isEvent_2 rfl (lv_at hl 0 rfl) ?_
  refine q_getR hx hb hts hown hK hP fd_RX10_10 (Nat.le_of_ble_eq_true rfl) q_kdC_0 rfl q_rhC_0_0 dX10_isEvent_3 ?_
  refine q_getR hx hb hts hown hK hP fd_RX10_75 (Nat.le_of_ble_eq_true rfl) q_kdC_1 rfl q_rhC_1_4 dX10_isEvent_6 ?_
  refine q_getI hx hb hts hown hK hP fd_RX10_79 (Nat.le_of_ble_eq_true rfl) q_kdC_5 rfl dX10_isEvent_9 h ?_
  clear h; intro x1 r1 h
  refine lv_iconst (v := q_I 1) hx hb dX10_isEvent_12 rfl ?_
  refine q_isub hx hb dX10_isEvent_13 h ?_
  clear h; intro x2 r2 h
  obtain ⟨x4, hv3, h⟩ := q_b_some h
  refine q_callS hx hb hml hts hown hK hP hS (As := [.int (q_I a0), .int (q_I 0), .int (q_I x2)]) (rest := []) (st1 := [.int (q_I x4)]) cs_RX10_58 (c_CR_within l D dA ra0 (q_r 0 rfl) r2 hv3) ⟨rfl, rfl, Nat.le_of_ble_eq_true rfl, Nat.le_of_ble_eq_true rfl⟩ ⟨Nat.le_refl _, Nat.le_refl _⟩ rfl hl.1 rfl (Nat.le_of_ble_eq_true rfl) rfl (fun _ g => g) dX10_isEvent_14 ?_
  clear hP hS hv3; intro H locs r4 hP hS _
  rw [← hQ]
  obtain ⟨hz, h⟩ := q_rz_some h
  exact q_retz1 hx hb hr hlocks hP hS hz h dX10_isEvent_17
set_option maxHeartbeats 4000000 in
set_option maxRecDepth 100000 in
theorem c_Wo_partnerOf (l : Launch) (D : va_G) (dA : Nat → ClassId) {z sz : Nat} {o : Nat} (ho : o = 1 ∨ o = 24) {a0 : Int} (ra0 : q_R a0) {μ : q_M} {xo : Int} (h : f_Wo_partnerOf o a0 μ = some xo) : Met l yX9_partnerOf (q_wc yX9_partnerOf cX9_partnerOf 4 (some .int)) ({ frames := 1, cells := 0, slots := 0, locals := 22 } : Room) (va_Pc [.ref (z + o), .int (q_I a0)] (q_B (q_P D dA q_kdC q_rhoC 77 z sz μ) D dA)) (q_Q (some (.int (q_I xo))) (q_R xo) (q_P D dA q_kdC q_rhoC 77 z sz μ) (q_A z 77)) 0 0 (q_A z 77) := by
  refine Met.ofW (cc := cX9_partnerOf) (maxL := 4) (ret := (some .int)) (by decide) rfl ?_
  intro p e s m args below meth c s₁ B hml hv
  obtain ⟨hargs, hP, hK⟩ := hv
  have hx := B.exec
  have hb := B.bytes
  have hr := B.returns
  have hts : ∀ w ∈ q_W, w.before args s = true := fun w hw => atoms_spec (ws := q_wc yX9_partnerOf cX9_partnerOf 4 (some .int)) B.pre w (List.mem_cons_of_mem _ hw)
  have hown : s.vm.findClass RX9 = some m.cls := findClass_of_methodNamed B.named
  have hlocks := B.notSynchronized
  have hS : va_S (q_A z 77) s.heap s.heap [] := va_S.rf
  have hA : ∀ k, k < 77 → q_A z 77 (z + k) := fun k hk => ⟨Nat.le_add_right z k, Nat.add_lt_add_left hk z⟩
  have hl := lv_entry [.ref (z + o), .int (q_I a0)] (n := 4) (Nat.le_of_ble_eq_true rfl)
  refine W.eq (by rw [hargs, lg_entry_eq]) ?_
  generalize (lg_sl [.ref (z + o), .int (q_I a0)] ++ List.replicate (4 - (lg_sl [.ref (z + o), .int (q_I a0)]).length) Slot.unset).toArray = ls at hl ⊢
  have hl : lv_has ls 4 [(0, .ref (z + o)), (1, .int (q_I a0))] := hl
  generalize hQ : MQ below _ args s 0 0 _ = Qf
  change W p l e ({ frames := 1, cells := 0, slots := 0, locals := 22 } : Room) s m args below meth c s.heap [] 0 0 Qf (F0 m 0 ls [])
  unfold f_Wo_partnerOf at h
  refine lv_aload_n hx hb dX9_partnerOf_0 rfl (lv_at hl 0 rfl) ?_
  refine q_getR hx hb hts hown hK hP fd_RX9_24 (q_ltW0 ho) (q_kdW_0 ho) rfl (q_rhW_0_4 ho) dX9_partnerOf_1 ?_
  refine q_getR hx hb hts hown hK hP fd_RX9_181 (q_ltW ho rfl) (q_kdW_4 ho) rfl (q_rhW_4_6 ho) dX9_partnerOf_4 ?_
  refine lv_iload_n hx hb dX9_partnerOf_7 rfl (lv_at hl 1 rfl) ?_
  refine q_iald hx hb hK hP (q_ltW ho rfl) (q_kdW_10 ho) ra0 dX9_partnerOf_8 h ?_
  clear h; intro x1 r1 h
  refine lv_istore_n (lv' := [(2, .int (q_I x1)), (0, .ref (z + o)), (1, .int (q_I a0))]) hx hb dX9_partnerOf_9 rfl hl (by decide) rfl ?_
  clear hl; intro ls hl
  refine lv_iload_n hx hb dX9_partnerOf_10 rfl (lv_at hl 0 rfl) ?_
  refine lv_iconst (v := q_I 0) hx hb dX9_partnerOf_11 rfl ?_
  refine lv_aload_n hx hb dX9_partnerOf_12 rfl (lv_at hl 1 rfl) ?_
  refine q_getR hx hb hts hown hK hP fd_RX9_31 (q_ltW0 ho) (q_kdW_0 ho) rfl (q_rhW_0_5 ho) dX9_partnerOf_13 ?_
  refine q_getI hx hb hts hown hK hP fd_RX9_77 (q_ltW ho rfl) (q_kdW_14 ho) rfl dX9_partnerOf_16 h ?_
  clear h; intro x2 r2 h
  refine lv_iconst (v := q_I 1) hx hb dX9_partnerOf_19 rfl ?_
  refine q_isub hx hb dX9_partnerOf_20 h ?_
  clear h; intro x3 r3 h
  obtain ⟨x5, hv4, h⟩ := q_b_some h
  refine q_callN hx hb hml hts hown hK hP hS (As := [.int (q_I x1), .int (q_I 0), .int (q_I x3)]) (rest := []) (st1 := [.int (q_I x5)]) cn_RX9_101 (c_CR_within l D dA r1 (q_r 0 rfl) r3 hv4) ⟨rfl, rfl, Nat.le_of_ble_eq_true rfl, Nat.le_of_ble_eq_true rfl⟩ ⟨Nat.le_refl _, Nat.le_refl _⟩ rfl hl.1 rfl (Nat.le_of_ble_eq_true rfl) rfl (fun _ g => g) dX9_partnerOf_21 ?_
  clear hP hS hv4; intro H locs r5 hP hS _
  refine q_zne hx hb r5 (tgt := 30) dX9_partnerOf_24 (by decide) h ?_ ?_
  · clear h; intro g13 h
    refine lv_ldc hx hb hown (hts _ ck_RX9_112) dX9_partnerOf_27 ?_
    rw [← hQ]
    exact q_ret1 hx hb hr hlocks hP hS (q_r (-100006) rfl) h dX9_partnerOf_29
  · clear h; intro g13 h
    refine lv_aload_n hx hb dX9_partnerOf_30 rfl (lv_at hl 1 rfl) ?_
    refine q_getR hx hb hts hown hK hP fd_RX9_24 (q_ltW0 ho) (q_kdW_0 ho) rfl (q_rhW_0_4 ho) dX9_partnerOf_31 ?_
    refine q_getR hx hb hts hown hK hP fd_RX9_170 (q_ltW ho rfl) (q_kdW_4 ho) rfl (q_rhW_4_2 ho) dX9_partnerOf_34 ?_
    refine lv_iload_n hx hb dX9_partnerOf_37 rfl (lv_at hl 2 rfl) ?_
    refine q_iald hx hb hK hP (q_ltW ho rfl) (q_kdW_6 ho) ra0 dX9_partnerOf_38 h ?_
    clear h; intro x6 r6 h
    refine lv_iconst (v := q_I 1) hx hb dX9_partnerOf_39 rfl ?_
    refine q_jn_in h (fun J => ∀ (x7 : Int) (H : Heap) (locs : List Loc) (ls : Array Slot), q_R x7 → q_P D dA q_kdC q_rhoC 77 z sz μ H → va_S (q_A z 77) s.heap H locs → lv_has ls 4 [] → J x7 = some xo → W p l e ({ frames := 1, cells := 0, slots := 0, locals := 22 } : Room) s m args below meth c H locs 0 0 Qf (F0 m 64 ls [.int (q_I x7)])) ?_ ?_
    · clear h hl hP hS; intro x7 H locs ls r7 hP hS hl h
      refine lv_istore_n (lv' := [(3, .int (q_I x7))]) hx hb dX9_partnerOf_64 rfl hl (by decide) rfl ?_
      clear hl; intro ls hl
      refine lv_iload_n hx hb dX9_partnerOf_65 rfl (lv_at hl 0 rfl) ?_
      refine lv_iconst (v := q_I (-1)) hx hb dX9_partnerOf_66 rfl ?_
      refine q_jn_in h (fun J => ∀ (x8 : Int) (H : Heap) (locs : List Loc) (ls : Array Slot), q_R x8 → q_P D dA q_kdC q_rhoC 77 z sz μ H → va_S (q_A z 77) s.heap H locs → lv_has ls 4 [] → J x8 = some xo → W p l e ({ frames := 1, cells := 0, slots := 0, locals := 22 } : Room) s m args below meth c H locs 0 0 Qf (F0 m 76 ls [.int (q_I x8)])) ?_ ?_
      · clear h hl hP hS; intro x8 H locs ls r8 hP hS hl h
        rw [← hQ]
        exact q_ret1 hx hb hr hlocks hP hS r8 h dX9_partnerOf_76
      · clear h; intro j76 hj76 h
        refine q_cne hx hb r7 (q_r (-1) rfl) (tgt := 75) dX9_partnerOf_67 (by decide) h ?_ ?_
        · clear h; intro g9 h
          refine lv_ldc hx hb hown (hts _ ck_RX9_112) dX9_partnerOf_70 ?_
          refine lv_goto (tgt := 76) hx hb dX9_partnerOf_72 (by decide) ?_
          exact hj76 ((-100006)) _ _ _ (q_r (-100006) rfl) hP hS (lv_sub hl [] rfl) h
        · clear h; intro g9 h
          refine lv_iload_n hx hb dX9_partnerOf_75 rfl (lv_at hl 0 rfl) ?_
          exact hj76 x7 _ _ _ r7 hP hS (lv_sub hl [] rfl) h
    · clear h; intro j64 hj64 h
      refine q_cne hx hb r6 (q_r 1 rfl) (tgt := 55) dX9_partnerOf_40 (by decide) h ?_ ?_
      · clear h; intro g12 h
        refine lv_aload_n hx hb dX9_partnerOf_43 rfl (lv_at hl 1 rfl) ?_
        refine q_getR hx hb hts hown hK hP fd_RX9_31 (q_ltW0 ho) (q_kdW_0 ho) rfl (q_rhW_0_5 ho) dX9_partnerOf_44 ?_
        refine q_getR hx hb hts hown hK hP fd_RX9_139 (q_ltW ho rfl) (q_kdW_14 ho) rfl (q_rhW_14_5 ho) dX9_partnerOf_47 ?_
        refine lv_iload_n hx hb dX9_partnerOf_50 rfl (lv_at hl 0 rfl) ?_
        refine q_iald hx hb hK hP (q_ltW ho rfl) (q_kdW_19 ho) r1 dX9_partnerOf_51 h ?_
        clear h; intro x11 r11 h
        refine lv_goto (tgt := 64) hx hb dX9_partnerOf_52 (by decide) ?_
        exact hj64 x11 _ _ _ r11 hP hS (lv_sub hl [] rfl) h
      · clear h; intro g12 h
        refine lv_aload_n hx hb dX9_partnerOf_55 rfl (lv_at hl 1 rfl) ?_
        refine q_getR hx hb hts hown hK hP fd_RX9_31 (q_ltW0 ho) (q_kdW_0 ho) rfl (q_rhW_0_5 ho) dX9_partnerOf_56 ?_
        refine q_getR hx hb hts hown hK hP fd_RX9_133 (q_ltW ho rfl) (q_kdW_14 ho) rfl (q_rhW_14_4 ho) dX9_partnerOf_59 ?_
        refine lv_iload_n hx hb dX9_partnerOf_62 rfl (lv_at hl 0 rfl) ?_
        refine q_iald hx hb hK hP (q_ltW ho rfl) (q_kdW_18 ho) r1 dX9_partnerOf_63 h ?_
        clear h; intro x10 r10 h
        exact hj64 x10 _ _ _ r10 hP hS (lv_sub hl [] rfl) h
set_option maxHeartbeats 4000000 in
set_option maxRecDepth 100000 in
theorem c_Wo_eventProperty (l : Launch) (D : va_G) (dA : Nat → ClassId) {z sz : Nat} {o : Nat} (ho : o = 1 ∨ o = 24) {a0 : Int} (ra0 : q_R a0) {a1 : Int} (ra1 : q_R a1) {μ : q_M} {xo : Int} (h : f_Wo_eventProperty o a0 a1 μ = some xo) : Met l yX9_eventProperty (q_wc yX9_eventProperty cX9_eventProperty 3 (some .int)) ({ frames := 2, cells := 0, slots := 0, locals := 45 } : Room) (va_Pc [.ref (z + o), .int (q_I a0), .int (q_I a1)] (q_B (q_P D dA q_kdC q_rhoC 77 z sz μ) D dA)) (q_Q (some (.int (q_I xo))) (q_R xo) (q_P D dA q_kdC q_rhoC 77 z sz μ) (q_A z 77)) 0 0 (q_A z 77) := by
  refine Met.ofW (cc := cX9_eventProperty) (maxL := 3) (ret := (some .int)) (by decide) rfl ?_
  intro p e s m args below meth c s₁ B hml hv
  obtain ⟨hargs, hP, hK⟩ := hv
  have hx := B.exec
  have hb := B.bytes
  have hr := B.returns
  have hts : ∀ w ∈ q_W, w.before args s = true := fun w hw => atoms_spec (ws := q_wc yX9_eventProperty cX9_eventProperty 3 (some .int)) B.pre w (List.mem_cons_of_mem _ hw)
  have hown : s.vm.findClass RX9 = some m.cls := findClass_of_methodNamed B.named
  have hlocks := B.notSynchronized
  have hS : va_S (q_A z 77) s.heap s.heap [] := va_S.rf
  have hA : ∀ k, k < 77 → q_A z 77 (z + k) := fun k hk => ⟨Nat.le_add_right z k, Nat.add_lt_add_left hk z⟩
  have hl := lv_entry [.ref (z + o), .int (q_I a0), .int (q_I a1)] (n := 3) (Nat.le_of_ble_eq_true rfl)
  refine W.eq (by rw [hargs, lg_entry_eq]) ?_
  generalize (lg_sl [.ref (z + o), .int (q_I a0), .int (q_I a1)] ++ List.replicate (3 - (lg_sl [.ref (z + o), .int (q_I a0), .int (q_I a1)]).length) Slot.unset).toArray = ls at hl ⊢
  have hl : lv_has ls 3 [(0, .ref (z + o)), (1, .int (q_I a0)), (2, .int (q_I a1))] := hl
  generalize hQ : MQ below _ args s 0 0 _ = Qf
  change W p l e ({ frames := 2, cells := 0, slots := 0, locals := 45 } : Room) s m args below meth c s.heap [] 0 0 Qf (F0 m 0 ls [])
  unfold f_Wo_eventProperty at h
  refine lv_iload_n hx hb dX9_eventProperty_0 rfl (lv_at hl 2 rfl) ?_
  by_cases g2 : a1 = 0
  · rw [if_pos g2] at h
    refine q_tabIn (tgt := 36) (v := 0) hx hb ra1 g2 dX9_eventProperty_1 (by decide) (by decide) rfl (by decide) ?_
    refine lv_aload_n hx hb dX9_eventProperty_36 rfl (lv_at hl 0 rfl) ?_
    refine q_getR hx hb hts hown hK hP fd_RX9_24 (q_ltW0 ho) (q_kdW_0 ho) rfl (q_rhW_0_4 ho) dX9_eventProperty_37 ?_
    refine q_getR hx hb hts hown hK hP fd_RX9_167 (q_ltW ho rfl) (q_kdW_4 ho) rfl (q_rhW_4_1 ho) dX9_eventProperty_40 ?_
    refine lv_iload_n hx hb dX9_eventProperty_43 rfl (lv_at hl 1 rfl) ?_
    refine q_iald hx hb hK hP (q_ltW ho rfl) (q_kdW_5 ho) ra0 dX9_eventProperty_44 h ?_
    clear h; intro x1 r1 h
    rw [← hQ]
    exact q_ret1 hx hb hr hlocks hP hS r1 h dX9_eventProperty_45
  · rw [if_neg g2] at h
    by_cases g4 : a1 = 1
    · rw [if_pos g4] at h
      refine q_tabIn (tgt := 46) (v := 1) hx hb ra1 g4 dX9_eventProperty_1 (by decide) (by decide) rfl (by decide) ?_
      refine lv_aload_n hx hb dX9_eventProperty_46 rfl (lv_at hl 0 rfl) ?_
      refine q_getR hx hb hts hown hK hP fd_RX9_24 (q_ltW0 ho) (q_kdW_0 ho) rfl (q_rhW_0_4 ho) dX9_eventProperty_47 ?_
      refine q_getR hx hb hts hown hK hP fd_RX9_170 (q_ltW ho rfl) (q_kdW_4 ho) rfl (q_rhW_4_2 ho) dX9_eventProperty_50 ?_
      refine lv_iload_n hx hb dX9_eventProperty_53 rfl (lv_at hl 1 rfl) ?_
      refine q_iald hx hb hK hP (q_ltW ho rfl) (q_kdW_6 ho) ra0 dX9_eventProperty_54 h ?_
      clear h; intro x3 r3 h
      rw [← hQ]
      exact q_ret1 hx hb hr hlocks hP hS r3 h dX9_eventProperty_55
    · rw [if_neg g4] at h
      by_cases g6 : a1 = 2
      · rw [if_pos g6] at h
        refine q_tabIn (tgt := 56) (v := 2) hx hb ra1 g6 dX9_eventProperty_1 (by decide) (by decide) rfl (by decide) ?_
        refine lv_aload_n hx hb dX9_eventProperty_56 rfl (lv_at hl 0 rfl) ?_
        refine q_getR hx hb hts hown hK hP fd_RX9_24 (q_ltW0 ho) (q_kdW_0 ho) rfl (q_rhW_0_4 ho) dX9_eventProperty_57 ?_
        refine q_getR hx hb hts hown hK hP fd_RX9_173 (q_ltW ho rfl) (q_kdW_4 ho) rfl (q_rhW_4_3 ho) dX9_eventProperty_60 ?_
        refine lv_iload_n hx hb dX9_eventProperty_63 rfl (lv_at hl 1 rfl) ?_
        refine q_iald hx hb hK hP (q_ltW ho rfl) (q_kdW_7 ho) ra0 dX9_eventProperty_64 h ?_
        clear h; intro x5 r5 h
        rw [← hQ]
        exact q_ret1 hx hb hr hlocks hP hS r5 h dX9_eventProperty_65
      · rw [if_neg g6] at h
        by_cases g8 : a1 = 3
        · rw [if_pos g8] at h
          refine q_tabIn (tgt := 66) (v := 3) hx hb ra1 g8 dX9_eventProperty_1 (by decide) (by decide) rfl (by decide) ?_
          refine lv_aload_n hx hb dX9_eventProperty_66 rfl (lv_at hl 0 rfl) ?_
          refine q_getR hx hb hts hown hK hP fd_RX9_24 (q_ltW0 ho) (q_kdW_0 ho) rfl (q_rhW_0_4 ho) dX9_eventProperty_67 ?_
          refine q_getR hx hb hts hown hK hP fd_RX9_174 (q_ltW ho rfl) (q_kdW_4 ho) rfl (q_rhW_4_4 ho) dX9_eventProperty_70 ?_
          refine lv_iload_n hx hb dX9_eventProperty_73 rfl (lv_at hl 1 rfl) ?_
          refine q_iald hx hb hK hP (q_ltW ho rfl) (q_kdW_8 ho) ra0 dX9_eventProperty_74 h ?_
          clear h; intro x7 r7 h
          rw [← hQ]
          exact q_ret1 hx hb hr hlocks hP hS r7 h dX9_eventProperty_75
        · rw [if_neg g8] at h
          by_cases g10 : a1 = 4
          · rw [if_pos g10] at h
            refine q_tabIn (tgt := 76) (v := 4) hx hb ra1 g10 dX9_eventProperty_1 (by decide) (by decide) rfl (by decide) ?_
            refine lv_aload_n hx hb dX9_eventProperty_76 rfl (lv_at hl 0 rfl) ?_
            refine q_getR hx hb hts hown hK hP fd_RX9_24 (q_ltW0 ho) (q_kdW_0 ho) rfl (q_rhW_0_4 ho) dX9_eventProperty_77 ?_
            refine q_getR hx hb hts hown hK hP fd_RX9_175 (q_ltW ho rfl) (q_kdW_4 ho) rfl (q_rhW_4_5 ho) dX9_eventProperty_80 ?_
            refine lv_iload_n hx hb dX9_eventProperty_83 rfl (lv_at hl 1 rfl) ?_
            refine q_iald hx hb hK hP (q_ltW ho rfl) (q_kdW_9 ho) ra0 dX9_eventProperty_84 h ?_
            clear h; intro x9 r9 h
            rw [← hQ]
            exact q_ret1 hx hb hr hlocks hP hS r9 h dX9_eventProperty_85
          · rw [if_neg g10] at h
            refine q_tabOut (tgt := 86) hx hb ra1 dX9_eventProperty_1 (by omega) (by decide) ?_
            refine lv_aload_n hx hb dX9_eventProperty_86 rfl (lv_at hl 0 rfl) ?_
            refine lv_iload_n hx hb dX9_eventProperty_87 rfl (lv_at hl 1 rfl) ?_
            obtain ⟨x12, hv11, h⟩ := q_b_some h
            refine q_callV hx hb hml hts hown hK hP hS (As := [.int (q_I a0)]) (rest := []) (st1 := [.int (q_I x12)]) cv_RX9_178 (c_Wo_partnerOf l D dA ho ra0 hv11) (q_ltW0 ho) (q_kdW_0 ho) rfl ⟨rfl, rfl, Nat.le_of_ble_eq_true rfl, Nat.le_of_ble_eq_true rfl⟩ ⟨Nat.le_refl _, Nat.le_refl _⟩ rfl hl.1 rfl (Nat.le_of_ble_eq_true rfl) rfl (fun _ g => g) dX9_eventProperty_88 ?_
            clear hP hS hv11; intro H locs r12 hP hS _
            rw [← hQ]
            exact q_ret1 hx hb hr hlocks hP hS r12 h dX9_eventProperty_91
set_option maxHeartbeats 4000000 in
set_option maxRecDepth 100000 in
theorem c_CR_event (l : Launch) (D : va_G) (dA : Nat → ClassId) {z sz : Nat} {a0 : Int} (ra0 : q_R a0) {a1 : Int} (ra1 : q_R a1) {μ : q_M} {xo : Int} (h : f_CR_event a0 a1 μ = some xo) : Met l yX10_event (q_wc yX10_event cX10_event 3 (some .int)) ({ frames := 3, cells := 0, slots := 0, locals := 67 } : Room) (va_Pc [.ref (z + 0), .int (q_I a0), .int (q_I a1)] (q_B (q_P D dA q_kdC q_rhoC 77 z sz μ) D dA)) (q_Q (some (.int (q_I xo))) (q_R xo) (q_P D dA q_kdC q_rhoC 77 z sz μ) (q_A z 77)) 0 0 (q_A z 77) := by
  refine Met.ofW (cc := cX10_event) (maxL := 3) (ret := (some .int)) (by decide) rfl ?_
  intro p e s m args below meth c s₁ B hml hv
  obtain ⟨hargs, hP, hK⟩ := hv
  have hx := B.exec
  have hb := B.bytes
  have hr := B.returns
  have hts : ∀ w ∈ q_W, w.before args s = true := fun w hw => atoms_spec (ws := q_wc yX10_event cX10_event 3 (some .int)) B.pre w (List.mem_cons_of_mem _ hw)
  have hown : s.vm.findClass RX10 = some m.cls := findClass_of_methodNamed B.named
  have hlocks := B.notSynchronized
  have hS : va_S (q_A z 77) s.heap s.heap [] := va_S.rf
  have hA : ∀ k, k < 77 → q_A z 77 (z + k) := fun k hk => ⟨Nat.le_add_right z k, Nat.add_lt_add_left hk z⟩
  have hl := lv_entry [.ref (z + 0), .int (q_I a0), .int (q_I a1)] (n := 3) (Nat.le_of_ble_eq_true rfl)
  refine W.eq (by rw [hargs, lg_entry_eq]) ?_
  generalize (lg_sl [.ref (z + 0), .int (q_I a0), .int (q_I a1)] ++ List.replicate (3 - (lg_sl [.ref (z + 0), .int (q_I a0), .int (q_I a1)]).length) Slot.unset).toArray = ls at hl ⊢
  have hl : lv_has ls 3 [(0, .ref (z + 0)), (1, .int (q_I a0)), (2, .int (q_I a1))] := hl
  generalize hQ : MQ below _ args s 0 0 _ = Qf
  change W p l e ({ frames := 3, cells := 0, slots := 0, locals := 67 } : Room) s m args below meth c s.heap [] 0 0 Qf (F0 m 0 ls [])
  unfold f_CR_event at h
  refine lv_aload_n hx hb dX10_event_0 rfl (lv_at hl 0 rfl) ?_
  refine lv_iload_n hx hb dX10_event_1 rfl (lv_at hl 1 rfl) ?_
  obtain ⟨x2, hv1, h⟩ := q_b_some h
  refine q_callV hx hb hml hts hown hK hP hS (As := [.int (q_I a0)]) (rest := []) (st1 := [.int (q_I x2)]) cv_RX10_123 (c_CR_isEvent l D dA ra0 hv1) (Nat.le_of_ble_eq_true rfl) q_kdC_0 rfl ⟨rfl, rfl, Nat.le_of_ble_eq_true rfl, Nat.le_of_ble_eq_true rfl⟩ ⟨Nat.le_refl _, Nat.le_refl _⟩ rfl hl.1 rfl (Nat.le_of_ble_eq_true rfl) rfl (fun _ g => g) dX10_event_2 ?_
  clear hP hS hv1; intro H locs r2 hP hS _
  refine q_zne hx hb r2 (tgt := 11) dX10_event_5 (by decide) h ?_ ?_
  · clear h; intro g8 h
    refine lv_ldc hx hb hown (hts _ ck_RX10_74) dX10_event_8 ?_
    rw [← hQ]
    exact q_ret1 hx hb hr hlocks hP hS (q_r (-100001) rfl) h dX10_event_10
  · clear h; intro g8 h
    refine lv_iload_n hx hb dX10_event_11 rfl (lv_at hl 2 rfl) ?_
    refine lv_iconst (v := q_I 0) hx hb dX10_event_12 rfl ?_
    refine lv_iconst (v := q_I 5) hx hb dX10_event_13 rfl ?_
    obtain ⟨x4, hv3, h⟩ := q_b_some h
    refine q_callS hx hb hml hts hown hK hP hS (As := [.int (q_I a1), .int (q_I 0), .int (q_I 5)]) (rest := []) (st1 := [.int (q_I x4)]) cs_RX10_58 (c_CR_within l D dA ra1 (q_r 0 rfl) (q_r 5 rfl) hv3) ⟨rfl, rfl, Nat.le_of_ble_eq_true rfl, Nat.le_of_ble_eq_true rfl⟩ ⟨Nat.le_refl _, Nat.le_refl _⟩ rfl hl.1 rfl (Nat.le_of_ble_eq_true rfl) rfl (fun _ g => g) dX10_event_14 ?_
    clear hP hS hv3; intro H locs r4 hP hS _
    refine q_zne hx hb r4 (tgt := 23) dX10_event_17 (by decide) h ?_ ?_
    · clear h; intro g7 h
      refine lv_ldc hx hb hown (hts _ ck_RX10_62) dX10_event_20 ?_
      rw [← hQ]
      exact q_ret1 hx hb hr hlocks hP hS (q_r (-100002) rfl) h dX10_event_22
    · clear h; intro g7 h
      refine lv_aload_n hx hb dX10_event_23 rfl (lv_at hl 0 rfl) ?_
      refine q_getR hx hb hts hown hK hP fd_RX10_10 (Nat.le_of_ble_eq_true rfl) q_kdC_0 rfl q_rhC_0_0 dX10_event_24 ?_
      refine lv_iload_n hx hb dX10_event_27 rfl (lv_at hl 1 rfl) ?_
      refine lv_iload_n hx hb dX10_event_28 rfl (lv_at hl 2 rfl) ?_
      obtain ⟨x6, hv5, h⟩ := q_b_some h
      refine q_callV hx hb hml hts hown hK hP hS (As := [.int (q_I a0), .int (q_I a1)]) (rest := []) (st1 := [.int (q_I x6)]) cv_RX10_126 (c_Wo_eventProperty l D dA (Or.inl rfl) ra0 ra1 hv5) (Nat.le_of_ble_eq_true rfl) q_kdC_1 rfl ⟨rfl, rfl, Nat.le_of_ble_eq_true rfl, Nat.le_of_ble_eq_true rfl⟩ ⟨Nat.le_refl _, Nat.le_refl _⟩ rfl hl.1 rfl (Nat.le_of_ble_eq_true rfl) rfl (fun _ g => g) dX10_event_29 ?_
      clear hP hS hv5; intro H locs r6 hP hS _
      rw [← hQ]
      exact q_ret1 hx hb hr hlocks hP hS r6 h dX10_event_32
set_option maxHeartbeats 4000000 in
set_option maxRecDepth 100000 in
theorem c_CR_clock (l : Launch) (D : va_G) (dA : Nat → ClassId) {z sz : Nat} {a0 : Int} (ra0 : q_R a0) {a1 : Int} (ra1 : q_R a1) {μ : q_M} {xo : Int} (h : f_CR_clock a0 a1 μ = some xo) : Met l yX10_clock (q_wc yX10_clock cX10_clock 3 (some .int)) ({ frames := 2, cells := 0, slots := 0, locals := 43 } : Room) (va_Pc [.ref (z + 0), .int (q_I a0), .int (q_I a1)] (q_B (q_P D dA q_kdC q_rhoC 77 z sz μ) D dA)) (q_Q (some (.int (q_I xo))) (q_R xo) (q_P D dA q_kdC q_rhoC 77 z sz μ) (q_A z 77)) 0 0 (q_A z 77) := by
  refine Met.ofW (cc := cX10_clock) (maxL := 3) (ret := (some .int)) (by decide) rfl ?_
  intro p e s m args below meth c s₁ B hml hv
  obtain ⟨hargs, hP, hK⟩ := hv
  have hx := B.exec
  have hb := B.bytes
  have hr := B.returns
  have hts : ∀ w ∈ q_W, w.before args s = true := fun w hw => atoms_spec (ws := q_wc yX10_clock cX10_clock 3 (some .int)) B.pre w (List.mem_cons_of_mem _ hw)
  have hown : s.vm.findClass RX10 = some m.cls := findClass_of_methodNamed B.named
  have hlocks := B.notSynchronized
  have hS : va_S (q_A z 77) s.heap s.heap [] := va_S.rf
  have hA : ∀ k, k < 77 → q_A z 77 (z + k) := fun k hk => ⟨Nat.le_add_right z k, Nat.add_lt_add_left hk z⟩
  have hl := lv_entry [.ref (z + 0), .int (q_I a0), .int (q_I a1)] (n := 3) (Nat.le_of_ble_eq_true rfl)
  refine W.eq (by rw [hargs, lg_entry_eq]) ?_
  generalize (lg_sl [.ref (z + 0), .int (q_I a0), .int (q_I a1)] ++ List.replicate (3 - (lg_sl [.ref (z + 0), .int (q_I a0), .int (q_I a1)]).length) Slot.unset).toArray = ls at hl ⊢
  have hl : lv_has ls 3 [(0, .ref (z + 0)), (1, .int (q_I a0)), (2, .int (q_I a1))] := hl
  generalize hQ : MQ below _ args s 0 0 _ = Qf
  change W p l e ({ frames := 2, cells := 0, slots := 0, locals := 43 } : Room) s m args below meth c s.heap [] 0 0 Qf (F0 m 0 ls [])
  unfold f_CR_clock at h
  refine lv_aload_n hx hb dX10_clock_0 rfl (lv_at hl 0 rfl) ?_
  refine lv_iload_n hx hb dX10_clock_1 rfl (lv_at hl 1 rfl) ?_
  obtain ⟨x2, hv1, h⟩ := q_b_some h
  refine q_callV hx hb hml hts hown hK hP hS (As := [.int (q_I a0)]) (rest := []) (st1 := [.int (q_I x2)]) cv_RX10_123 (c_CR_isEvent l D dA ra0 hv1) (Nat.le_of_ble_eq_true rfl) q_kdC_0 rfl ⟨rfl, rfl, Nat.le_of_ble_eq_true rfl, Nat.le_of_ble_eq_true rfl⟩ ⟨Nat.le_refl _, Nat.le_refl _⟩ rfl hl.1 rfl (Nat.le_of_ble_eq_true rfl) rfl (fun _ g => g) dX10_clock_2 ?_
  clear hP hS hv1; intro H locs r2 hP hS _
  refine q_jn_in h (fun J => ∀ (H : Heap) (locs : List Loc) (ls : Array Slot), q_P D dA q_kdC q_rhoC 77 z sz μ H → va_S (q_A z 77) s.heap H locs → lv_has ls 3 [] → J = some xo → W p l e ({ frames := 2, cells := 0, slots := 0, locals := 43 } : Room) s m args below meth c H locs 0 0 Qf (F0 m 16 ls [])) ?_ ?_
  · clear h hl hP hS; intro  H locs ls  hP hS hl h
    refine lv_ldc hx hb hown (hts _ ck_RX10_74) dX10_clock_16 ?_
    rw [← hQ]
    exact q_ret1 hx hb hr hlocks hP hS (q_r (-100001) rfl) h dX10_clock_18
  · clear h; intro j16 hj16 h
    refine q_zeq hx hb r2 (tgt := 16) dX10_clock_5 (by decide) h ?_ ?_
    · clear h; intro g9 h
      exact hj16  _ _ _ hP hS (lv_sub hl [] rfl) h
    · clear h; intro g9 h
      refine lv_aload_n hx hb dX10_clock_8 rfl (lv_at hl 0 rfl) ?_
      refine lv_iload_n hx hb dX10_clock_9 rfl (lv_at hl 2 rfl) ?_
      obtain ⟨x4, hv3, h⟩ := q_b_some h
      refine q_callV hx hb hml hts hown hK hP hS (As := [.int (q_I a1)]) (rest := []) (st1 := [.int (q_I x4)]) cv_RX10_67 (c_CR_isProcess l D dA ra1 hv3) (Nat.le_of_ble_eq_true rfl) q_kdC_0 rfl ⟨rfl, rfl, Nat.le_of_ble_eq_true rfl, Nat.le_of_ble_eq_true rfl⟩ ⟨Nat.le_refl _, Nat.le_refl _⟩ rfl hl.1 rfl (Nat.le_of_ble_eq_true rfl) rfl (fun _ g => g) dX10_clock_10 ?_
      clear hP hS hv3; intro H locs r4 hP hS _
      refine q_zne hx hb r4 (tgt := 19) dX10_clock_13 (by decide) h ?_ ?_
      · clear h; intro g8 h
        exact hj16  _ _ _ hP hS (lv_sub hl [] rfl) h
      · clear h; intro g8 h
        refine lv_aload_n hx hb dX10_clock_19 rfl (lv_at hl 0 rfl) ?_
        refine q_getR hx hb hts hown hK hP fd_RX10_10 (Nat.le_of_ble_eq_true rfl) q_kdC_0 rfl q_rhC_0_0 dX10_clock_20 ?_
        refine q_getR hx hb hts hown hK hP fd_RX10_75 (Nat.le_of_ble_eq_true rfl) q_kdC_1 rfl q_rhC_1_4 dX10_clock_23 ?_
        refine q_getR hx hb hts hown hK hP fd_RX10_129 (Nat.le_of_ble_eq_true rfl) q_kdC_5 rfl q_rhC_5_8 dX10_clock_26 ?_
        refine lv_iload_n hx hb dX10_clock_29 rfl (lv_at hl 1 rfl) ?_
        refine lv_iconst (v := q_I 5) hx hb dX10_clock_30 rfl ?_
        refine q_imul hx hb dX10_clock_31 h ?_
        clear h; intro x5 r5 h
        refine lv_iload_n hx hb dX10_clock_32 rfl (lv_at hl 2 rfl) ?_
        refine q_iadd hx hb dX10_clock_33 h ?_
        clear h; intro x6 r6 h
        refine q_iald hx hb hK hP (Nat.le_of_ble_eq_true rfl) q_kdC_13 r6 dX10_clock_34 h ?_
        clear h; intro x7 r7 h
        rw [← hQ]
        exact q_ret1 hx hb hr hlocks hP hS r7 h dX10_clock_35
set_option maxHeartbeats 4000000 in
set_option maxRecDepth 100000 in
theorem c_Hi_happensBefore (l : Launch) (D : va_G) (dA : Nat → ClassId) {z sz : Nat} {o : Nat} (ho : o = 5 ∨ o = 28) {a0 : Int} (ra0 : q_R a0) {a1 : Int} (ra1 : q_R a1) {μ : q_M} {xo : Int} (h : f_Hi_happensBefore o a0 a1 μ = some xo) : Met l yX3_happensBefore (q_wc yX3_happensBefore cX3_happensBefore 3 (some .boolean)) ({ frames := 0, cells := 0, slots := 0, locals := 0 } : Room) (va_Pc [.ref (z + o), .int (q_I a0), .int (q_I a1)] (q_B (q_P D dA q_kdC q_rhoC 77 z sz μ) D dA)) (q_Q (some (.int (q_I xo))) (q_R xo) (q_P D dA q_kdC q_rhoC 77 z sz μ) (q_A z 77)) 0 0 (q_A z 77) := by
  refine Met.ofW (cc := cX3_happensBefore) (maxL := 3) (ret := (some .boolean)) (by decide) rfl ?_
  intro p e s m args below meth c s₁ B hml hv
  obtain ⟨hargs, hP, hK⟩ := hv
  have hx := B.exec
  have hb := B.bytes
  have hr := B.returns
  have hts : ∀ w ∈ q_W, w.before args s = true := fun w hw => atoms_spec (ws := q_wc yX3_happensBefore cX3_happensBefore 3 (some .boolean)) B.pre w (List.mem_cons_of_mem _ hw)
  have hown : s.vm.findClass RX3 = some m.cls := findClass_of_methodNamed B.named
  have hlocks := B.notSynchronized
  have hS : va_S (q_A z 77) s.heap s.heap [] := va_S.rf
  have hA : ∀ k, k < 77 → q_A z 77 (z + k) := fun k hk => ⟨Nat.le_add_right z k, Nat.add_lt_add_left hk z⟩
  have hl := lv_entry [.ref (z + o), .int (q_I a0), .int (q_I a1)] (n := 3) (Nat.le_of_ble_eq_true rfl)
  refine W.eq (by rw [hargs, lg_entry_eq]) ?_
  generalize (lg_sl [.ref (z + o), .int (q_I a0), .int (q_I a1)] ++ List.replicate (3 - (lg_sl [.ref (z + o), .int (q_I a0), .int (q_I a1)]).length) Slot.unset).toArray = ls at hl ⊢
  have hl : lv_has ls 3 [(0, .ref (z + o)), (1, .int (q_I a0)), (2, .int (q_I a1))] := hl
  generalize hQ : MQ below _ args s 0 0 _ = Qf
  change W p l e ({ frames := 0, cells := 0, slots := 0, locals := 0 } : Room) s m args below meth c s.heap [] 0 0 Qf (F0 m 0 ls [])
  unfold f_Hi_happensBefore at h
  refine lv_iload_n hx hb dX3_happensBefore_0 rfl (lv_at hl 1 rfl) ?_
  refine lv_iload_n hx hb dX3_happensBefore_1 rfl (lv_at hl 2 rfl) ?_
  refine q_jn_in h (fun J => ∀ (x1 : Int) (H : Heap) (locs : List Loc) (ls : Array Slot), q_R x1 → q_P D dA q_kdC q_rhoC 77 z sz μ H → va_S (q_A z 77) s.heap H locs → lv_has ls 3 [] → J x1 = some xo → W p l e ({ frames := 0, cells := 0, slots := 0, locals := 0 } : Room) s m args below meth c H locs 0 0 Qf (F0 m 34 ls [.int (q_I x1)])) ?_ ?_
  · clear h hl hP hS; intro x1 H locs ls r1 hP hS hl h
    rw [← hQ]
    obtain ⟨hz, h⟩ := q_rz_some h
    exact q_retz1 hx hb hr hlocks hP hS hz h dX3_happensBefore_34
  · clear h; intro j34 hj34 h
    refine q_jn_in h (fun J => ∀ (H : Heap) (locs : List Loc) (ls : Array Slot), q_P D dA q_kdC q_rhoC 77 z sz μ H → va_S (q_A z 77) s.heap H locs → lv_has ls 3 [] → J = some xo → W p l e ({ frames := 0, cells := 0, slots := 0, locals := 0 } : Room) s m args below meth c H locs 0 0 Qf (F0 m 33 ls [])) ?_ ?_
    · clear h hl hP hS; intro  H locs ls  hP hS hl h
      refine lv_iconst (v := q_I 0) hx hb dX3_happensBefore_33 rfl ?_
      exact hj34 0 _ _ _ (q_r 0 rfl) hP hS (lv_sub hl [] rfl) h
    · clear h; intro j33 hj33 h
      refine q_ceq hx hb ra0 ra1 (tgt := 33) dX3_happensBefore_2 (by decide) h ?_ ?_
      · clear h; intro g8 h
        exact hj33  _ _ _ hP hS (lv_sub hl [] rfl) h
      · clear h; intro g8 h
        refine lv_aload_n hx hb dX3_happensBefore_5 rfl (lv_at hl 0 rfl) ?_
        refine q_getR hx hb hts hown hK hP fd_RX3_33 (q_ltH0 ho) (q_kdH_0 ho) rfl (q_rhH_0_8 ho) dX3_happensBefore_6 ?_
        refine lv_iload_n hx hb dX3_happensBefore_9 rfl (lv_at hl 2 rfl) ?_
        refine lv_iconst (v := q_I 5) hx hb dX3_happensBefore_10 rfl ?_
        refine q_imul hx hb dX3_happensBefore_11 h ?_
        clear h; intro x2 r2 h
        refine lv_aload_n hx hb dX3_happensBefore_12 rfl (lv_at hl 0 rfl) ?_
        refine q_getR hx hb hts hown hK hP fd_RX3_9 (q_ltH0 ho) (q_kdH_0 ho) rfl (q_rhH_0_1 ho) dX3_happensBefore_13 ?_
        refine lv_iload_n hx hb dX3_happensBefore_16 rfl (lv_at hl 1 rfl) ?_
        refine q_iald hx hb hK hP (q_ltH ho rfl) (q_kdH_1 ho) ra0 dX3_happensBefore_17 h ?_
        clear h; intro x3 r3 h
        refine q_iadd hx hb dX3_happensBefore_18 h ?_
        clear h; intro x4 r4 h
        refine q_iald hx hb hK hP (q_ltH ho rfl) (q_kdH_8 ho) r4 dX3_happensBefore_19 h ?_
        clear h; intro x5 r5 h
        refine lv_aload_n hx hb dX3_happensBefore_20 rfl (lv_at hl 0 rfl) ?_
        refine q_getR hx hb hts hown hK hP fd_RX3_30 (q_ltH0 ho) (q_kdH_0 ho) rfl (q_rhH_0_7 ho) dX3_happensBefore_21 ?_
        refine lv_iload_n hx hb dX3_happensBefore_24 rfl (lv_at hl 1 rfl) ?_
        refine q_iald hx hb hK hP (q_ltH ho rfl) (q_kdH_7 ho) ra0 dX3_happensBefore_25 h ?_
        clear h; intro x6 r6 h
        refine q_cle hx hb r5 r6 (tgt := 33) dX3_happensBefore_26 (by decide) h ?_ ?_
        · clear h; intro g7 h
          exact hj33  _ _ _ hP hS (lv_sub hl [] rfl) h
        · clear h; intro g7 h
          refine lv_iconst (v := q_I 1) hx hb dX3_happensBefore_29 rfl ?_
          refine lv_goto (tgt := 34) hx hb dX3_happensBefore_30 (by decide) ?_
          exact hj34 1 _ _ _ (q_r 1 rfl) hP hS (lv_sub hl [] rfl) h
set_option maxHeartbeats 4000000 in
set_option maxRecDepth 100000 in
theorem c_CR_order (l : Launch) (D : va_G) (dA : Nat → ClassId) {z sz : Nat} {a0 : Int} (ra0 : q_R a0) {a1 : Int} (ra1 : q_R a1) {μ : q_M} {xo : Int} (h : f_CR_order a0 a1 μ = some xo) : Met l yX10_order (q_wc yX10_order cX10_order 3 (some .int)) ({ frames := 2, cells := 0, slots := 0, locals := 43 } : Room) (va_Pc [.ref (z + 0), .int (q_I a0), .int (q_I a1)] (q_B (q_P D dA q_kdC q_rhoC 77 z sz μ) D dA)) (q_Q (some (.int (q_I xo))) (q_R xo) (q_P D dA q_kdC q_rhoC 77 z sz μ) (q_A z 77)) 0 0 (q_A z 77) := by
  refine Met.ofW (cc := cX10_order) (maxL := 3) (ret := (some .int)) (by decide) rfl ?_
  intro p e s m args below meth c s₁ B hml hv
  obtain ⟨hargs, hP, hK⟩ := hv
  have hx := B.exec
  have hb := B.bytes
  have hr := B.returns
  have hts : ∀ w ∈ q_W, w.before args s = true := fun w hw => atoms_spec (ws := q_wc yX10_order cX10_order 3 (some .int)) B.pre w (List.mem_cons_of_mem _ hw)
  have hown : s.vm.findClass RX10 = some m.cls := findClass_of_methodNamed B.named
  have hlocks := B.notSynchronized
  have hS : va_S (q_A z 77) s.heap s.heap [] := va_S.rf
  have hA : ∀ k, k < 77 → q_A z 77 (z + k) := fun k hk => ⟨Nat.le_add_right z k, Nat.add_lt_add_left hk z⟩
  have hl := lv_entry [.ref (z + 0), .int (q_I a0), .int (q_I a1)] (n := 3) (Nat.le_of_ble_eq_true rfl)
  refine W.eq (by rw [hargs, lg_entry_eq]) ?_
  generalize (lg_sl [.ref (z + 0), .int (q_I a0), .int (q_I a1)] ++ List.replicate (3 - (lg_sl [.ref (z + 0), .int (q_I a0), .int (q_I a1)]).length) Slot.unset).toArray = ls at hl ⊢
  have hl : lv_has ls 3 [(0, .ref (z + 0)), (1, .int (q_I a0)), (2, .int (q_I a1))] := hl
  generalize hQ : MQ below _ args s 0 0 _ = Qf
  change W p l e ({ frames := 2, cells := 0, slots := 0, locals := 43 } : Room) s m args below meth c s.heap [] 0 0 Qf (F0 m 0 ls [])
  unfold f_CR_order at h
  refine lv_aload_n hx hb dX10_order_0 rfl (lv_at hl 0 rfl) ?_
  refine lv_iload_n hx hb dX10_order_1 rfl (lv_at hl 1 rfl) ?_
  obtain ⟨x2, hv1, h⟩ := q_b_some h
  refine q_callV hx hb hml hts hown hK hP hS (As := [.int (q_I a0)]) (rest := []) (st1 := [.int (q_I x2)]) cv_RX10_123 (c_CR_isEvent l D dA ra0 hv1) (Nat.le_of_ble_eq_true rfl) q_kdC_0 rfl ⟨rfl, rfl, Nat.le_of_ble_eq_true rfl, Nat.le_of_ble_eq_true rfl⟩ ⟨Nat.le_refl _, Nat.le_refl _⟩ rfl hl.1 rfl (Nat.le_of_ble_eq_true rfl) rfl (fun _ g => g) dX10_order_2 ?_
  clear hP hS hv1; intro H locs r2 hP hS _
  refine q_jn_in h (fun J => ∀ (H : Heap) (locs : List Loc) (ls : Array Slot), q_P D dA q_kdC q_rhoC 77 z sz μ H → va_S (q_A z 77) s.heap H locs → lv_has ls 3 [] → J = some xo → W p l e ({ frames := 2, cells := 0, slots := 0, locals := 43 } : Room) s m args below meth c H locs 0 0 Qf (F0 m 16 ls [])) ?_ ?_
  · clear h hl hP hS; intro  H locs ls  hP hS hl h
    refine lv_ldc hx hb hown (hts _ ck_RX10_74) dX10_order_16 ?_
    rw [← hQ]
    exact q_ret1 hx hb hr hlocks hP hS (q_r (-100001) rfl) h dX10_order_18
  · clear h; intro j16 hj16 h
    refine q_zeq hx hb r2 (tgt := 16) dX10_order_5 (by decide) h ?_ ?_
    · clear h; intro g13 h
      exact hj16  _ _ _ hP hS (lv_sub hl [] rfl) h
    · clear h; intro g13 h
      refine lv_aload_n hx hb dX10_order_8 rfl (lv_at hl 0 rfl) ?_
      refine lv_iload_n hx hb dX10_order_9 rfl (lv_at hl 2 rfl) ?_
      obtain ⟨x4, hv3, h⟩ := q_b_some h
      refine q_callV hx hb hml hts hown hK hP hS (As := [.int (q_I a1)]) (rest := []) (st1 := [.int (q_I x4)]) cv_RX10_123 (c_CR_isEvent l D dA ra1 hv3) (Nat.le_of_ble_eq_true rfl) q_kdC_0 rfl ⟨rfl, rfl, Nat.le_of_ble_eq_true rfl, Nat.le_of_ble_eq_true rfl⟩ ⟨Nat.le_refl _, Nat.le_refl _⟩ rfl hl.1 rfl (Nat.le_of_ble_eq_true rfl) rfl (fun _ g => g) dX10_order_10 ?_
      clear hP hS hv3; intro H locs r4 hP hS _
      refine q_zne hx hb r4 (tgt := 19) dX10_order_13 (by decide) h ?_ ?_
      · clear h; intro g12 h
        exact hj16  _ _ _ hP hS (lv_sub hl [] rfl) h
      · clear h; intro g12 h
        refine lv_aload_n hx hb dX10_order_19 rfl (lv_at hl 0 rfl) ?_
        refine q_getR hx hb hts hown hK hP fd_RX10_10 (Nat.le_of_ble_eq_true rfl) q_kdC_0 rfl q_rhC_0_0 dX10_order_20 ?_
        refine q_getR hx hb hts hown hK hP fd_RX10_75 (Nat.le_of_ble_eq_true rfl) q_kdC_1 rfl q_rhC_1_4 dX10_order_23 ?_
        refine lv_iload_n hx hb dX10_order_26 rfl (lv_at hl 1 rfl) ?_
        refine lv_iload_n hx hb dX10_order_27 rfl (lv_at hl 2 rfl) ?_
        obtain ⟨x6, hv5, h⟩ := q_b_some h
        refine q_callV hx hb hml hts hown hK hP hS (As := [.int (q_I a0), .int (q_I a1)]) (rest := []) (st1 := [.int (q_I x6)]) cv_RX10_132 (c_Hi_happensBefore l D dA (Or.inl rfl) ra0 ra1 hv5) (Nat.le_of_ble_eq_true rfl) q_kdC_5 rfl ⟨rfl, rfl, Nat.le_of_ble_eq_true rfl, Nat.le_of_ble_eq_true rfl⟩ ⟨Nat.le_refl _, Nat.le_refl _⟩ rfl hl.1 rfl (Nat.le_of_ble_eq_true rfl) rfl (fun _ g => g) dX10_order_28 ?_
        clear hP hS hv5; intro H locs r6 hP hS _
        refine q_zeq hx hb r6 (tgt := 36) dX10_order_31 (by decide) h ?_ ?_
        · clear h; intro g11 h
          refine lv_aload_n hx hb dX10_order_36 rfl (lv_at hl 0 rfl) ?_
          refine q_getR hx hb hts hown hK hP fd_RX10_10 (Nat.le_of_ble_eq_true rfl) q_kdC_0 rfl q_rhC_0_0 dX10_order_37 ?_
          refine q_getR hx hb hts hown hK hP fd_RX10_75 (Nat.le_of_ble_eq_true rfl) q_kdC_1 rfl q_rhC_1_4 dX10_order_40 ?_
          refine lv_iload_n hx hb dX10_order_43 rfl (lv_at hl 2 rfl) ?_
          refine lv_iload_n hx hb dX10_order_44 rfl (lv_at hl 1 rfl) ?_
          obtain ⟨x8, hv7, h⟩ := q_b_some h
          refine q_callV hx hb hml hts hown hK hP hS (As := [.int (q_I a1), .int (q_I a0)]) (rest := []) (st1 := [.int (q_I x8)]) cv_RX10_132 (c_Hi_happensBefore l D dA (Or.inl rfl) ra1 ra0 hv7) (Nat.le_of_ble_eq_true rfl) q_kdC_5 rfl ⟨rfl, rfl, Nat.le_of_ble_eq_true rfl, Nat.le_of_ble_eq_true rfl⟩ ⟨Nat.le_refl _, Nat.le_refl _⟩ rfl hl.1 rfl (Nat.le_of_ble_eq_true rfl) rfl (fun _ g => g) dX10_order_45 ?_
          clear hP hS hv7; intro H locs r8 hP hS _
          refine q_jn_in h (fun J => ∀ (x9 : Int) (H : Heap) (locs : List Loc) (ls : Array Slot), q_R x9 → q_P D dA q_kdC q_rhoC 77 z sz μ H → va_S (q_A z 77) s.heap H locs → lv_has ls 3 [] → J x9 = some xo → W p l e ({ frames := 2, cells := 0, slots := 0, locals := 43 } : Room) s m args below meth c H locs 0 0 Qf (F0 m 56 ls [.int (q_I x9)])) ?_ ?_
          · clear h hl hP hS; intro x9 H locs ls r9 hP hS hl h
            rw [← hQ]
            exact q_ret1 hx hb hr hlocks hP hS r9 h dX10_order_56
          · clear h; intro j56 hj56 h
            refine q_zeq hx hb r8 (tgt := 55) dX10_order_48 (by decide) h ?_ ?_
            · clear h; intro g10 h
              refine lv_iconst (v := q_I 0) hx hb dX10_order_55 rfl ?_
              exact hj56 0 _ _ _ (q_r 0 rfl) hP hS (lv_sub hl [] rfl) h
            · clear h; intro g10 h
              refine lv_iconst (v := q_I (-1)) hx hb dX10_order_51 rfl ?_
              refine lv_goto (tgt := 56) hx hb dX10_order_52 (by decide) ?_
              exact hj56 ((-1)) _ _ _ (q_r (-1) rfl) hP hS (lv_sub hl [] rfl) h
        · clear h; intro g11 h
          refine lv_iconst (v := q_I 1) hx hb dX10_order_34 rfl ?_
          rw [← hQ]
          exact q_ret1 hx hb hr hlocks hP hS (q_r 1 rfl) h dX10_order_35
