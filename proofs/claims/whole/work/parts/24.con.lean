set_option maxHeartbeats 4000000 in
set_option maxRecDepth 100000 in
theorem c_M_sendNow (l : Launch) (D : va_G) (dA : Nat → ClassId) {z sz : Nat} {N : Nat} {a0 : Int} (ra0 : q_R a0) {a1 : Int} (ra1 : q_R a1) {a2 : Int} (ra2 : q_R a2) {a3 : Int} (ra3 : q_R a3) {μ : q_M} {xo : Int} {μo : q_M} (h : f_M_sendNow N a0 a1 a2 a3 μ = some (xo, μo)) : Met l yX11_sendNow (q_wc yX11_sendNow cX11_sendNow 5 (some .int)) ({ frames := 3, cells := 0, slots := 0, locals := 70 } : Room) (va_Pc [.ref (z + 0), .int (q_I a0), .int (q_I a1), .int (q_I a2), .int (q_I a3)] (q_B (q_P D dA q_kdM q_rhoM 22 z sz μ) D dA)) (q_Q (some (.int (q_I xo))) (q_R xo) (q_P D dA q_kdM q_rhoM 22 z sz μo) (q_A z 22)) 0 0 (q_A z 22) := by
  refine Met.ofW (cc := cX11_sendNow) (maxL := 5) (ret := (some .int)) (by decide) rfl ?_
  intro p e s m args below meth c s₁ B hml hv
  obtain ⟨hargs, hP, hK⟩ := hv
  have hx := B.exec
  have hb := B.bytes
  have hr := B.returns
  have hts : ∀ w ∈ q_W, w.before args s = true := fun w hw => atoms_spec (ws := q_wc yX11_sendNow cX11_sendNow 5 (some .int)) B.pre w (List.mem_cons_of_mem _ hw)
  have hown : s.vm.findClass RX11 = some m.cls := findClass_of_methodNamed B.named
  have hlocks := B.notSynchronized
  have hS : va_S (q_A z 22) s.heap s.heap [] := va_S.rf
  have hA : ∀ k, k < 22 → q_A z 22 (z + k) := fun k hk => ⟨Nat.le_add_right z k, Nat.add_lt_add_left hk z⟩
  have hl := lv_entry [.ref (z + 0), .int (q_I a0), .int (q_I a1), .int (q_I a2), .int (q_I a3)] (n := 5) (Nat.le_of_ble_eq_true rfl)
  refine W.eq (by rw [hargs, lg_entry_eq]) ?_
  generalize (lg_sl [.ref (z + 0), .int (q_I a0), .int (q_I a1), .int (q_I a2), .int (q_I a3)] ++ List.replicate (5 - (lg_sl [.ref (z + 0), .int (q_I a0), .int (q_I a1), .int (q_I a2), .int (q_I a3)]).length) Slot.unset).toArray = ls at hl ⊢
  have hl : lv_has ls 5 [(0, .ref (z + 0)), (1, .int (q_I a0)), (2, .int (q_I a1)), (3, .int (q_I a2)), (4, .int (q_I a3))] := hl
  generalize hQ : MQ below _ args s 0 0 _ = Qf
  change W p l e ({ frames := 3, cells := 0, slots := 0, locals := 70 } : Room) s m args below meth c s.heap [] 0 0 Qf (F0 m 0 ls [])
  unfold f_M_sendNow at h
  refine lv_aload_n hx hb dX11_sendNow_0 rfl (lv_at hl 0 rfl) ?_
  refine q_getR hx hb hts hown hK hP fd_RX11_7 (Nat.le_of_ble_eq_true rfl) q_kdM_0 rfl q_rhM_0_1 dX11_sendNow_1 ?_
  refine lv_iconst (v := q_I 0) hx hb dX11_sendNow_4 rfl ?_
  refine lv_iconst (v := q_I 2) hx hb dX11_sendNow_5 rfl ?_
  refine lv_iload_n hx hb dX11_sendNow_6 rfl (lv_at hl 1 rfl) ?_
  refine q_imul hx hb dX11_sendNow_7 h ?_
  clear h; intro x1 r1 h
  refine q_iadd hx hb dX11_sendNow_8 h ?_
  clear h; intro x2 r2 h
  refine lv_iload_n hx hb dX11_sendNow_9 rfl (lv_at hl 3 rfl) ?_
  refine q_iadd hx hb dX11_sendNow_10 h ?_
  clear h; intro x3 r3 h
  refine q_iald hx hb hK hP (Nat.le_of_ble_eq_true rfl) q_kdM_1 r3 dX11_sendNow_11 h ?_
  clear h; intro x4 r4 h
  refine lv_iload hx hb dX11_sendNow_12 (lv_at hl 4 rfl) ?_
  refine q_cge hx hb r4 ra3 (tgt := 20) dX11_sendNow_14 (by decide) h ?_ ?_
  · clear h; intro g24 h
    refine lv_aload_n hx hb dX11_sendNow_20 rfl (lv_at hl 0 rfl) ?_
    refine q_getR hx hb hts hown hK hP fd_RX11_7 (Nat.le_of_ble_eq_true rfl) q_kdM_0 rfl q_rhM_0_1 dX11_sendNow_21 ?_
    refine lv_bipush (v := q_I 36) hx hb dX11_sendNow_24 (by decide) ?_
    refine q_iald hx hb hK hP (Nat.le_of_ble_eq_true rfl) q_kdM_1 (q_r 36 rfl) dX11_sendNow_26 h ?_
    clear h; intro x5 r5 h
    refine lv_bipush (v := q_I 100) hx hb dX11_sendNow_27 (by decide) ?_
    refine q_jn_in h (fun J => ∀ (H : Heap) (locs : List Loc) (ls : Array Slot), q_P D dA q_kdM q_rhoM 22 z sz μ H → va_S (q_A z 22) s.heap H locs → lv_has ls 5 [] → J = some (xo, μo) → W p l e ({ frames := 3, cells := 0, slots := 0, locals := 70 } : Room) s m args below meth c H locs 0 0 Qf (F0 m 43 ls [])) ?_ ?_
    · clear h hl hP hS; intro  H locs ls  hP hS hl h
      refine lv_ldc hx hb hown (hts _ ck_RX11_126) dX11_sendNow_43 ?_
      rw [← hQ]
      exact q_ret2 hx hb hr hlocks hP hS (q_r (-100005) rfl) h dX11_sendNow_45
    · clear h; intro j43 hj43 h
      refine q_ceq hx hb r5 (q_r 100 rfl) (tgt := 43) dX11_sendNow_29 (by decide) h ?_ ?_
      · clear h; intro g23 h
        exact hj43  _ _ _ hP hS (lv_sub hl [] rfl) h
      · clear h; intro g23 h
        refine lv_aload_n hx hb dX11_sendNow_32 rfl (lv_at hl 0 rfl) ?_
        refine lv_iload_n hx hb dX11_sendNow_33 rfl (lv_at hl 1 rfl) ?_
        refine lv_iload_n hx hb dX11_sendNow_34 rfl (lv_at hl 2 rfl) ?_
        obtain ⟨x7, hv6, h⟩ := q_b_some h
        refine q_callV hx hb hml hts hown hK hP hS (As := [.int (q_I a0), .int (q_I a1)]) (rest := []) (st1 := [.int (q_I x7)]) cv_RX11_135 (c_M_waiting l D dA ra0 ra1 hv6) (Nat.le_of_ble_eq_true rfl) q_kdM_0 rfl ⟨rfl, rfl, Nat.le_of_ble_eq_true rfl, Nat.le_of_ble_eq_true rfl⟩ ⟨Nat.le_refl _, Nat.le_refl _⟩ rfl hl.1 rfl (Nat.le_of_ble_eq_true rfl) rfl (fun _ g => g) dX11_sendNow_35 ?_
        clear hP hS hv6; intro H locs r7 hP hS _
        refine lv_bipush (v := q_I 6) hx hb dX11_sendNow_38 (by decide) ?_
        refine q_clt hx hb r7 (q_r 6 rfl) (tgt := 46) dX11_sendNow_40 (by decide) h ?_ ?_
        · clear h; intro g22 h
          refine lv_aload_n hx hb dX11_sendNow_46 rfl (lv_at hl 0 rfl) ?_
          refine q_getR hx hb hts hown hK hP fd_RX11_7 (Nat.le_of_ble_eq_true rfl) q_kdM_0 rfl q_rhM_0_1 dX11_sendNow_47 ?_
          refine lv_iconst (v := q_I 0) hx hb dX11_sendNow_50 rfl ?_
          refine lv_iconst (v := q_I 2) hx hb dX11_sendNow_51 rfl ?_
          refine lv_iload_n hx hb dX11_sendNow_52 rfl (lv_at hl 1 rfl) ?_
          refine q_imul hx hb dX11_sendNow_53 h ?_
          clear h; intro x8 r8 h
          refine q_iadd hx hb dX11_sendNow_54 h ?_
          clear h; intro x9 r9 h
          refine lv_iload_n hx hb dX11_sendNow_55 rfl (lv_at hl 3 rfl) ?_
          refine q_iadd hx hb dX11_sendNow_56 h ?_
          clear h; intro x10 r10 h
          refine lv_dup2_11 hx hb dX11_sendNow_57 rfl rfl ?_
          refine q_iald hx hb hK hP (Nat.le_of_ble_eq_true rfl) q_kdM_1 r10 dX11_sendNow_58 h ?_
          clear h; intro x11 r11 h
          refine lv_iload hx hb dX11_sendNow_59 (lv_at hl 4 rfl) ?_
          refine q_isub hx hb dX11_sendNow_61 h ?_
          clear h; intro x12 r12 h
          refine q_iast hx hb hK hP hS hA (Nat.le_of_ble_eq_true rfl) q_kdM_1 r10 r12 dX11_sendNow_62 h ?_
          clear h hP hS; intro μ13 H locs hP hS h
          refine lv_aload_n hx hb dX11_sendNow_63 rfl (lv_at hl 0 rfl) ?_
          refine lv_iload_n hx hb dX11_sendNow_64 rfl (lv_at hl 1 rfl) ?_
          refine lv_iload_n hx hb dX11_sendNow_65 rfl (lv_at hl 2 rfl) ?_
          refine lv_iload_n hx hb dX11_sendNow_66 rfl (lv_at hl 3 rfl) ?_
          refine lv_iload hx hb dX11_sendNow_67 (lv_at hl 4 rfl) ?_
          refine lv_aload_n hx hb dX11_sendNow_69 rfl (lv_at hl 0 rfl) ?_
          refine q_getR hx hb hts hown hK hP fd_RX11_7 (Nat.le_of_ble_eq_true rfl) q_kdM_0 rfl q_rhM_0_1 dX11_sendNow_70 ?_
          refine lv_bipush (v := q_I 36) hx hb dX11_sendNow_73 (by decide) ?_
          refine q_iald hx hb hK hP (Nat.le_of_ble_eq_true rfl) q_kdM_1 (q_r 36 rfl) dX11_sendNow_75 h ?_
          clear h; intro x14 r14 h
          obtain ⟨μ16, hv15, h⟩ := q_b_some h
          refine q_callV hx hb hml hts hown hK hP hS (As := [.int (q_I a0), .int (q_I a1), .int (q_I a2), .int (q_I a3), .int (q_I x14)]) (rest := []) (st1 := []) cv_RX11_138 (c_M_write l D dA ra0 ra1 ra2 ra3 r14 hv15) (Nat.le_of_ble_eq_true rfl) q_kdM_0 rfl ⟨rfl, rfl, Nat.le_of_ble_eq_true rfl, Nat.le_of_ble_eq_true rfl⟩ ⟨Nat.le_refl _, Nat.le_refl _⟩ rfl hl.1 rfl (Nat.le_of_ble_eq_true rfl) rfl (fun _ g => g) dX11_sendNow_76 ?_
          clear hP hS hv15; intro H locs _ hP hS _
          refine lv_aload_n hx hb dX11_sendNow_79 rfl (lv_at hl 0 rfl) ?_
          refine lv_iload_n hx hb dX11_sendNow_80 rfl (lv_at hl 1 rfl) ?_
          refine lv_iconst (v := q_I 1) hx hb dX11_sendNow_81 rfl ?_
          refine lv_iload_n hx hb dX11_sendNow_82 rfl (lv_at hl 3 rfl) ?_
          refine lv_iload hx hb dX11_sendNow_83 (lv_at hl 4 rfl) ?_
          refine lv_iload_n hx hb dX11_sendNow_85 rfl (lv_at hl 2 rfl) ?_
          refine lv_aload_n hx hb dX11_sendNow_86 rfl (lv_at hl 0 rfl) ?_
          refine q_getR hx hb hts hown hK hP fd_RX11_7 (Nat.le_of_ble_eq_true rfl) q_kdM_0 rfl q_rhM_0_1 dX11_sendNow_87 ?_
          refine lv_bipush (v := q_I 37) hx hb dX11_sendNow_90 (by decide) ?_
          refine q_iald hx hb hK hP (Nat.le_of_ble_eq_true rfl) q_kdM_1 (q_r 37 rfl) dX11_sendNow_92 h ?_
          clear h; intro x17 r17 h
          refine lv_iconst (v := q_I 1) hx hb dX11_sendNow_93 rfl ?_
          refine q_isub hx hb dX11_sendNow_94 h ?_
          clear h; intro x18 r18 h
          obtain ⟨x20, μ21, hv19, h⟩ := q_b2_some h
          refine q_callV hx hb hml hts hown hK hP hS (As := [.int (q_I a0), .int (q_I 1), .int (q_I a2), .int (q_I a3), .int (q_I a1), .int (q_I x18)]) (rest := []) (st1 := [.int (q_I x20)]) cv_RX11_128 (c_M_happens l D dA ra0 (q_r 1 rfl) ra2 ra3 ra1 r18 hv19) (Nat.le_of_ble_eq_true rfl) q_kdM_0 rfl ⟨rfl, rfl, Nat.le_of_ble_eq_true rfl, Nat.le_of_ble_eq_true rfl⟩ ⟨Nat.le_refl _, Nat.le_refl _⟩ rfl hl.1 rfl (Nat.le_of_ble_eq_true rfl) rfl (fun _ g => g) dX11_sendNow_95 ?_
          clear hP hS hv19; intro H locs r20 hP hS _
          rw [← hQ]
          exact q_ret2 hx hb hr hlocks hP hS r20 h dX11_sendNow_98
        · clear h; intro g22 h
          exact hj43  _ _ _ hP hS (lv_sub hl [] rfl) h
  · clear h; intro g24 h
    refine lv_ldc hx hb hown (hts _ ck_RX11_125) dX11_sendNow_17 ?_
    rw [← hQ]
    exact q_ret2 hx hb hr hlocks hP hS (q_r (-100004) rfl) h dX11_sendNow_19
set_option maxHeartbeats 4000000 in
set_option maxRecDepth 100000 in
theorem c_M_send (l : Launch) (D : va_G) (dA : Nat → ClassId) {z sz : Nat} {N : Nat} {a0 : Int} (ra0 : q_R a0) {a1 : Int} (ra1 : q_R a1) {a2 : Int} (ra2 : q_R a2) {a3 : Int} (ra3 : q_R a3) {μ : q_M} {xo : Int} {μo : q_M} (h : f_M_send N a0 a1 a2 a3 μ = some (xo, μo)) : Met l yX11_send (q_wc yX11_send cX11_send 5 (some .int)) ({ frames := 4, cells := 0, slots := 0, locals := 94 } : Room) (va_Pc [.ref (z + 0), .int (q_I a0), .int (q_I a1), .int (q_I a2), .int (q_I a3)] (q_B (q_P D dA q_kdM q_rhoM 22 z sz μ) D dA)) (q_Q (some (.int (q_I xo))) (q_R xo) (q_P D dA q_kdM q_rhoM 22 z sz μo) (q_A z 22)) 0 0 (q_A z 22) := by
  refine Met.ofW (cc := cX11_send) (maxL := 5) (ret := (some .int)) (by decide) rfl ?_
  intro p e s m args below meth c s₁ B hml hv
  obtain ⟨hargs, hP, hK⟩ := hv
  have hx := B.exec
  have hb := B.bytes
  have hr := B.returns
  have hts : ∀ w ∈ q_W, w.before args s = true := fun w hw => atoms_spec (ws := q_wc yX11_send cX11_send 5 (some .int)) B.pre w (List.mem_cons_of_mem _ hw)
  have hown : s.vm.findClass RX11 = some m.cls := findClass_of_methodNamed B.named
  have hlocks := B.notSynchronized
  have hS : va_S (q_A z 22) s.heap s.heap [] := va_S.rf
  have hA : ∀ k, k < 22 → q_A z 22 (z + k) := fun k hk => ⟨Nat.le_add_right z k, Nat.add_lt_add_left hk z⟩
  have hl := lv_entry [.ref (z + 0), .int (q_I a0), .int (q_I a1), .int (q_I a2), .int (q_I a3)] (n := 5) (Nat.le_of_ble_eq_true rfl)
  refine W.eq (by rw [hargs, lg_entry_eq]) ?_
  generalize (lg_sl [.ref (z + 0), .int (q_I a0), .int (q_I a1), .int (q_I a2), .int (q_I a3)] ++ List.replicate (5 - (lg_sl [.ref (z + 0), .int (q_I a0), .int (q_I a1), .int (q_I a2), .int (q_I a3)]).length) Slot.unset).toArray = ls at hl ⊢
  have hl : lv_has ls 5 [(0, .ref (z + 0)), (1, .int (q_I a0)), (2, .int (q_I a1)), (3, .int (q_I a2)), (4, .int (q_I a3))] := hl
  generalize hQ : MQ below _ args s 0 0 _ = Qf
  change W p l e ({ frames := 4, cells := 0, slots := 0, locals := 94 } : Room) s m args below meth c s.heap [] 0 0 Qf (F0 m 0 ls [])
  unfold f_M_send at h
  refine lv_aload_n hx hb dX11_send_0 rfl (lv_at hl 0 rfl) ?_
  refine lv_iload_n hx hb dX11_send_1 rfl (lv_at hl 1 rfl) ?_
  refine lv_iload_n hx hb dX11_send_2 rfl (lv_at hl 2 rfl) ?_
  obtain ⟨x2, hv1, h⟩ := q_b_some h
  refine q_callV hx hb hml hts hown hK hP hS (As := [.int (q_I a0), .int (q_I a1)]) (rest := []) (st1 := [.int (q_I x2)]) cv_RX11_142 (c_M_noChannel l D dA ra0 ra1 hv1) (Nat.le_of_ble_eq_true rfl) q_kdM_0 rfl ⟨rfl, rfl, Nat.le_of_ble_eq_true rfl, Nat.le_of_ble_eq_true rfl⟩ ⟨Nat.le_refl _, Nat.le_refl _⟩ rfl hl.1 rfl (Nat.le_of_ble_eq_true rfl) rfl (fun _ g => g) dX11_send_3 ?_
  clear hP hS hv1; intro H locs r2 hP hS _
  refine q_jn_in h (fun J => ∀ (H : Heap) (locs : List Loc) (ls : Array Slot), q_P D dA q_kdM q_rhoM 22 z sz μ H → va_S (q_A z 22) s.heap H locs → lv_has ls 5 [] → J = some (xo, μo) → W p l e ({ frames := 4, cells := 0, slots := 0, locals := 94 } : Room) s m args below meth c H locs 0 0 Qf (F0 m 18 ls [])) ?_ ?_
  · clear h hl hP hS; intro  H locs ls  hP hS hl h
    refine lv_ldc hx hb hown (hts _ ck_RX11_112) dX11_send_18 ?_
    rw [← hQ]
    exact q_ret2 hx hb hr hlocks hP hS (q_r (-100001) rfl) h dX11_send_20
  · clear h; intro j18 hj18 h
    refine q_zne hx hb r2 (tgt := 18) dX11_send_6 (by decide) h ?_ ?_
    · clear h; intro g14 h
      refine lv_iload_n hx hb dX11_send_9 rfl (lv_at hl 3 rfl) ?_
      refine lv_iconst (v := q_I 0) hx hb dX11_send_10 rfl ?_
      refine lv_iconst (v := q_I 1) hx hb dX11_send_11 rfl ?_
      obtain ⟨x4, hv3, h⟩ := q_b_some h
      refine q_callS hx hb hml hts hown hK hP hS (As := [.int (q_I a2), .int (q_I 0), .int (q_I 1)]) (rest := []) (st1 := [.int (q_I x4)]) cs_RX11_99 (c_M_in l D dA ra2 (q_r 0 rfl) (q_r 1 rfl) hv3) ⟨rfl, rfl, Nat.le_of_ble_eq_true rfl, Nat.le_of_ble_eq_true rfl⟩ ⟨Nat.le_refl _, Nat.le_refl _⟩ rfl hl.1 rfl (Nat.le_of_ble_eq_true rfl) rfl (fun _ g => g) dX11_send_12 ?_
      clear hP hS hv3; intro H locs r4 hP hS _
      refine q_zne hx hb r4 (tgt := 21) dX11_send_15 (by decide) h ?_ ?_
      · clear h; intro g13 h
        exact hj18  _ _ _ hP hS (lv_sub hl [] rfl) h
      · clear h; intro g13 h
        refine lv_iload hx hb dX11_send_21 (lv_at hl 4 rfl) ?_
        refine lv_iconst (v := q_I 1) hx hb dX11_send_23 rfl ?_
        refine lv_bipush (v := q_I 100) hx hb dX11_send_24 (by decide) ?_
        obtain ⟨x6, hv5, h⟩ := q_b_some h
        refine q_callS hx hb hml hts hown hK hP hS (As := [.int (q_I a3), .int (q_I 1), .int (q_I 100)]) (rest := []) (st1 := [.int (q_I x6)]) cs_RX11_99 (c_M_in l D dA ra3 (q_r 1 rfl) (q_r 100 rfl) hv5) ⟨rfl, rfl, Nat.le_of_ble_eq_true rfl, Nat.le_of_ble_eq_true rfl⟩ ⟨Nat.le_refl _, Nat.le_refl _⟩ rfl hl.1 rfl (Nat.le_of_ble_eq_true rfl) rfl (fun _ g => g) dX11_send_26 ?_
        clear hP hS hv5; intro H locs r6 hP hS _
        refine q_jn_in h (fun J => ∀ (x7 : Int) (μ8 : q_M) (H : Heap) (locs : List Loc) (ls : Array Slot), q_R x7 → q_P D dA q_kdM q_rhoM 22 z sz μ8 H → va_S (q_A z 22) s.heap H locs → lv_has ls 5 [] → J x7 μ8 = some (xo, μo) → W p l e ({ frames := 4, cells := 0, slots := 0, locals := 94 } : Room) s m args below meth c H locs 0 0 Qf (F0 m 46 ls [.int (q_I x7)])) ?_ ?_
        · clear h hl hP hS; intro x7 μ8 H locs ls r7 hP hS hl h
          rw [← hQ]
          exact q_ret2 hx hb hr hlocks hP hS r7 h dX11_send_46
        · clear h; intro j46 hj46 h
          refine q_zeq hx hb r6 (tgt := 44) dX11_send_29 (by decide) h ?_ ?_
          · clear h; intro g12 h
            refine lv_ldc hx hb hown (hts _ ck_RX11_103) dX11_send_44 ?_
            exact hj46 ((-100002)) μ _ _ _ (q_r (-100002) rfl) hP hS (lv_sub hl [] rfl) h
          · clear h; intro g12 h
            refine lv_aload_n hx hb dX11_send_32 rfl (lv_at hl 0 rfl) ?_
            refine lv_iload_n hx hb dX11_send_33 rfl (lv_at hl 1 rfl) ?_
            refine lv_iload_n hx hb dX11_send_34 rfl (lv_at hl 2 rfl) ?_
            refine lv_iload_n hx hb dX11_send_35 rfl (lv_at hl 3 rfl) ?_
            refine lv_iload hx hb dX11_send_36 (lv_at hl 4 rfl) ?_
            obtain ⟨x10, μ11, hv9, h⟩ := q_b2_some h
            refine q_callV hx hb hml hts hown hK hP hS (As := [.int (q_I a0), .int (q_I a1), .int (q_I a2), .int (q_I a3)]) (rest := []) (st1 := [.int (q_I x10)]) cv_RX11_145 (c_M_sendNow l D dA ra0 ra1 ra2 ra3 hv9) (Nat.le_of_ble_eq_true rfl) q_kdM_0 rfl ⟨rfl, rfl, Nat.le_of_ble_eq_true rfl, Nat.le_of_ble_eq_true rfl⟩ ⟨Nat.le_refl _, Nat.le_refl _⟩ rfl hl.1 rfl (Nat.le_of_ble_eq_true rfl) rfl (fun _ g => g) dX11_send_38 ?_
            clear hP hS hv9; intro H locs r10 hP hS _
            refine lv_goto (tgt := 46) hx hb dX11_send_41 (by decide) ?_
            exact hj46 x10 μ11 _ _ _ r10 hP hS (lv_sub hl [] rfl) h
    · clear h; intro g14 h
      exact hj18  _ _ _ hP hS (lv_sub hl [] rfl) h
set_option maxHeartbeats 4000000 in
set_option maxRecDepth 100000 in
theorem c_M_record (l : Launch) (D : va_G) (dA : Nat → ClassId) {z sz : Nat} {N : Nat} {a0 : Int} (ra0 : q_R a0) {μ : q_M} {μo : q_M} (h : f_M_record N a0 μ = some μo) : Met l yX11_record (q_wc yX11_record cX11_record 3 none) ({ frames := 0, cells := 0, slots := 0, locals := 0 } : Room) (va_Pc [.ref (z + 0), .int (q_I a0)] (q_B (q_P D dA q_kdM q_rhoM 22 z sz μ) D dA)) (q_Q none True (q_P D dA q_kdM q_rhoM 22 z sz μo) (q_A z 22)) 0 0 (q_A z 22) := by
  refine Met.ofW (cc := cX11_record) (maxL := 3) (ret := none) (by decide) rfl ?_
  intro p e s m args below meth c s₁ B hml hv
  obtain ⟨hargs, hP, hK⟩ := hv
  have hx := B.exec
  have hb := B.bytes
  have hr := B.returns
  have hts : ∀ w ∈ q_W, w.before args s = true := fun w hw => atoms_spec (ws := q_wc yX11_record cX11_record 3 none) B.pre w (List.mem_cons_of_mem _ hw)
  have hown : s.vm.findClass RX11 = some m.cls := findClass_of_methodNamed B.named
  have hlocks := B.notSynchronized
  have hS : va_S (q_A z 22) s.heap s.heap [] := va_S.rf
  have hA : ∀ k, k < 22 → q_A z 22 (z + k) := fun k hk => ⟨Nat.le_add_right z k, Nat.add_lt_add_left hk z⟩
  have hl := lv_entry [.ref (z + 0), .int (q_I a0)] (n := 3) (Nat.le_of_ble_eq_true rfl)
  refine W.eq (by rw [hargs, lg_entry_eq]) ?_
  generalize (lg_sl [.ref (z + 0), .int (q_I a0)] ++ List.replicate (3 - (lg_sl [.ref (z + 0), .int (q_I a0)]).length) Slot.unset).toArray = ls at hl ⊢
  have hl : lv_has ls 3 [(0, .ref (z + 0)), (1, .int (q_I a0))] := hl
  generalize hQ : MQ below _ args s 0 0 _ = Qf
  change W p l e ({ frames := 0, cells := 0, slots := 0, locals := 0 } : Room) s m args below meth c s.heap [] 0 0 Qf (F0 m 0 ls [])
  unfold f_M_record at h
  refine lv_aload_n hx hb dX11_record_0 rfl (lv_at hl 0 rfl) ?_
  refine q_getR hx hb hts hown hK hP fd_RX11_7 (Nat.le_of_ble_eq_true rfl) q_kdM_0 rfl q_rhM_0_1 dX11_record_1 ?_
  refine lv_bipush (v := q_I 30) hx hb dX11_record_4 (by decide) ?_
  refine lv_iload_n hx hb dX11_record_6 rfl (lv_at hl 1 rfl) ?_
  refine q_iadd hx hb dX11_record_7 h ?_
  clear h; intro x1 r1 h
  refine lv_aload_n hx hb dX11_record_8 rfl (lv_at hl 0 rfl) ?_
  refine q_getR hx hb hts hown hK hP fd_RX11_7 (Nat.le_of_ble_eq_true rfl) q_kdM_0 rfl q_rhM_0_1 dX11_record_9 ?_
  refine lv_bipush (v := q_I 25) hx hb dX11_record_12 (by decide) ?_
  refine lv_iload_n hx hb dX11_record_14 rfl (lv_at hl 1 rfl) ?_
  refine q_iadd hx hb dX11_record_15 h ?_
  clear h; intro x2 r2 h
  refine q_iald hx hb hK hP (Nat.le_of_ble_eq_true rfl) q_kdM_1 r2 dX11_record_16 h ?_
  clear h; intro x3 r3 h
  refine q_iast hx hb hK hP hS hA (Nat.le_of_ble_eq_true rfl) q_kdM_1 r1 r3 dX11_record_17 h ?_
  clear h hP hS; intro μ4 H locs hP hS h
  refine lv_iconst (v := q_I 0) hx hb dX11_record_18 rfl ?_
  refine lv_istore_n (lv' := [(2, .int (q_I 0)), (0, .ref (z + 0)), (1, .int (q_I a0))]) hx hb dX11_record_19 rfl hl (by decide) rfl ?_
  clear hl; intro ls hl
  have L20 : ∀ (k63 : q_M → Option q_M), (∀ (μ7 : q_M) (H : Heap) (locs : List Loc) (ls : Array Slot), q_P D dA q_kdM q_rhoM 22 z sz μ7 H → va_S (q_A z 22) s.heap H locs → lv_has ls 3 [] → k63 μ7 = some μo → W p l e ({ frames := 0, cells := 0, slots := 0, locals := 0 } : Room) s m args below meth c H locs 0 0 Qf (F0 m 63 ls [])) → ∀ (nf20 : Nat) (x5 : Int) (μ6 : q_M) (H : Heap) (locs : List Loc) (ls : Array Slot), q_R x5 → q_P D dA q_kdM q_rhoM 22 z sz μ6 H → va_S (q_A z 22) s.heap H locs → lv_has ls 3 [(0, .ref (z + 0)), (1, .int (q_I a0)), (2, .int (q_I x5))] → f_M_record_L20 a0 k63 nf20 x5 μ6 = some μo → W p l e ({ frames := 0, cells := 0, slots := 0, locals := 0 } : Room) s m args below meth c H locs 0 0 Qf (F0 m 20 ls []) := by
    clear h hl hP hS
    intro k63 hk63 nf20
    induction nf20 with
    | zero =>
      intro x5 μ6 H locs ls r5 hP hS hl h
      rw [f_M_record_L20] at h
      cases h
    | succ nf20 ih20 =>
      intro x5 μ6 H locs ls r5 hP hS hl h
      rw [f_M_record_L20] at h
      refine lv_iload_n hx hb dX11_record_20 rfl (lv_at hl 2 rfl) ?_
      refine lv_aload_n hx hb dX11_record_21 rfl (lv_at hl 0 rfl) ?_
      refine q_getI hx hb hts hown hK hP fd_RX11_79 (Nat.le_of_ble_eq_true rfl) q_kdM_0 rfl dX11_record_22 h ?_
      clear h; intro x8 r8 h
      refine q_cge hx hb r5 r8 (tgt := 63) dX11_record_25 (by decide) h ?_ ?_
      · clear h; intro g17 h
        exact hk63 μ6 _ _ _ hP hS (lv_sub hl [] rfl) h
      · clear h; intro g17 h
        refine lv_aload_n hx hb dX11_record_28 rfl (lv_at hl 0 rfl) ?_
        refine q_getR hx hb hts hown hK hP fd_RX11_7 (Nat.le_of_ble_eq_true rfl) q_kdM_0 rfl q_rhM_0_1 dX11_record_29 ?_
        refine lv_bipush (v := q_I 38) hx hb dX11_record_32 (by decide) ?_
        refine lv_iconst (v := q_I 5) hx hb dX11_record_34 rfl ?_
        refine lv_iload_n hx hb dX11_record_35 rfl (lv_at hl 1 rfl) ?_
        refine q_imul hx hb dX11_record_36 h ?_
        clear h; intro x9 r9 h
        refine q_iadd hx hb dX11_record_37 h ?_
        clear h; intro x10 r10 h
        refine lv_iload_n hx hb dX11_record_38 rfl (lv_at hl 2 rfl) ?_
        refine q_iadd hx hb dX11_record_39 h ?_
        clear h; intro x11 r11 h
        refine lv_iload_n hx hb dX11_record_40 rfl (lv_at hl 2 rfl) ?_
        refine lv_iload_n hx hb dX11_record_41 rfl (lv_at hl 1 rfl) ?_
        refine q_jn_in h (fun J => ∀ (x12 : Int) (H : Heap) (locs : List Loc) (ls : Array Slot), q_R x12 → q_P D dA q_kdM q_rhoM 22 z sz μ6 H → va_S (q_A z 22) s.heap H locs → lv_has ls 3 [(0, .ref (z + 0)), (1, .int (q_I a0)), (2, .int (q_I x5))] → J x12 = some μo → W p l e ({ frames := 0, cells := 0, slots := 0, locals := 0 } : Room) s m args below meth c H locs 0 0 Qf (F0 m 56 ls [.int (q_I x12), .int (q_I x11), .ref (z + 1)])) ?_ ?_
        · clear h hl hP hS; intro x12 H locs ls r12 hP hS hl h
          refine q_iast hx hb hK hP hS hA (Nat.le_of_ble_eq_true rfl) q_kdM_1 r11 r12 dX11_record_56 h ?_
          clear h hP hS; intro μ13 H locs hP hS h
          refine q_iinc (k := 2) (lv' := fun t => [(2, .int (q_I t)), (0, .ref (z + 0)), (1, .int (q_I a0))]) hx hb dX11_record_57 hl rfl (by decide) (fun _ => rfl) h ?_
          clear h hl; intro x14 ls r14 hl h
          refine lv_goto (tgt := 20) hx hb dX11_record_60 (by decide) ?_
          exact ih20 x14 μ13 _ _ _ r14 hP hS (lv_sub hl [1, 2, 0] rfl) h
        · clear h; intro j56 hj56 h
          refine q_cne hx hb r5 ra0 (tgt := 49) dX11_record_42 (by decide) h ?_ ?_
          · clear h; intro g16 h
            refine lv_iconst (v := q_I (-1)) hx hb dX11_record_45 rfl ?_
            refine lv_goto (tgt := 56) hx hb dX11_record_46 (by decide) ?_
            exact hj56 ((-1)) _ _ _ (q_r (-1) rfl) hP hS (lv_sub hl [0, 1, 2] rfl) h
          · clear h; intro g16 h
            refine lv_aload_n hx hb dX11_record_49 rfl (lv_at hl 0 rfl) ?_
            refine q_getR hx hb hts hown hK hP fd_RX11_7 (Nat.le_of_ble_eq_true rfl) q_kdM_0 rfl q_rhM_0_1 dX11_record_50 ?_
            refine lv_bipush (v := q_I 37) hx hb dX11_record_53 (by decide) ?_
            refine q_iald hx hb hK hP (Nat.le_of_ble_eq_true rfl) q_kdM_1 (q_r 37 rfl) dX11_record_55 h ?_
            clear h; intro x15 r15 h
            exact hj56 x15 _ _ _ r15 hP hS (lv_sub hl [0, 1, 2] rfl) h
  refine L20 _ ?_  _ 0 μ4 _ _ _ (q_r 0 rfl) hP hS (lv_sub hl [1, 2, 0] rfl) h
  · clear h hl hP hS; intro μ7 H locs ls  hP hS hl h
    rw [← hQ]
    exact q_retv hx hb hr hlocks hP hS h dX11_record_63
set_option maxHeartbeats 4000000 in
set_option maxRecDepth 100000 in
theorem c_M_markers (l : Launch) (D : va_G) (dA : Nat → ClassId) {z sz : Nat} {N : Nat} {μ : q_M} {xo : Int} (h : f_M_markers N μ = some xo) : Met l yX11_markers (q_wc yX11_markers cX11_markers 3 (some .int)) ({ frames := 0, cells := 0, slots := 0, locals := 0 } : Room) (va_Pc [.ref (z + 0)] (q_B (q_P D dA q_kdM q_rhoM 22 z sz μ) D dA)) (q_Q (some (.int (q_I xo))) (q_R xo) (q_P D dA q_kdM q_rhoM 22 z sz μ) (q_A z 22)) 0 0 (q_A z 22) := by
  refine Met.ofW (cc := cX11_markers) (maxL := 3) (ret := (some .int)) (by decide) rfl ?_
  intro p e s m args below meth c s₁ B hml hv
  obtain ⟨hargs, hP, hK⟩ := hv
  have hx := B.exec
  have hb := B.bytes
  have hr := B.returns
  have hts : ∀ w ∈ q_W, w.before args s = true := fun w hw => atoms_spec (ws := q_wc yX11_markers cX11_markers 3 (some .int)) B.pre w (List.mem_cons_of_mem _ hw)
  have hown : s.vm.findClass RX11 = some m.cls := findClass_of_methodNamed B.named
  have hlocks := B.notSynchronized
  have hS : va_S (q_A z 22) s.heap s.heap [] := va_S.rf
  have hA : ∀ k, k < 22 → q_A z 22 (z + k) := fun k hk => ⟨Nat.le_add_right z k, Nat.add_lt_add_left hk z⟩
  have hl := lv_entry [.ref (z + 0)] (n := 3) (Nat.le_of_ble_eq_true rfl)
  refine W.eq (by rw [hargs, lg_entry_eq]) ?_
  generalize (lg_sl [.ref (z + 0)] ++ List.replicate (3 - (lg_sl [.ref (z + 0)]).length) Slot.unset).toArray = ls at hl ⊢
  have hl : lv_has ls 3 [(0, .ref (z + 0))] := hl
  generalize hQ : MQ below _ args s 0 0 _ = Qf
  change W p l e ({ frames := 0, cells := 0, slots := 0, locals := 0 } : Room) s m args below meth c s.heap [] 0 0 Qf (F0 m 0 ls [])
  unfold f_M_markers at h
  refine lv_iconst (v := q_I 0) hx hb dX11_markers_0 rfl ?_
  refine lv_istore_n (lv' := [(1, .int (q_I 0)), (0, .ref (z + 0))]) hx hb dX11_markers_1 rfl hl (by decide) rfl ?_
  clear hl; intro ls hl
  refine lv_iconst (v := q_I 0) hx hb dX11_markers_2 rfl ?_
  refine lv_istore_n (lv' := [(2, .int (q_I 0)), (1, .int (q_I 0)), (0, .ref (z + 0))]) hx hb dX11_markers_3 rfl hl (by decide) rfl ?_
  clear hl; intro ls hl
  have L4 : ∀ (k36 : Int → Option Int), (∀ (x3 : Int) (H : Heap) (locs : List Loc) (ls : Array Slot), q_R x3 → q_P D dA q_kdM q_rhoM 22 z sz μ H → va_S (q_A z 22) s.heap H locs → lv_has ls 3 [(1, .int (q_I x3))] → k36 x3 = some xo → W p l e ({ frames := 0, cells := 0, slots := 0, locals := 0 } : Room) s m args below meth c H locs 0 0 Qf (F0 m 36 ls [])) → ∀ (nf4 : Nat) (x1 : Int) (x2 : Int) (H : Heap) (locs : List Loc) (ls : Array Slot), q_R x1 → q_R x2 → q_P D dA q_kdM q_rhoM 22 z sz μ H → va_S (q_A z 22) s.heap H locs → lv_has ls 3 [(0, .ref (z + 0)), (1, .int (q_I x1)), (2, .int (q_I x2))] → f_M_markers_L4 μ k36 nf4 x1 x2 = some xo → W p l e ({ frames := 0, cells := 0, slots := 0, locals := 0 } : Room) s m args below meth c H locs 0 0 Qf (F0 m 4 ls []) := by
    clear h hl hP hS
    intro k36 hk36 nf4
    induction nf4 with
    | zero =>
      intro x1 x2 H locs ls r1 r2 hP hS hl h
      rw [f_M_markers_L4] at h
      cases h
    | succ nf4 ih4 =>
      intro x1 x2 H locs ls r1 r2 hP hS hl h
      rw [f_M_markers_L4] at h
      refine lv_iload_n hx hb dX11_markers_4 rfl (lv_at hl 2 rfl) ?_
      refine lv_bipush (v := q_I 25) hx hb dX11_markers_5 (by decide) ?_
      refine q_cge hx hb r2 (q_r 25 rfl) (tgt := 36) dX11_markers_7 (by decide) h ?_ ?_
      · clear h; intro g10 h
        exact hk36 x1 _ _ _ r1 hP hS (lv_sub hl [1] rfl) h
      · clear h; intro g10 h
        refine lv_iload_n hx hb dX11_markers_10 rfl (lv_at hl 1 rfl) ?_
        refine lv_aload_n hx hb dX11_markers_11 rfl (lv_at hl 0 rfl) ?_
        refine q_getR hx hb hts hown hK hP fd_RX11_7 (Nat.le_of_ble_eq_true rfl) q_kdM_0 rfl q_rhM_0_1 dX11_markers_12 ?_
        refine lv_bipush (v := q_I 38) hx hb dX11_markers_15 (by decide) ?_
        refine lv_iload_n hx hb dX11_markers_17 rfl (lv_at hl 2 rfl) ?_
        refine q_iadd hx hb dX11_markers_18 h ?_
        clear h; intro x4 r4 h
        refine q_iald hx hb hK hP (Nat.le_of_ble_eq_true rfl) q_kdM_1 r4 dX11_markers_19 h ?_
        clear h; intro x5 r5 h
        refine q_jn_in h (fun J => ∀ (x6 : Int) (H : Heap) (locs : List Loc) (ls : Array Slot), q_R x6 → q_P D dA q_kdM q_rhoM 22 z sz μ H → va_S (q_A z 22) s.heap H locs → lv_has ls 3 [(0, .ref (z + 0)), (2, .int (q_I x2))] → J x6 = some xo → W p l e ({ frames := 0, cells := 0, slots := 0, locals := 0 } : Room) s m args below meth c H locs 0 0 Qf (F0 m 28 ls [.int (q_I x6), .int (q_I x1)])) ?_ ?_
        · clear h hl hP hS; intro x6 H locs ls r6 hP hS hl h
          refine q_iadd hx hb dX11_markers_28 h ?_
          clear h; intro x7 r7 h
          refine lv_istore_n (lv' := [(1, .int (q_I x7)), (0, .ref (z + 0)), (2, .int (q_I x2))]) hx hb dX11_markers_29 rfl hl (by decide) rfl ?_
          clear hl; intro ls hl
          refine q_iinc (k := 2) (lv' := fun t => [(2, .int (q_I t)), (1, .int (q_I x7)), (0, .ref (z + 0))]) hx hb dX11_markers_30 hl rfl (by decide) (fun _ => rfl) h ?_
          clear h hl; intro x8 ls r8 hl h
          refine lv_goto (tgt := 4) hx hb dX11_markers_33 (by decide) ?_
          exact ih4 x7 x8 _ _ _ r7 r8 hP hS (lv_sub hl [2, 1, 0] rfl) h
        · clear h; intro j28 hj28 h
          refine q_zlt hx hb r5 (tgt := 27) dX11_markers_20 (by decide) h ?_ ?_
          · clear h; intro g9 h
            refine lv_iconst (v := q_I 0) hx hb dX11_markers_27 rfl ?_
            exact hj28 0 _ _ _ (q_r 0 rfl) hP hS (lv_sub hl [0, 2] rfl) h
          · clear h; intro g9 h
            refine lv_iconst (v := q_I 1) hx hb dX11_markers_23 rfl ?_
            refine lv_goto (tgt := 28) hx hb dX11_markers_24 (by decide) ?_
            exact hj28 1 _ _ _ (q_r 1 rfl) hP hS (lv_sub hl [0, 2] rfl) h
  refine L4 _ ?_  _ 0 0 _ _ _ (q_r 0 rfl) (q_r 0 rfl) hP hS (lv_sub hl [2, 1, 0] rfl) h
  · clear h hl hP hS; intro x3 H locs ls r3 hP hS hl h
    refine lv_iload_n hx hb dX11_markers_36 rfl (lv_at hl 0 rfl) ?_
    rw [← hQ]
    exact q_ret1 hx hb hr hlocks hP hS r3 h dX11_markers_37
set_option maxHeartbeats 4000000 in
set_option maxRecDepth 100000 in
theorem c_M_takeMarker (l : Launch) (D : va_G) (dA : Nat → ClassId) {z sz : Nat} {N : Nat} {a0 : Int} (ra0 : q_R a0) {a1 : Int} (ra1 : q_R a1) {μ : q_M} {μo : q_M} (h : f_M_takeMarker N a0 a1 μ = some μo) : Met l yX11_takeMarker (q_wc yX11_takeMarker cX11_takeMarker 5 none) ({ frames := 1, cells := 0, slots := 0, locals := 22 } : Room) (va_Pc [.ref (z + 0), .int (q_I a0), .int (q_I a1)] (q_B (q_P D dA q_kdM q_rhoM 22 z sz μ) D dA)) (q_Q none True (q_P D dA q_kdM q_rhoM 22 z sz μo) (q_A z 22)) 0 0 (q_A z 22) := by
  refine Met.ofW (cc := cX11_takeMarker) (maxL := 5) (ret := none) (by decide) rfl ?_
  intro p e s m args below meth c s₁ B hml hv
  obtain ⟨hargs, hP, hK⟩ := hv
  have hx := B.exec
  have hb := B.bytes
  have hr := B.returns
  have hts : ∀ w ∈ q_W, w.before args s = true := fun w hw => atoms_spec (ws := q_wc yX11_takeMarker cX11_takeMarker 5 none) B.pre w (List.mem_cons_of_mem _ hw)
  have hown : s.vm.findClass RX11 = some m.cls := findClass_of_methodNamed B.named
  have hlocks := B.notSynchronized
  have hS : va_S (q_A z 22) s.heap s.heap [] := va_S.rf
  have hA : ∀ k, k < 22 → q_A z 22 (z + k) := fun k hk => ⟨Nat.le_add_right z k, Nat.add_lt_add_left hk z⟩
  have hl := lv_entry [.ref (z + 0), .int (q_I a0), .int (q_I a1)] (n := 5) (Nat.le_of_ble_eq_true rfl)
  refine W.eq (by rw [hargs, lg_entry_eq]) ?_
  generalize (lg_sl [.ref (z + 0), .int (q_I a0), .int (q_I a1)] ++ List.replicate (5 - (lg_sl [.ref (z + 0), .int (q_I a0), .int (q_I a1)]).length) Slot.unset).toArray = ls at hl ⊢
  have hl : lv_has ls 5 [(0, .ref (z + 0)), (1, .int (q_I a0)), (2, .int (q_I a1))] := hl
  generalize hQ : MQ below _ args s 0 0 _ = Qf
  change W p l e ({ frames := 1, cells := 0, slots := 0, locals := 22 } : Room) s m args below meth c s.heap [] 0 0 Qf (F0 m 0 ls [])
  unfold f_M_takeMarker at h
  refine lv_aload_n hx hb dX11_takeMarker_0 rfl (lv_at hl 0 rfl) ?_
  refine q_getR hx hb hts hown hK hP fd_RX11_7 (Nat.le_of_ble_eq_true rfl) q_kdM_0 rfl q_rhM_0_1 dX11_takeMarker_1 ?_
  refine lv_bipush (v := q_I 38) hx hb dX11_takeMarker_4 (by decide) ?_
  refine lv_iconst (v := q_I 5) hx hb dX11_takeMarker_6 rfl ?_
  refine lv_iload_n hx hb dX11_takeMarker_7 rfl (lv_at hl 1 rfl) ?_
  refine q_imul hx hb dX11_takeMarker_8 h ?_
  clear h; intro x1 r1 h
  refine q_iadd hx hb dX11_takeMarker_9 h ?_
  clear h; intro x2 r2 h
  refine lv_iload_n hx hb dX11_takeMarker_10 rfl (lv_at hl 2 rfl) ?_
  refine q_iadd hx hb dX11_takeMarker_11 h ?_
  clear h; intro x3 r3 h
  refine lv_iconst (v := q_I (-1)) hx hb dX11_takeMarker_12 rfl ?_
  refine q_iast hx hb hK hP hS hA (Nat.le_of_ble_eq_true rfl) q_kdM_1 r3 (q_r (-1) rfl) dX11_takeMarker_13 h ?_
  clear h hP hS; intro μ4 H locs hP hS h
  refine lv_aload_n hx hb dX11_takeMarker_14 rfl (lv_at hl 0 rfl) ?_
  refine q_getR hx hb hts hown hK hP fd_RX11_7 (Nat.le_of_ble_eq_true rfl) q_kdM_0 rfl q_rhM_0_1 dX11_takeMarker_15 ?_
  refine lv_bipush (v := q_I 30) hx hb dX11_takeMarker_18 (by decide) ?_
  refine lv_iload_n hx hb dX11_takeMarker_20 rfl (lv_at hl 2 rfl) ?_
  refine q_iadd hx hb dX11_takeMarker_21 h ?_
  clear h; intro x5 r5 h
  refine q_iald hx hb hK hP (Nat.le_of_ble_eq_true rfl) q_kdM_1 r5 dX11_takeMarker_22 h ?_
  clear h; intro x6 r6 h
  refine q_jn_in h (fun J => ∀ (μ7 : q_M) (H : Heap) (locs : List Loc) (ls : Array Slot), q_P D dA q_kdM q_rhoM 22 z sz μ7 H → va_S (q_A z 22) s.heap H locs → lv_has ls 5 [(0, .ref (z + 0))] → J μ7 = some μo → W p l e ({ frames := 1, cells := 0, slots := 0, locals := 22 } : Room) s m args below meth c H locs 0 0 Qf (F0 m 31 ls [])) ?_ ?_
  · clear h hl hP hS; intro μ7 H locs ls  hP hS hl h
    refine lv_iconst (v := q_I 1) hx hb dX11_takeMarker_31 rfl ?_
    refine lv_istore_n (lv' := [(3, .int (q_I 1)), (0, .ref (z + 0))]) hx hb dX11_takeMarker_32 rfl hl (by decide) rfl ?_
    clear hl; intro ls hl
    refine lv_iconst (v := q_I 0) hx hb dX11_takeMarker_33 rfl ?_
    refine lv_istore (lv' := [(4, .int (q_I 0)), (3, .int (q_I 1)), (0, .ref (z + 0))]) hx hb dX11_takeMarker_34 hl (by decide) rfl ?_
    clear hl; intro ls hl
    have L36 : ∀ (k74 : Int → Option q_M), (∀ (x10 : Int) (H : Heap) (locs : List Loc) (ls : Array Slot), q_R x10 → q_P D dA q_kdM q_rhoM 22 z sz μ7 H → va_S (q_A z 22) s.heap H locs → lv_has ls 5 [(0, .ref (z + 0)), (3, .int (q_I x10))] → k74 x10 = some μo → W p l e ({ frames := 1, cells := 0, slots := 0, locals := 22 } : Room) s m args below meth c H locs 0 0 Qf (F0 m 74 ls [])) → ∀ (nf36 : Nat) (x8 : Int) (x9 : Int) (H : Heap) (locs : List Loc) (ls : Array Slot), q_R x8 → q_R x9 → q_P D dA q_kdM q_rhoM 22 z sz μ7 H → va_S (q_A z 22) s.heap H locs → lv_has ls 5 [(0, .ref (z + 0)), (3, .int (q_I x8)), (4, .int (q_I x9))] → f_M_takeMarker_L36 μ7 k74 nf36 x8 x9 = some μo → W p l e ({ frames := 1, cells := 0, slots := 0, locals := 22 } : Room) s m args below meth c H locs 0 0 Qf (F0 m 36 ls []) := by
      clear h hl hP hS
      intro k74 hk74 nf36
      induction nf36 with
      | zero =>
        intro x8 x9 H locs ls r8 r9 hP hS hl h
        rw [f_M_takeMarker_L36] at h
        cases h
      | succ nf36 ih36 =>
        intro x8 x9 H locs ls r8 r9 hP hS hl h
        rw [f_M_takeMarker_L36] at h
        refine lv_iload hx hb dX11_takeMarker_36 (lv_at hl 2 rfl) ?_
        refine lv_aload_n hx hb dX11_takeMarker_38 rfl (lv_at hl 0 rfl) ?_
        refine q_getI hx hb hts hown hK hP fd_RX11_79 (Nat.le_of_ble_eq_true rfl) q_kdM_0 rfl dX11_takeMarker_39 h ?_
        clear h; intro x11 r11 h
        refine q_cge hx hb r9 r11 (tgt := 74) dX11_takeMarker_42 (by decide) h ?_ ?_
        · clear h; intro g18 h
          exact hk74 x8 _ _ _ r8 hP hS (lv_sub hl [0, 1] rfl) h
        · clear h; intro g18 h
          refine lv_iload_n hx hb dX11_takeMarker_45 rfl (lv_at hl 1 rfl) ?_
          refine q_jn_in h (fun J => ∀ (x12 : Int) (H : Heap) (locs : List Loc) (ls : Array Slot), q_R x12 → q_P D dA q_kdM q_rhoM 22 z sz μ7 H → va_S (q_A z 22) s.heap H locs → lv_has ls 5 [(0, .ref (z + 0)), (4, .int (q_I x9))] → J x12 = some μo → W p l e ({ frames := 1, cells := 0, slots := 0, locals := 22 } : Room) s m args below meth c H locs 0 0 Qf (F0 m 67 ls [.int (q_I x12)])) ?_ ?_
          · clear h hl hP hS; intro x12 H locs ls r12 hP hS hl h
            refine lv_istore_n (lv' := [(3, .int (q_I x12)), (0, .ref (z + 0)), (4, .int (q_I x9))]) hx hb dX11_takeMarker_67 rfl hl (by decide) rfl ?_
            clear hl; intro ls hl
            refine q_iinc (k := 2) (lv' := fun t => [(4, .int (q_I t)), (3, .int (q_I x12)), (0, .ref (z + 0))]) hx hb dX11_takeMarker_68 hl rfl (by decide) (fun _ => rfl) h ?_
            clear h hl; intro x13 ls r13 hl h
            refine lv_goto (tgt := 36) hx hb dX11_takeMarker_71 (by decide) ?_
            exact ih36 x12 x13 _ _ _ r12 r13 hP hS (lv_sub hl [2, 1, 0] rfl) h
          · clear h; intro j67 hj67 h
            refine q_jn_in h (fun J => ∀ (H : Heap) (locs : List Loc) (ls : Array Slot), q_P D dA q_kdM q_rhoM 22 z sz μ7 H → va_S (q_A z 22) s.heap H locs → lv_has ls 5 [(0, .ref (z + 0)), (4, .int (q_I x9))] → J = some μo → W p l e ({ frames := 1, cells := 0, slots := 0, locals := 22 } : Room) s m args below meth c H locs 0 0 Qf (F0 m 66 ls [])) ?_ ?_
            · clear h hl hP hS; intro  H locs ls  hP hS hl h
              refine lv_iconst (v := q_I 0) hx hb dX11_takeMarker_66 rfl ?_
              exact hj67 0 _ _ _ (q_r 0 rfl) hP hS (lv_sub hl [0, 1] rfl) h
            · clear h; intro j66 hj66 h
              refine q_zeq hx hb r8 (tgt := 66) dX11_takeMarker_46 (by decide) h ?_ ?_
              · clear h; intro g17 h
                exact hj66  _ _ _ hP hS (lv_sub hl [0, 2] rfl) h
              · clear h; intro g17 h
                refine lv_aload_n hx hb dX11_takeMarker_49 rfl (lv_at hl 0 rfl) ?_
                refine q_getR hx hb hts hown hK hP fd_RX11_7 (Nat.le_of_ble_eq_true rfl) q_kdM_0 rfl q_rhM_0_1 dX11_takeMarker_50 ?_
                refine lv_bipush (v := q_I 30) hx hb dX11_takeMarker_53 (by decide) ?_
                refine lv_iload hx hb dX11_takeMarker_55 (lv_at hl 2 rfl) ?_
                refine q_iadd hx hb dX11_takeMarker_57 h ?_
                clear h; intro x14 r14 h
                refine q_iald hx hb hK hP (Nat.le_of_ble_eq_true rfl) q_kdM_1 r14 dX11_takeMarker_58 h ?_
                clear h; intro x15 r15 h
                refine q_zlt hx hb r15 (tgt := 66) dX11_takeMarker_59 (by decide) h ?_ ?_
                · clear h; intro g16 h
                  exact hj66  _ _ _ hP hS (lv_sub hl [0, 2] rfl) h
                · clear h; intro g16 h
                  refine lv_iconst (v := q_I 1) hx hb dX11_takeMarker_62 rfl ?_
                  refine lv_goto (tgt := 67) hx hb dX11_takeMarker_63 (by decide) ?_
                  exact hj67 1 _ _ _ (q_r 1 rfl) hP hS (lv_sub hl [0, 2] rfl) h
    refine L36 _ ?_  _ 1 0 _ _ _ (q_r 1 rfl) (q_r 0 rfl) hP hS (lv_sub hl [2, 1, 0] rfl) h
    · clear h hl hP hS; intro x10 H locs ls r10 hP hS hl h
      refine lv_aload_n hx hb dX11_takeMarker_74 rfl (lv_at hl 0 rfl) ?_
      refine q_getR hx hb hts hown hK hP fd_RX11_7 (Nat.le_of_ble_eq_true rfl) q_kdM_0 rfl q_rhM_0_1 dX11_takeMarker_75 ?_
      refine lv_bipush (v := q_I 35) hx hb dX11_takeMarker_78 (by decide) ?_
      refine lv_iload_n hx hb dX11_takeMarker_80 rfl (lv_at hl 1 rfl) ?_
      refine q_jn_in h (fun J => ∀ (x19 : Int) (H : Heap) (locs : List Loc) (ls : Array Slot), q_R x19 → q_P D dA q_kdM q_rhoM 22 z sz μ7 H → va_S (q_A z 22) s.heap H locs → lv_has ls 5 [] → J x19 = some μo → W p l e ({ frames := 1, cells := 0, slots := 0, locals := 22 } : Room) s m args below meth c H locs 0 0 Qf (F0 m 96 ls [.int (q_I x19), .int (q_I 35), .ref (z + 1)])) ?_ ?_
      · clear h hl hP hS; intro x19 H locs ls r19 hP hS hl h
        refine q_iast hx hb hK hP hS hA (Nat.le_of_ble_eq_true rfl) q_kdM_1 (q_r 35 rfl) r19 dX11_takeMarker_96 h ?_
        clear h hP hS; intro μ20 H locs hP hS h
        rw [← hQ]
        exact q_retv hx hb hr hlocks hP hS h dX11_takeMarker_97
      · clear h; intro j96 hj96 h
        refine q_jn_in h (fun J => ∀ (H : Heap) (locs : List Loc) (ls : Array Slot), q_P D dA q_kdM q_rhoM 22 z sz μ7 H → va_S (q_A z 22) s.heap H locs → lv_has ls 5 [] → J = some μo → W p l e ({ frames := 1, cells := 0, slots := 0, locals := 22 } : Room) s m args below meth c H locs 0 0 Qf (F0 m 95 ls [.int (q_I 35), .ref (z + 1)])) ?_ ?_
        · clear h hl hP hS; intro  H locs ls  hP hS hl h
          refine lv_iconst (v := q_I 1) hx hb dX11_takeMarker_95 rfl ?_
          exact hj96 1 _ _ _ (q_r 1 rfl) hP hS (lv_sub hl [] rfl) h
        · clear h; intro j95 hj95 h
          refine q_zeq hx hb r10 (tgt := 95) dX11_takeMarker_81 (by decide) h ?_ ?_
          · clear h; intro g24 h
            exact hj95  _ _ _ hP hS (lv_sub hl [] rfl) h
          · clear h; intro g24 h
            refine lv_aload_n hx hb dX11_takeMarker_84 rfl (lv_at hl 0 rfl) ?_
            obtain ⟨x22, hv21, h⟩ := q_b_some h
            refine q_callV hx hb hml hts hown hK hP hS (As := []) (rest := [.int (q_I 35), .ref (z + 1)]) (st1 := [.int (q_I x22), .int (q_I 35), .ref (z + 1)]) cv_RX11_152 (c_M_markers l D dA hv21) (Nat.le_of_ble_eq_true rfl) q_kdM_0 rfl ⟨rfl, rfl, Nat.le_of_ble_eq_true rfl, Nat.le_of_ble_eq_true rfl⟩ ⟨Nat.le_refl _, Nat.le_refl _⟩ rfl hl.1 rfl (Nat.le_of_ble_eq_true rfl) rfl (fun _ g => g) dX11_takeMarker_85 ?_
            clear hP hS hv21; intro H locs r22 hP hS _
            refine q_zne hx hb r22 (tgt := 95) dX11_takeMarker_88 (by decide) h ?_ ?_
            · clear h; intro g23 h
              refine lv_iconst (v := q_I 2) hx hb dX11_takeMarker_91 rfl ?_
              refine lv_goto (tgt := 96) hx hb dX11_takeMarker_92 (by decide) ?_
              exact hj96 2 _ _ _ (q_r 2 rfl) hP hS (lv_sub hl [] rfl) h
            · clear h; intro g23 h
              exact hj95  _ _ _ hP hS (lv_sub hl [] rfl) h
  · clear h; intro j31 hj31 h
    refine q_zge hx hb r6 (tgt := 31) dX11_takeMarker_23 (by decide) h ?_ ?_
    · clear h; intro g27 h
      exact hj31 μ4 _ _ _ hP hS (lv_sub hl [0] rfl) h
    · clear h; intro g27 h
      refine lv_aload_n hx hb dX11_takeMarker_26 rfl (lv_at hl 0 rfl) ?_
      refine lv_iload_n hx hb dX11_takeMarker_27 rfl (lv_at hl 2 rfl) ?_
      obtain ⟨μ26, hv25, h⟩ := q_b_some h
      refine q_callV hx hb hml hts hown hK hP hS (As := [.int (q_I a1)]) (rest := []) (st1 := []) cv_RX11_149 (c_M_record l D dA ra1 hv25) (Nat.le_of_ble_eq_true rfl) q_kdM_0 rfl ⟨rfl, rfl, Nat.le_of_ble_eq_true rfl, Nat.le_of_ble_eq_true rfl⟩ ⟨Nat.le_refl _, Nat.le_refl _⟩ rfl hl.1 rfl (Nat.le_of_ble_eq_true rfl) rfl (fun _ g => g) dX11_takeMarker_28 ?_
      clear hP hS hv25; intro H locs _ hP hS _
      exact hj31 μ26 _ _ _ hP hS (lv_sub hl [0] rfl) h
set_option maxHeartbeats 4000000 in
set_option maxRecDepth 100000 in
theorem c_M_receiveNow (l : Launch) (D : va_G) (dA : Nat → ClassId) {z sz : Nat} {N : Nat} {a0 : Int} (ra0 : q_R a0) {a1 : Int} (ra1 : q_R a1) {a2 : Int} (ra2 : q_R a2) {μ : q_M} {xo : Int} {μo : q_M} (h : f_M_receiveNow N a0 a1 a2 μ = some (xo, μo)) : Met l yX11_receiveNow (q_wc yX11_receiveNow cX11_receiveNow 6 (some .int)) ({ frames := 2, cells := 0, slots := 0, locals := 53 } : Room) (va_Pc [.ref (z + 0), .int (q_I a0), .int (q_I a1), .int (q_I a2)] (q_B (q_P D dA q_kdM q_rhoM 22 z sz μ) D dA)) (q_Q (some (.int (q_I xo))) (q_R xo) (q_P D dA q_kdM q_rhoM 22 z sz μo) (q_A z 22)) 0 0 (q_A z 22) := by
  refine Met.ofW (cc := cX11_receiveNow) (maxL := 6) (ret := (some .int)) (by decide) rfl ?_
  intro p e s m args below meth c s₁ B hml hv
  obtain ⟨hargs, hP, hK⟩ := hv
  have hx := B.exec
  have hb := B.bytes
  have hr := B.returns
  have hts : ∀ w ∈ q_W, w.before args s = true := fun w hw => atoms_spec (ws := q_wc yX11_receiveNow cX11_receiveNow 6 (some .int)) B.pre w (List.mem_cons_of_mem _ hw)
  have hown : s.vm.findClass RX11 = some m.cls := findClass_of_methodNamed B.named
  have hlocks := B.notSynchronized
  have hS : va_S (q_A z 22) s.heap s.heap [] := va_S.rf
  have hA : ∀ k, k < 22 → q_A z 22 (z + k) := fun k hk => ⟨Nat.le_add_right z k, Nat.add_lt_add_left hk z⟩
  have hl := lv_entry [.ref (z + 0), .int (q_I a0), .int (q_I a1), .int (q_I a2)] (n := 6) (Nat.le_of_ble_eq_true rfl)
  refine W.eq (by rw [hargs, lg_entry_eq]) ?_
  generalize (lg_sl [.ref (z + 0), .int (q_I a0), .int (q_I a1), .int (q_I a2)] ++ List.replicate (6 - (lg_sl [.ref (z + 0), .int (q_I a0), .int (q_I a1), .int (q_I a2)]).length) Slot.unset).toArray = ls at hl ⊢
  have hl : lv_has ls 6 [(0, .ref (z + 0)), (1, .int (q_I a0)), (2, .int (q_I a1)), (3, .int (q_I a2))] := hl
  generalize hQ : MQ below _ args s 0 0 _ = Qf
  change W p l e ({ frames := 2, cells := 0, slots := 0, locals := 53 } : Room) s m args below meth c s.heap [] 0 0 Qf (F0 m 0 ls [])
  unfold f_M_receiveNow at h
  refine lv_aload_n hx hb dX11_receiveNow_0 rfl (lv_at hl 0 rfl) ?_
  refine lv_iload_n hx hb dX11_receiveNow_1 rfl (lv_at hl 3 rfl) ?_
  refine lv_iconst (v := q_I 2) hx hb dX11_receiveNow_2 rfl ?_
  obtain ⟨x2, hv1, h⟩ := q_b_some h
  refine q_callV hx hb hml hts hown hK hP hS (As := [.int (q_I a2), .int (q_I 2)]) (rest := []) (st1 := [.int (q_I x2)]) cv_RX11_114 (c_M_ofMessage l D dA ra2 (q_r 2 rfl) hv1) (Nat.le_of_ble_eq_true rfl) q_kdM_0 rfl ⟨rfl, rfl, Nat.le_of_ble_eq_true rfl, Nat.le_of_ble_eq_true rfl⟩ ⟨Nat.le_refl _, Nat.le_refl _⟩ rfl hl.1 rfl (Nat.le_of_ble_eq_true rfl) rfl (fun _ g => g) dX11_receiveNow_3 ?_
  clear hP hS hv1; intro H locs r2 hP hS _
  refine lv_istore (lv' := [(4, .int (q_I x2)), (0, .ref (z + 0)), (1, .int (q_I a0)), (2, .int (q_I a1)), (3, .int (q_I a2))]) hx hb dX11_receiveNow_6 hl (by decide) rfl ?_
  clear hl; intro ls hl
  refine lv_aload_n hx hb dX11_receiveNow_8 rfl (lv_at hl 1 rfl) ?_
  refine q_getR hx hb hts hown hK hP fd_RX11_7 (Nat.le_of_ble_eq_true rfl) q_kdM_0 rfl q_rhM_0_1 dX11_receiveNow_9 ?_
  refine lv_iconst (v := q_I 0) hx hb dX11_receiveNow_12 rfl ?_
  refine lv_iconst (v := q_I 2) hx hb dX11_receiveNow_13 rfl ?_
  refine lv_iload_n hx hb dX11_receiveNow_14 rfl (lv_at hl 2 rfl) ?_
  refine q_imul hx hb dX11_receiveNow_15 h ?_
  clear h; intro x3 r3 h
  refine q_iadd hx hb dX11_receiveNow_16 h ?_
  clear h; intro x4 r4 h
  refine lv_iload hx hb dX11_receiveNow_17 (lv_at hl 0 rfl) ?_
  refine q_iadd hx hb dX11_receiveNow_19 h ?_
  clear h; intro x5 r5 h
  refine q_iald hx hb hK hP (Nat.le_of_ble_eq_true rfl) q_kdM_1 r5 dX11_receiveNow_20 h ?_
  clear h; intro x6 r6 h
  refine lv_aload_n hx hb dX11_receiveNow_21 rfl (lv_at hl 1 rfl) ?_
  refine lv_iload_n hx hb dX11_receiveNow_22 rfl (lv_at hl 4 rfl) ?_
  refine lv_iconst (v := q_I 3) hx hb dX11_receiveNow_23 rfl ?_
  obtain ⟨x8, hv7, h⟩ := q_b_some h
  refine q_callV hx hb hml hts hown hK hP hS (As := [.int (q_I a2), .int (q_I 3)]) (rest := [.int (q_I x6)]) (st1 := [.int (q_I x8), .int (q_I x6)]) cv_RX11_114 (c_M_ofMessage l D dA ra2 (q_r 3 rfl) hv7) (Nat.le_of_ble_eq_true rfl) q_kdM_0 rfl ⟨rfl, rfl, Nat.le_of_ble_eq_true rfl, Nat.le_of_ble_eq_true rfl⟩ ⟨Nat.le_refl _, Nat.le_refl _⟩ rfl hl.1 rfl (Nat.le_of_ble_eq_true rfl) rfl (fun _ g => g) dX11_receiveNow_24 ?_
  clear hP hS hv7; intro H locs r8 hP hS _
  refine q_iadd hx hb dX11_receiveNow_27 h ?_
  clear h; intro x9 r9 h
  refine lv_istore (lv' := [(5, .int (q_I x9)), (4, .int (q_I x2)), (0, .ref (z + 0)), (1, .int (q_I a0)), (2, .int (q_I a1)), (3, .int (q_I a2))]) hx hb dX11_receiveNow_28 hl (by decide) rfl ?_
  clear hl; intro ls hl
  refine lv_iload hx hb dX11_receiveNow_30 (lv_at hl 0 rfl) ?_
  refine lv_sipush (v := q_I 1000) hx hb dX11_receiveNow_32 (by decide) ?_
  refine q_cle hx hb r9 (q_r 1000 rfl) (tgt := 41) dX11_receiveNow_35 (by decide) h ?_ ?_
  · clear h; intro g26 h
    refine lv_aload_n hx hb dX11_receiveNow_41 rfl (lv_at hl 2 rfl) ?_
    refine q_getR hx hb hts hown hK hP fd_RX11_7 (Nat.le_of_ble_eq_true rfl) q_kdM_0 rfl q_rhM_0_1 dX11_receiveNow_42 ?_
    refine lv_bipush (v := q_I 36) hx hb dX11_receiveNow_45 (by decide) ?_
    refine q_iald hx hb hK hP (Nat.le_of_ble_eq_true rfl) q_kdM_1 (q_r 36 rfl) dX11_receiveNow_47 h ?_
    clear h; intro x10 r10 h
    refine lv_bipush (v := q_I 100) hx hb dX11_receiveNow_48 (by decide) ?_
    refine q_cne hx hb r10 (q_r 100 rfl) (tgt := 56) dX11_receiveNow_50 (by decide) h ?_ ?_
    · clear h; intro g25 h
      refine lv_ldc hx hb hown (hts _ ck_RX11_126) dX11_receiveNow_53 ?_
      rw [← hQ]
      exact q_ret2 hx hb hr hlocks hP hS (q_r (-100005) rfl) h dX11_receiveNow_55
    · clear h; intro g25 h
      refine lv_aload_n hx hb dX11_receiveNow_56 rfl (lv_at hl 2 rfl) ?_
      refine q_getR hx hb hts hown hK hP fd_RX11_7 (Nat.le_of_ble_eq_true rfl) q_kdM_0 rfl q_rhM_0_1 dX11_receiveNow_57 ?_
      refine lv_iconst (v := q_I 0) hx hb dX11_receiveNow_60 rfl ?_
      refine lv_iconst (v := q_I 2) hx hb dX11_receiveNow_61 rfl ?_
      refine lv_iload_n hx hb dX11_receiveNow_62 rfl (lv_at hl 3 rfl) ?_
      refine q_imul hx hb dX11_receiveNow_63 h ?_
      clear h; intro x11 r11 h
      refine q_iadd hx hb dX11_receiveNow_64 h ?_
      clear h; intro x12 r12 h
      refine lv_iload hx hb dX11_receiveNow_65 (lv_at hl 1 rfl) ?_
      refine q_iadd hx hb dX11_receiveNow_67 h ?_
      clear h; intro x13 r13 h
      refine lv_iload hx hb dX11_receiveNow_68 (lv_at hl 0 rfl) ?_
      refine q_iast hx hb hK hP hS hA (Nat.le_of_ble_eq_true rfl) q_kdM_1 r13 r9 dX11_receiveNow_70 h ?_
      clear h hP hS; intro μ14 H locs hP hS h
      refine lv_aload_n hx hb dX11_receiveNow_71 rfl (lv_at hl 2 rfl) ?_
      refine q_getR hx hb hts hown hK hP fd_RX11_7 (Nat.le_of_ble_eq_true rfl) q_kdM_0 rfl q_rhM_0_1 dX11_receiveNow_72 ?_
      refine lv_sipush (v := q_I 1264) hx hb dX11_receiveNow_75 (by decide) ?_
      refine lv_bipush (v := q_I 6) hx hb dX11_receiveNow_78 (by decide) ?_
      refine lv_iload_n hx hb dX11_receiveNow_80 rfl (lv_at hl 5 rfl) ?_
      refine q_imul hx hb dX11_receiveNow_81 h ?_
      clear h; intro x15 r15 h
      refine q_iadd hx hb dX11_receiveNow_82 h ?_
      clear h; intro x16 r16 h
      refine lv_iconst (v := q_I 5) hx hb dX11_receiveNow_83 rfl ?_
      refine q_iadd hx hb dX11_receiveNow_84 h ?_
      clear h; intro x17 r17 h
      refine lv_aload_n hx hb dX11_receiveNow_85 rfl (lv_at hl 2 rfl) ?_
      refine q_getR hx hb hts hown hK hP fd_RX11_7 (Nat.le_of_ble_eq_true rfl) q_kdM_0 rfl q_rhM_0_1 dX11_receiveNow_86 ?_
      refine lv_bipush (v := q_I 36) hx hb dX11_receiveNow_89 (by decide) ?_
      refine q_iald hx hb hK hP (Nat.le_of_ble_eq_true rfl) q_kdM_1 (q_r 36 rfl) dX11_receiveNow_91 h ?_
      clear h; intro x18 r18 h
      refine q_iast hx hb hK hP hS hA (Nat.le_of_ble_eq_true rfl) q_kdM_1 r17 r18 dX11_receiveNow_92 h ?_
      clear h hP hS; intro μ19 H locs hP hS h
      refine lv_aload_n hx hb dX11_receiveNow_93 rfl (lv_at hl 2 rfl) ?_
      refine lv_iload_n hx hb dX11_receiveNow_94 rfl (lv_at hl 3 rfl) ?_
      refine lv_iconst (v := q_I 2) hx hb dX11_receiveNow_95 rfl ?_
      refine lv_iload hx hb dX11_receiveNow_96 (lv_at hl 1 rfl) ?_
      refine lv_aload_n hx hb dX11_receiveNow_98 rfl (lv_at hl 2 rfl) ?_
      refine lv_iload_n hx hb dX11_receiveNow_99 rfl (lv_at hl 5 rfl) ?_
      refine lv_iconst (v := q_I 3) hx hb dX11_receiveNow_100 rfl ?_
      obtain ⟨x21, hv20, h⟩ := q_b_some h
      refine q_callV hx hb hml hts hown hK hP hS (As := [.int (q_I a2), .int (q_I 3)]) (rest := [.int (q_I x2), .int (q_I 2), .int (q_I a0), .ref (z + 0)]) (st1 := [.int (q_I x21), .int (q_I x2), .int (q_I 2), .int (q_I a0), .ref (z + 0)]) cv_RX11_114 (c_M_ofMessage l D dA ra2 (q_r 3 rfl) hv20) (Nat.le_of_ble_eq_true rfl) q_kdM_0 rfl ⟨rfl, rfl, Nat.le_of_ble_eq_true rfl, Nat.le_of_ble_eq_true rfl⟩ ⟨Nat.le_refl _, Nat.le_refl _⟩ rfl hl.1 rfl (Nat.le_of_ble_eq_true rfl) rfl (fun _ g => g) dX11_receiveNow_101 ?_
      clear hP hS hv20; intro H locs r21 hP hS _
      refine lv_iload_n hx hb dX11_receiveNow_104 rfl (lv_at hl 4 rfl) ?_
      refine lv_iload_n hx hb dX11_receiveNow_105 rfl (lv_at hl 5 rfl) ?_
      obtain ⟨x23, μ24, hv22, h⟩ := q_b2_some h
      refine q_callV hx hb hml hts hown hK hP hS (As := [.int (q_I a0), .int (q_I 2), .int (q_I x2), .int (q_I x21), .int (q_I a1), .int (q_I a2)]) (rest := []) (st1 := [.int (q_I x23)]) cv_RX11_128 (c_M_happens l D dA ra0 (q_r 2 rfl) r2 r21 ra1 ra2 hv22) (Nat.le_of_ble_eq_true rfl) q_kdM_0 rfl ⟨rfl, rfl, Nat.le_of_ble_eq_true rfl, Nat.le_of_ble_eq_true rfl⟩ ⟨Nat.le_refl _, Nat.le_refl _⟩ rfl hl.1 rfl (Nat.le_of_ble_eq_true rfl) rfl (fun _ g => g) dX11_receiveNow_106 ?_
      clear hP hS hv22; intro H locs r23 hP hS _
      rw [← hQ]
      exact q_ret2 hx hb hr hlocks hP hS r23 h dX11_receiveNow_109
  · clear h; intro g26 h
    refine lv_ldc hx hb hown (hts _ ck_RX11_125) dX11_receiveNow_38 ?_
    rw [← hQ]
    exact q_ret2 hx hb hr hlocks hP hS (q_r (-100004) rfl) h dX11_receiveNow_40
set_option maxHeartbeats 4000000 in
set_option maxRecDepth 100000 in
theorem c_M_receive (l : Launch) (D : va_G) (dA : Nat → ClassId) {z sz : Nat} {N : Nat} {a0 : Int} (ra0 : q_R a0) {a1 : Int} (ra1 : q_R a1) {μ : q_M} {xo : Int} {μo : q_M} (h : f_M_receive N a0 a1 μ = some (xo, μo)) : Met l yX11_receive (q_wc yX11_receive cX11_receive 5 (some .int)) ({ frames := 3, cells := 0, slots := 0, locals := 78 } : Room) (va_Pc [.ref (z + 0), .int (q_I a0), .int (q_I a1)] (q_B (q_P D dA q_kdM q_rhoM 22 z sz μ) D dA)) (q_Q (some (.int (q_I xo))) (q_R xo) (q_P D dA q_kdM q_rhoM 22 z sz μo) (q_A z 22)) 0 0 (q_A z 22) := by
  refine Met.ofW (cc := cX11_receive) (maxL := 5) (ret := (some .int)) (by decide) rfl ?_
  intro p e s m args below meth c s₁ B hml hv
  obtain ⟨hargs, hP, hK⟩ := hv
  have hx := B.exec
  have hb := B.bytes
  have hr := B.returns
  have hts : ∀ w ∈ q_W, w.before args s = true := fun w hw => atoms_spec (ws := q_wc yX11_receive cX11_receive 5 (some .int)) B.pre w (List.mem_cons_of_mem _ hw)
  have hown : s.vm.findClass RX11 = some m.cls := findClass_of_methodNamed B.named
  have hlocks := B.notSynchronized
  have hS : va_S (q_A z 22) s.heap s.heap [] := va_S.rf
  have hA : ∀ k, k < 22 → q_A z 22 (z + k) := fun k hk => ⟨Nat.le_add_right z k, Nat.add_lt_add_left hk z⟩
  have hl := lv_entry [.ref (z + 0), .int (q_I a0), .int (q_I a1)] (n := 5) (Nat.le_of_ble_eq_true rfl)
  refine W.eq (by rw [hargs, lg_entry_eq]) ?_
  generalize (lg_sl [.ref (z + 0), .int (q_I a0), .int (q_I a1)] ++ List.replicate (5 - (lg_sl [.ref (z + 0), .int (q_I a0), .int (q_I a1)]).length) Slot.unset).toArray = ls at hl ⊢
  have hl : lv_has ls 5 [(0, .ref (z + 0)), (1, .int (q_I a0)), (2, .int (q_I a1))] := hl
  generalize hQ : MQ below _ args s 0 0 _ = Qf
  change W p l e ({ frames := 3, cells := 0, slots := 0, locals := 78 } : Room) s m args below meth c s.heap [] 0 0 Qf (F0 m 0 ls [])
  unfold f_M_receive at h
  refine lv_aload_n hx hb dX11_receive_0 rfl (lv_at hl 0 rfl) ?_
  refine lv_iload_n hx hb dX11_receive_1 rfl (lv_at hl 2 rfl) ?_
  refine lv_iload_n hx hb dX11_receive_2 rfl (lv_at hl 1 rfl) ?_
  obtain ⟨x2, hv1, h⟩ := q_b_some h
  refine q_callV hx hb hml hts hown hK hP hS (As := [.int (q_I a1), .int (q_I a0)]) (rest := []) (st1 := [.int (q_I x2)]) cv_RX11_142 (c_M_noChannel l D dA ra1 ra0 hv1) (Nat.le_of_ble_eq_true rfl) q_kdM_0 rfl ⟨rfl, rfl, Nat.le_of_ble_eq_true rfl, Nat.le_of_ble_eq_true rfl⟩ ⟨Nat.le_refl _, Nat.le_refl _⟩ rfl hl.1 rfl (Nat.le_of_ble_eq_true rfl) rfl (fun _ g => g) dX11_receive_3 ?_
  clear hP hS hv1; intro H locs r2 hP hS _
  refine q_zeq hx hb r2 (tgt := 12) dX11_receive_6 (by decide) h ?_ ?_
  · clear h; intro g20 h
    refine lv_aload_n hx hb dX11_receive_12 rfl (lv_at hl 0 rfl) ?_
    refine lv_iload_n hx hb dX11_receive_13 rfl (lv_at hl 2 rfl) ?_
    refine lv_iload_n hx hb dX11_receive_14 rfl (lv_at hl 1 rfl) ?_
    refine lv_iconst (v := q_I 0) hx hb dX11_receive_15 rfl ?_
    obtain ⟨x4, hv3, h⟩ := q_b_some h
    refine q_callV hx hb hml hts hown hK hP hS (As := [.int (q_I a1), .int (q_I a0), .int (q_I 0)]) (rest := []) (st1 := [.int (q_I x4)]) cv_RX11_118 (c_M_waitingFrom l D dA ra1 ra0 (q_r 0 rfl) hv3) (Nat.le_of_ble_eq_true rfl) q_kdM_0 rfl ⟨rfl, rfl, Nat.le_of_ble_eq_true rfl, Nat.le_of_ble_eq_true rfl⟩ ⟨Nat.le_refl _, Nat.le_refl _⟩ rfl hl.1 rfl (Nat.le_of_ble_eq_true rfl) rfl (fun _ g => g) dX11_receive_16 ?_
    clear hP hS hv3; intro H locs r4 hP hS _
    refine lv_istore_n (lv' := [(3, .int (q_I x4)), (0, .ref (z + 0)), (1, .int (q_I a0)), (2, .int (q_I a1))]) hx hb dX11_receive_19 rfl hl (by decide) rfl ?_
    clear hl; intro ls hl
    refine lv_aload_n hx hb dX11_receive_20 rfl (lv_at hl 1 rfl) ?_
    refine q_getR hx hb hts hown hK hP fd_RX11_7 (Nat.le_of_ble_eq_true rfl) q_kdM_0 rfl q_rhM_0_1 dX11_receive_21 ?_
    refine lv_bipush (v := q_I 38) hx hb dX11_receive_24 (by decide) ?_
    refine lv_iconst (v := q_I 5) hx hb dX11_receive_26 rfl ?_
    refine lv_iload_n hx hb dX11_receive_27 rfl (lv_at hl 3 rfl) ?_
    refine q_imul hx hb dX11_receive_28 h ?_
    clear h; intro x5 r5 h
    refine q_iadd hx hb dX11_receive_29 h ?_
    clear h; intro x6 r6 h
    refine lv_iload_n hx hb dX11_receive_30 rfl (lv_at hl 2 rfl) ?_
    refine q_iadd hx hb dX11_receive_31 h ?_
    clear h; intro x7 r7 h
    refine q_iald hx hb hK hP (Nat.le_of_ble_eq_true rfl) q_kdM_1 r7 dX11_receive_32 h ?_
    clear h; intro x8 r8 h
    refine lv_istore (lv' := [(4, .int (q_I x8)), (3, .int (q_I x4)), (0, .ref (z + 0)), (1, .int (q_I a0)), (2, .int (q_I a1))]) hx hb dX11_receive_33 hl (by decide) rfl ?_
    clear hl; intro ls hl
    refine lv_iload hx hb dX11_receive_35 (lv_at hl 0 rfl) ?_
    refine q_jn_in h (fun J => ∀ (H : Heap) (locs : List Loc) (ls : Array Slot), q_P D dA q_kdM q_rhoM 22 z sz μ H → va_S (q_A z 22) s.heap H locs → lv_has ls 5 [(0, .ref (z + 0)), (1, .int (q_I a0)), (2, .int (q_I a1)), (3, .int (q_I x4))] → J = some (xo, μo) → W p l e ({ frames := 3, cells := 0, slots := 0, locals := 78 } : Room) s m args below meth c H locs 0 0 Qf (F0 m 56 ls [])) ?_ ?_
    · clear h hl hP hS; intro  H locs ls  hP hS hl h
      refine lv_iload_n hx hb dX11_receive_56 rfl (lv_at hl 3 rfl) ?_
      refine lv_aload_n hx hb dX11_receive_57 rfl (lv_at hl 0 rfl) ?_
      refine q_getR hx hb hts hown hK hP fd_RX11_7 (Nat.le_of_ble_eq_true rfl) q_kdM_0 rfl q_rhM_0_1 dX11_receive_58 ?_
      refine lv_bipush (v := q_I 37) hx hb dX11_receive_61 (by decide) ?_
      refine q_iald hx hb hK hP (Nat.le_of_ble_eq_true rfl) q_kdM_1 (q_r 37 rfl) dX11_receive_63 h ?_
      clear h; intro x9 r9 h
      refine q_jn_in h (fun J => ∀ (x10 : Int) (μ11 : q_M) (H : Heap) (locs : List Loc) (ls : Array Slot), q_R x10 → q_P D dA q_kdM q_rhoM 22 z sz μ11 H → va_S (q_A z 22) s.heap H locs → lv_has ls 5 [] → J x10 μ11 = some (xo, μo) → W p l e ({ frames := 3, cells := 0, slots := 0, locals := 78 } : Room) s m args below meth c H locs 0 0 Qf (F0 m 79 ls [.int (q_I x10)])) ?_ ?_
      · clear h hl hP hS; intro x10 μ11 H locs ls r10 hP hS hl h
        rw [← hQ]
        exact q_ret2 hx hb hr hlocks hP hS r10 h dX11_receive_79
      · clear h; intro j79 hj79 h
        refine q_cne hx hb r4 r9 (tgt := 72) dX11_receive_64 (by decide) h ?_ ?_
        · clear h; intro g15 h
          refine lv_ldc hx hb hown (hts _ ck_RX11_127) dX11_receive_67 ?_
          refine lv_goto (tgt := 79) hx hb dX11_receive_69 (by decide) ?_
          exact hj79 ((-100006)) μ _ _ _ (q_r (-100006) rfl) hP hS (lv_sub hl [] rfl) h
        · clear h; intro g15 h
          refine lv_aload_n hx hb dX11_receive_72 rfl (lv_at hl 0 rfl) ?_
          refine lv_iload_n hx hb dX11_receive_73 rfl (lv_at hl 1 rfl) ?_
          refine lv_iload_n hx hb dX11_receive_74 rfl (lv_at hl 2 rfl) ?_
          refine lv_iload_n hx hb dX11_receive_75 rfl (lv_at hl 3 rfl) ?_
          obtain ⟨x13, μ14, hv12, h⟩ := q_b2_some h
          refine q_callV hx hb hml hts hown hK hP hS (As := [.int (q_I a0), .int (q_I a1), .int (q_I x4)]) (rest := []) (st1 := [.int (q_I x13)]) cv_RX11_160 (c_M_receiveNow l D dA ra0 ra1 r4 hv12) (Nat.le_of_ble_eq_true rfl) q_kdM_0 rfl ⟨rfl, rfl, Nat.le_of_ble_eq_true rfl, Nat.le_of_ble_eq_true rfl⟩ ⟨Nat.le_refl _, Nat.le_refl _⟩ rfl hl.1 rfl (Nat.le_of_ble_eq_true rfl) rfl (fun _ g => g) dX11_receive_76 ?_
          clear hP hS hv12; intro H locs r13 hP hS _
          exact hj79 x13 μ14 _ _ _ r13 hP hS (lv_sub hl [] rfl) h
    · clear h; intro j56 hj56 h
      refine q_zlt hx hb r8 (tgt := 56) dX11_receive_37 (by decide) h ?_ ?_
      · clear h; intro g19 h
        exact hj56  _ _ _ hP hS (lv_sub hl [2, 3, 4, 1] rfl) h
      · clear h; intro g19 h
        refine lv_iload_n hx hb dX11_receive_40 rfl (lv_at hl 1 rfl) ?_
        refine lv_iload hx hb dX11_receive_41 (lv_at hl 0 rfl) ?_
        refine q_clt hx hb r4 r8 (tgt := 56) dX11_receive_43 (by decide) h ?_ ?_
        · clear h; intro g18 h
          exact hj56  _ _ _ hP hS (lv_sub hl [2, 3, 4, 1] rfl) h
        · clear h; intro g18 h
          refine lv_aload_n hx hb dX11_receive_46 rfl (lv_at hl 2 rfl) ?_
          refine lv_iload_n hx hb dX11_receive_47 rfl (lv_at hl 4 rfl) ?_
          refine lv_iload_n hx hb dX11_receive_48 rfl (lv_at hl 3 rfl) ?_
          obtain ⟨μ17, hv16, h⟩ := q_b_some h
          refine q_callV hx hb hml hts hown hK hP hS (As := [.int (q_I a1), .int (q_I a0)]) (rest := []) (st1 := []) cv_RX11_156 (c_M_takeMarker l D dA ra1 ra0 hv16) (Nat.le_of_ble_eq_true rfl) q_kdM_0 rfl ⟨rfl, rfl, Nat.le_of_ble_eq_true rfl, Nat.le_of_ble_eq_true rfl⟩ ⟨Nat.le_refl _, Nat.le_refl _⟩ rfl hl.1 rfl (Nat.le_of_ble_eq_true rfl) rfl (fun _ g => g) dX11_receive_49 ?_
          clear hP hS hv16; intro H locs _ hP hS _
          refine lv_sipush (v := q_I 1000) hx hb dX11_receive_52 (by decide) ?_
          rw [← hQ]
          exact q_ret2 hx hb hr hlocks hP hS (q_r 1000 rfl) h dX11_receive_55
  · clear h; intro g20 h
    refine lv_ldc hx hb hown (hts _ ck_RX11_112) dX11_receive_9 ?_
    rw [← hQ]
    exact q_ret2 hx hb hr hlocks hP hS (q_r (-100001) rfl) h dX11_receive_11
set_option maxHeartbeats 4000000 in
set_option maxRecDepth 100000 in
theorem c_M_stock (l : Launch) (D : va_G) (dA : Nat → ClassId) {z sz : Nat} {a0 : Int} (ra0 : q_R a0) {a1 : Int} (ra1 : q_R a1) {μ : q_M} {xo : Int} (h : f_M_stock a0 a1 μ = some xo) : Met l yX11_stock (q_wc yX11_stock cX11_stock 3 (some .int)) ({ frames := 3, cells := 0, slots := 0, locals := 65 } : Room) (va_Pc [.ref (z + 0), .int (q_I a0), .int (q_I a1)] (q_B (q_P D dA q_kdM q_rhoM 22 z sz μ) D dA)) (q_Q (some (.int (q_I xo))) (q_R xo) (q_P D dA q_kdM q_rhoM 22 z sz μ) (q_A z 22)) 0 0 (q_A z 22) := by
  refine Met.ofW (cc := cX11_stock) (maxL := 3) (ret := (some .int)) (by decide) rfl ?_
  intro p e s m args below meth c s₁ B hml hv
  obtain ⟨hargs, hP, hK⟩ := hv
  have hx := B.exec
  have hb := B.bytes
  have hr := B.returns
  have hts : ∀ w ∈ q_W, w.before args s = true := fun w hw => atoms_spec (ws := q_wc yX11_stock cX11_stock 3 (some .int)) B.pre w (List.mem_cons_of_mem _ hw)
  have hown : s.vm.findClass RX11 = some m.cls := findClass_of_methodNamed B.named
  have hlocks := B.notSynchronized
  have hS : va_S (q_A z 22) s.heap s.heap [] := va_S.rf
  have hA : ∀ k, k < 22 → q_A z 22 (z + k) := fun k hk => ⟨Nat.le_add_right z k, Nat.add_lt_add_left hk z⟩
  have hl := lv_entry [.ref (z + 0), .int (q_I a0), .int (q_I a1)] (n := 3) (Nat.le_of_ble_eq_true rfl)
  refine W.eq (by rw [hargs, lg_entry_eq]) ?_
  generalize (lg_sl [.ref (z + 0), .int (q_I a0), .int (q_I a1)] ++ List.replicate (3 - (lg_sl [.ref (z + 0), .int (q_I a0), .int (q_I a1)]).length) Slot.unset).toArray = ls at hl ⊢
  have hl : lv_has ls 3 [(0, .ref (z + 0)), (1, .int (q_I a0)), (2, .int (q_I a1))] := hl
  generalize hQ : MQ below _ args s 0 0 _ = Qf
  change W p l e ({ frames := 3, cells := 0, slots := 0, locals := 65 } : Room) s m args below meth c s.heap [] 0 0 Qf (F0 m 0 ls [])
  unfold f_M_stock at h
  refine lv_aload_n hx hb dX11_stock_0 rfl (lv_at hl 0 rfl) ?_
  refine lv_iload_n hx hb dX11_stock_1 rfl (lv_at hl 1 rfl) ?_
  refine lv_iload_n hx hb dX11_stock_2 rfl (lv_at hl 2 rfl) ?_
  obtain ⟨x2, hv1, h⟩ := q_b_some h
  refine q_callV hx hb hml hts hown hK hP hS (As := [.int (q_I a0), .int (q_I a1)]) (rest := []) (st1 := [.int (q_I x2)]) cv_RX11_108 (c_M_noStock l D dA ra0 ra1 hv1) (Nat.le_of_ble_eq_true rfl) q_kdM_0 rfl ⟨rfl, rfl, Nat.le_of_ble_eq_true rfl, Nat.le_of_ble_eq_true rfl⟩ ⟨Nat.le_refl _, Nat.le_refl _⟩ rfl hl.1 rfl (Nat.le_of_ble_eq_true rfl) rfl (fun _ g => g) dX11_stock_3 ?_
  clear hP hS hv1; intro H locs r2 hP hS _
  refine q_jn_in h (fun J => ∀ (x3 : Int) (H : Heap) (locs : List Loc) (ls : Array Slot), q_R x3 → q_P D dA q_kdM q_rhoM 22 z sz μ H → va_S (q_A z 22) s.heap H locs → lv_has ls 3 [] → J x3 = some xo → W p l e ({ frames := 3, cells := 0, slots := 0, locals := 65 } : Room) s m args below meth c H locs 0 0 Qf (F0 m 26 ls [.int (q_I x3)])) ?_ ?_
  · clear h hl hP hS; intro x3 H locs ls r3 hP hS hl h
    rw [← hQ]
    exact q_ret1 hx hb hr hlocks hP hS r3 h dX11_stock_26
  · clear h; intro j26 hj26 h
    refine q_zeq hx hb r2 (tgt := 14) dX11_stock_6 (by decide) h ?_ ?_
    · clear h; intro g8 h
      refine lv_aload_n hx hb dX11_stock_14 rfl (lv_at hl 0 rfl) ?_
      refine q_getR hx hb hts hown hK hP fd_RX11_7 (Nat.le_of_ble_eq_true rfl) q_kdM_0 rfl q_rhM_0_1 dX11_stock_15 ?_
      refine lv_iconst (v := q_I 0) hx hb dX11_stock_18 rfl ?_
      refine lv_iconst (v := q_I 2) hx hb dX11_stock_19 rfl ?_
      refine lv_iload_n hx hb dX11_stock_20 rfl (lv_at hl 1 rfl) ?_
      refine q_imul hx hb dX11_stock_21 h ?_
      clear h; intro x4 r4 h
      refine q_iadd hx hb dX11_stock_22 h ?_
      clear h; intro x5 r5 h
      refine lv_iload_n hx hb dX11_stock_23 rfl (lv_at hl 2 rfl) ?_
      refine q_iadd hx hb dX11_stock_24 h ?_
      clear h; intro x6 r6 h
      refine q_iald hx hb hK hP (Nat.le_of_ble_eq_true rfl) q_kdM_1 r6 dX11_stock_25 h ?_
      clear h; intro x7 r7 h
      exact hj26 x7 _ _ _ r7 hP hS (lv_sub hl [] rfl) h
    · clear h; intro g8 h
      refine lv_ldc hx hb hown (hts _ ck_RX11_112) dX11_stock_9 ?_
      refine lv_goto (tgt := 26) hx hb dX11_stock_11 (by decide) ?_
      exact hj26 ((-100001)) _ _ _ (q_r (-100001) rfl) hP hS (lv_sub hl [] rfl) h
set_option maxHeartbeats 4000000 in
set_option maxRecDepth 100000 in
theorem c_M_inChannel (l : Launch) (D : va_G) (dA : Nat → ClassId) {z sz : Nat} {N : Nat} {a0 : Int} (ra0 : q_R a0) {a1 : Int} (ra1 : q_R a1) {a2 : Int} (ra2 : q_R a2) {a3 : Int} (ra3 : q_R a3) {μ : q_M} {xo : Int} (h : f_M_inChannel N a0 a1 a2 a3 μ = some xo) : Met l yX11_inChannel (q_wc yX11_inChannel cX11_inChannel 9 (some .int)) ({ frames := 3, cells := 0, slots := 0, locals := 65 } : Room) (va_Pc [.ref (z + 0), .int (q_I a0), .int (q_I a1), .int (q_I a2), .int (q_I a3)] (q_B (q_P D dA q_kdM q_rhoM 22 z sz μ) D dA)) (q_Q (some (.int (q_I xo))) (q_R xo) (q_P D dA q_kdM q_rhoM 22 z sz μ) (q_A z 22)) 0 0 (q_A z 22) := by
  refine Met.ofW (cc := cX11_inChannel) (maxL := 9) (ret := (some .int)) (by decide) rfl ?_
  intro p e s m args below meth c s₁ B hml hv
  obtain ⟨hargs, hP, hK⟩ := hv
  have hx := B.exec
  have hb := B.bytes
  have hr := B.returns
  have hts : ∀ w ∈ q_W, w.before args s = true := fun w hw => atoms_spec (ws := q_wc yX11_inChannel cX11_inChannel 9 (some .int)) B.pre w (List.mem_cons_of_mem _ hw)
  have hown : s.vm.findClass RX11 = some m.cls := findClass_of_methodNamed B.named
  have hlocks := B.notSynchronized
  have hS : va_S (q_A z 22) s.heap s.heap [] := va_S.rf
  have hA : ∀ k, k < 22 → q_A z 22 (z + k) := fun k hk => ⟨Nat.le_add_right z k, Nat.add_lt_add_left hk z⟩
  have hl := lv_entry [.ref (z + 0), .int (q_I a0), .int (q_I a1), .int (q_I a2), .int (q_I a3)] (n := 9) (Nat.le_of_ble_eq_true rfl)
  refine W.eq (by rw [hargs, lg_entry_eq]) ?_
  generalize (lg_sl [.ref (z + 0), .int (q_I a0), .int (q_I a1), .int (q_I a2), .int (q_I a3)] ++ List.replicate (9 - (lg_sl [.ref (z + 0), .int (q_I a0), .int (q_I a1), .int (q_I a2), .int (q_I a3)]).length) Slot.unset).toArray = ls at hl ⊢
  have hl : lv_has ls 9 [(0, .ref (z + 0)), (1, .int (q_I a0)), (2, .int (q_I a1)), (3, .int (q_I a2)), (4, .int (q_I a3))] := hl
  generalize hQ : MQ below _ args s 0 0 _ = Qf
  change W p l e ({ frames := 3, cells := 0, slots := 0, locals := 65 } : Room) s m args below meth c s.heap [] 0 0 Qf (F0 m 0 ls [])
  unfold f_M_inChannel at h
  refine lv_aload_n hx hb dX11_inChannel_0 rfl (lv_at hl 0 rfl) ?_
  refine lv_iload_n hx hb dX11_inChannel_1 rfl (lv_at hl 1 rfl) ?_
  refine lv_iload_n hx hb dX11_inChannel_2 rfl (lv_at hl 2 rfl) ?_
  obtain ⟨x2, hv1, h⟩ := q_b_some h
  refine q_callV hx hb hml hts hown hK hP hS (As := [.int (q_I a0), .int (q_I a1)]) (rest := []) (st1 := [.int (q_I x2)]) cv_RX11_142 (c_M_noChannel l D dA ra0 ra1 hv1) (Nat.le_of_ble_eq_true rfl) q_kdM_0 rfl ⟨rfl, rfl, Nat.le_of_ble_eq_true rfl, Nat.le_of_ble_eq_true rfl⟩ ⟨Nat.le_refl _, Nat.le_refl _⟩ rfl hl.1 rfl (Nat.le_of_ble_eq_true rfl) rfl (fun _ g => g) dX11_inChannel_3 ?_
  clear hP hS hv1; intro H locs r2 hP hS _
  refine q_zeq hx hb r2 (tgt := 12) dX11_inChannel_6 (by decide) h ?_ ?_
  · clear h; intro g49 h
    refine lv_iload_n hx hb dX11_inChannel_12 rfl (lv_at hl 3 rfl) ?_
    refine q_jn_in h (fun J => ∀ (H : Heap) (locs : List Loc) (ls : Array Slot), q_P D dA q_kdM q_rhoM 22 z sz μ H → va_S (q_A z 22) s.heap H locs → lv_has ls 9 [] → J = some xo → W p l e ({ frames := 3, cells := 0, slots := 0, locals := 65 } : Room) s m args below meth c H locs 0 0 Qf (F0 m 26 ls [])) ?_ ?_
    · clear h hl hP hS; intro  H locs ls  hP hS hl h
      refine lv_ldc hx hb hown (hts _ ck_RX11_103) dX11_inChannel_26 ?_
      rw [← hQ]
      exact q_ret1 hx hb hr hlocks hP hS (q_r (-100002) rfl) h dX11_inChannel_28
    · clear h; intro j26 hj26 h
      refine q_zlt hx hb ra2 (tgt := 26) dX11_inChannel_13 (by decide) h ?_ ?_
      · clear h; intro g48 h
        exact hj26  _ _ _ hP hS (lv_sub hl [] rfl) h
      · clear h; intro g48 h
        refine lv_iload hx hb dX11_inChannel_16 (lv_at hl 4 rfl) ?_
        refine lv_iconst (v := q_I 0) hx hb dX11_inChannel_18 rfl ?_
        refine lv_iconst (v := q_I 2) hx hb dX11_inChannel_19 rfl ?_
        obtain ⟨x4, hv3, h⟩ := q_b_some h
        refine q_callS hx hb hml hts hown hK hP hS (As := [.int (q_I a3), .int (q_I 0), .int (q_I 2)]) (rest := []) (st1 := [.int (q_I x4)]) cs_RX11_99 (c_M_in l D dA ra3 (q_r 0 rfl) (q_r 2 rfl) hv3) ⟨rfl, rfl, Nat.le_of_ble_eq_true rfl, Nat.le_of_ble_eq_true rfl⟩ ⟨Nat.le_refl _, Nat.le_refl _⟩ rfl hl.1 rfl (Nat.le_of_ble_eq_true rfl) rfl (fun _ g => g) dX11_inChannel_20 ?_
        clear hP hS hv3; intro H locs r4 hP hS _
        refine q_zne hx hb r4 (tgt := 29) dX11_inChannel_23 (by decide) h ?_ ?_
        · clear h; intro g47 h
          exact hj26  _ _ _ hP hS (lv_sub hl [] rfl) h
        · clear h; intro g47 h
          refine lv_aload_n hx hb dX11_inChannel_29 rfl (lv_at hl 0 rfl) ?_
          refine q_getR hx hb hts hown hK hP fd_RX11_7 (Nat.le_of_ble_eq_true rfl) q_kdM_0 rfl q_rhM_0_1 dX11_inChannel_30 ?_
          refine lv_bipush (v := q_I 38) hx hb dX11_inChannel_33 (by decide) ?_
          refine lv_iconst (v := q_I 5) hx hb dX11_inChannel_35 rfl ?_
          refine lv_iload_n hx hb dX11_inChannel_36 rfl (lv_at hl 1 rfl) ?_
          refine q_imul hx hb dX11_inChannel_37 h ?_
          clear h; intro x5 r5 h
          refine q_iadd hx hb dX11_inChannel_38 h ?_
          clear h; intro x6 r6 h
          refine lv_iload_n hx hb dX11_inChannel_39 rfl (lv_at hl 2 rfl) ?_
          refine q_iadd hx hb dX11_inChannel_40 h ?_
          clear h; intro x7 r7 h
          refine q_iald hx hb hK hP (Nat.le_of_ble_eq_true rfl) q_kdM_1 r7 dX11_inChannel_41 h ?_
          clear h; intro x8 r8 h
          refine lv_istore (lv' := [(5, .int (q_I x8)), (0, .ref (z + 0)), (1, .int (q_I a0)), (2, .int (q_I a1)), (3, .int (q_I a2)), (4, .int (q_I a3))]) hx hb dX11_inChannel_42 hl (by decide) rfl ?_
          clear hl; intro ls hl
          refine lv_iconst (v := q_I 0) hx hb dX11_inChannel_44 rfl ?_
          refine lv_istore (lv' := [(6, .int (q_I 0)), (5, .int (q_I x8)), (0, .ref (z + 0)), (1, .int (q_I a0)), (2, .int (q_I a1)), (3, .int (q_I a2)), (4, .int (q_I a3))]) hx hb dX11_inChannel_45 hl (by decide) rfl ?_
          clear hl; intro ls hl
          refine lv_aload_n hx hb dX11_inChannel_47 rfl (lv_at hl 2 rfl) ?_
          refine lv_iload_n hx hb dX11_inChannel_48 rfl (lv_at hl 3 rfl) ?_
          refine lv_iload_n hx hb dX11_inChannel_49 rfl (lv_at hl 4 rfl) ?_
          refine lv_iconst (v := q_I 0) hx hb dX11_inChannel_50 rfl ?_
          obtain ⟨x10, hv9, h⟩ := q_b_some h
          refine q_callV hx hb hml hts hown hK hP hS (As := [.int (q_I a0), .int (q_I a1), .int (q_I 0)]) (rest := []) (st1 := [.int (q_I x10)]) cv_RX11_118 (c_M_waitingFrom l D dA ra0 ra1 (q_r 0 rfl) hv9) (Nat.le_of_ble_eq_true rfl) q_kdM_0 rfl ⟨rfl, rfl, Nat.le_of_ble_eq_true rfl, Nat.le_of_ble_eq_true rfl⟩ ⟨Nat.le_refl _, Nat.le_refl _⟩ rfl hl.1 rfl (Nat.le_of_ble_eq_true rfl) rfl (fun _ g => g) dX11_inChannel_51 ?_
          clear hP hS hv9; intro H locs r10 hP hS _
          refine lv_istore (lv' := [(7, .int (q_I x10)), (6, .int (q_I 0)), (5, .int (q_I x8)), (0, .ref (z + 0)), (1, .int (q_I a0)), (2, .int (q_I a1)), (3, .int (q_I a2)), (4, .int (q_I a3))]) hx hb dX11_inChannel_54 hl (by decide) rfl ?_
          clear hl; intro ls hl
          refine lv_iconst (v := q_I 1) hx hb dX11_inChannel_56 rfl ?_
          refine lv_istore (lv' := [(8, .int (q_I 1)), (7, .int (q_I x10)), (6, .int (q_I 0)), (5, .int (q_I x8)), (0, .ref (z + 0)), (1, .int (q_I a0)), (2, .int (q_I a1)), (3, .int (q_I a2)), (4, .int (q_I a3))]) hx hb dX11_inChannel_57 hl (by decide) rfl ?_
          clear hl; intro ls hl
          have L59 : ∀ (k82 : Option Int) (k140 : Int → Option Int) (k210 : Option Int), (∀ (H : Heap) (locs : List Loc) (ls : Array Slot), q_P D dA q_kdM q_rhoM 22 z sz μ H → va_S (q_A z 22) s.heap H locs → lv_has ls 9 [(4, .int (q_I a3))] → k82 = some xo → W p l e ({ frames := 3, cells := 0, slots := 0, locals := 65 } : Room) s m args below meth c H locs 0 0 Qf (F0 m 82 ls [])) → (∀ (x15 : Int) (H : Heap) (locs : List Loc) (ls : Array Slot), q_R x15 → q_P D dA q_kdM q_rhoM 22 z sz μ H → va_S (q_A z 22) s.heap H locs → lv_has ls 9 [(0, .ref (z + 0)), (4, .int (q_I a3)), (7, .int (q_I x15))] → k140 x15 = some xo → W p l e ({ frames := 3, cells := 0, slots := 0, locals := 65 } : Room) s m args below meth c H locs 0 0 Qf (F0 m 140 ls [])) → (∀ (H : Heap) (locs : List Loc) (ls : Array Slot), q_P D dA q_kdM q_rhoM 22 z sz μ H → va_S (q_A z 22) s.heap H locs → lv_has ls 9 [] → k210 = some xo → W p l e ({ frames := 3, cells := 0, slots := 0, locals := 65 } : Room) s m args below meth c H locs 0 0 Qf (F0 m 210 ls [])) → ∀ (nf59 : Nat) (x11 : Int) (x12 : Int) (x13 : Int) (x14 : Int) (H : Heap) (locs : List Loc) (ls : Array Slot), q_R x11 → q_R x12 → q_R x13 → q_R x14 → q_P D dA q_kdM q_rhoM 22 z sz μ H → va_S (q_A z 22) s.heap H locs → lv_has ls 9 [(0, .ref (z + 0)), (1, .int (q_I a0)), (2, .int (q_I a1)), (3, .int (q_I a2)), (4, .int (q_I a3)), (5, .int (q_I x11)), (6, .int (q_I x12)), (7, .int (q_I x13)), (8, .int (q_I x14))] → f_M_inChannel_L59 N a0 a1 a2 μ k82 k140 k210 nf59 x11 x12 x13 x14 = some xo → W p l e ({ frames := 3, cells := 0, slots := 0, locals := 65 } : Room) s m args below meth c H locs 0 0 Qf (F0 m 59 ls []) := by
            clear h hl hP hS
            intro k82 k140 k210 hk82 hk140 hk210 nf59
            induction nf59 with
            | zero =>
              intro x11 x12 x13 x14 H locs ls r11 r12 r13 r14 hP hS hl h
              rw [f_M_inChannel_L59] at h
              cases h
            | succ nf59 ih59 =>
              intro x11 x12 x13 x14 H locs ls r11 r12 r13 r14 hP hS hl h
              rw [f_M_inChannel_L59] at h
              refine lv_iload hx hb dX11_inChannel_59 (lv_at hl 8 rfl) ?_
              refine q_zeq hx hb r14 (tgt := 210) dX11_inChannel_61 (by decide) h ?_ ?_
              · clear h; intro g33 h
                exact hk210  _ _ _ hP hS (lv_sub hl [] rfl) h
              · clear h; intro g33 h
                refine lv_iload hx hb dX11_inChannel_64 (lv_at hl 5 rfl) ?_
                refine q_jn_in h (fun J => ∀ (x16 : Int) (x17 : Int) (H : Heap) (locs : List Loc) (ls : Array Slot), q_R x16 → q_R x17 → q_P D dA q_kdM q_rhoM 22 z sz μ H → va_S (q_A z 22) s.heap H locs → lv_has ls 9 [(0, .ref (z + 0)), (1, .int (q_I a0)), (2, .int (q_I a1)), (3, .int (q_I a2)), (4, .int (q_I a3)), (5, .int (q_I x16)), (6, .int (q_I x17)), (7, .int (q_I x13))] → J x16 x17 = some xo → W p l e ({ frames := 3, cells := 0, slots := 0, locals := 65 } : Room) s m args below meth c H locs 0 0 Qf (F0 m 110 ls [])) ?_ ?_
                · clear h hl hP hS; intro x16 x17 H locs ls r16 r17 hP hS hl h
                  refine lv_iload hx hb dX11_inChannel_110 (lv_at hl 7 rfl) ?_
                  refine lv_aload_n hx hb dX11_inChannel_112 rfl (lv_at hl 0 rfl) ?_
                  refine q_getR hx hb hts hown hK hP fd_RX11_7 (Nat.le_of_ble_eq_true rfl) q_kdM_0 rfl q_rhM_0_1 dX11_inChannel_113 ?_
                  refine lv_bipush (v := q_I 37) hx hb dX11_inChannel_116 (by decide) ?_
                  refine q_iald hx hb hK hP (Nat.le_of_ble_eq_true rfl) q_kdM_1 (q_r 37 rfl) dX11_inChannel_118 h ?_
                  clear h; intro x18 r18 h
                  refine q_jn_in h (fun J => ∀ (x19 : Int) (H : Heap) (locs : List Loc) (ls : Array Slot), q_R x19 → q_P D dA q_kdM q_rhoM 22 z sz μ H → va_S (q_A z 22) s.heap H locs → lv_has ls 9 [(0, .ref (z + 0)), (1, .int (q_I a0)), (2, .int (q_I a1)), (3, .int (q_I a2)), (4, .int (q_I a3)), (5, .int (q_I x16)), (6, .int (q_I x17)), (7, .int (q_I x13))] → J x19 = some xo → W p l e ({ frames := 3, cells := 0, slots := 0, locals := 65 } : Room) s m args below meth c H locs 0 0 Qf (F0 m 127 ls [.int (q_I x19)])) ?_ ?_
                  · clear h hl hP hS; intro x19 H locs ls r19 hP hS hl h
                    refine lv_istore (lv' := [(8, .int (q_I x19)), (0, .ref (z + 0)), (1, .int (q_I a0)), (2, .int (q_I a1)), (3, .int (q_I a2)), (4, .int (q_I a3)), (5, .int (q_I x16)), (6, .int (q_I x17)), (7, .int (q_I x13))]) hx hb dX11_inChannel_127 hl (by decide) rfl ?_
                    clear hl; intro ls hl
                    refine lv_iload hx hb dX11_inChannel_129 (lv_at hl 0 rfl) ?_
                    refine q_jn_in h (fun J => ∀ (H : Heap) (locs : List Loc) (ls : Array Slot), q_P D dA q_kdM q_rhoM 22 z sz μ H → va_S (q_A z 22) s.heap H locs → lv_has ls 9 [(0, .ref (z + 0)), (1, .int (q_I a0)), (2, .int (q_I a1)), (3, .int (q_I a2)), (4, .int (q_I a3)), (5, .int (q_I x16)), (6, .int (q_I x17)), (7, .int (q_I x13)), (8, .int (q_I x19))] → J = some xo → W p l e ({ frames := 3, cells := 0, slots := 0, locals := 65 } : Room) s m args below meth c H locs 0 0 Qf (F0 m 182 ls [])) ?_ ?_
                    · clear h hl hP hS; intro  H locs ls  hP hS hl h
                      refine q_iinc (k := 6) (lv' := fun t => [(6, .int (q_I t)), (0, .ref (z + 0)), (1, .int (q_I a0)), (2, .int (q_I a1)), (3, .int (q_I a2)), (4, .int (q_I a3)), (5, .int (q_I x16)), (7, .int (q_I x13)), (8, .int (q_I x19))]) hx hb dX11_inChannel_182 hl rfl (by decide) (fun _ => rfl) h ?_
                      clear h hl; intro x20 ls r20 hl h
                      refine lv_iload hx hb dX11_inChannel_185 (lv_at hl 8 rfl) ?_
                      refine q_jn_in h (fun J => ∀ (x21 : Int) (H : Heap) (locs : List Loc) (ls : Array Slot), q_R x21 → q_P D dA q_kdM q_rhoM 22 z sz μ H → va_S (q_A z 22) s.heap H locs → lv_has ls 9 [(0, .ref (z + 0)), (1, .int (q_I a0)), (2, .int (q_I a1)), (3, .int (q_I a2)), (4, .int (q_I a3)), (5, .int (q_I x16)), (6, .int (q_I x20)), (8, .int (q_I x19))] → J x21 = some xo → W p l e ({ frames := 3, cells := 0, slots := 0, locals := 65 } : Room) s m args below meth c H locs 0 0 Qf (F0 m 205 ls [.int (q_I x21)])) ?_ ?_
                      · clear h hl hP hS; intro x21 H locs ls r21 hP hS hl h
                        refine lv_istore (lv' := [(7, .int (q_I x21)), (0, .ref (z + 0)), (1, .int (q_I a0)), (2, .int (q_I a1)), (3, .int (q_I a2)), (4, .int (q_I a3)), (5, .int (q_I x16)), (6, .int (q_I x20)), (8, .int (q_I x19))]) hx hb dX11_inChannel_205 hl (by decide) rfl ?_
                        clear hl; intro ls hl
                        refine lv_goto (tgt := 59) hx hb dX11_inChannel_207 (by decide) ?_
                        exact ih59 x16 x20 x21 x19 _ _ _ r16 r20 r21 r19 hP hS (lv_sub hl [1, 2, 3, 4, 5, 6, 7, 0, 8] rfl) h
                      · clear h; intro j205 hj205 h
                        refine q_zeq hx hb r19 (tgt := 203) dX11_inChannel_187 (by decide) h ?_ ?_
                        · clear h; intro g25 h
                          refine lv_iload hx hb dX11_inChannel_203 (lv_at hl 7 rfl) ?_
                          exact hj205 x13 _ _ _ r13 hP hS (lv_sub hl [1, 2, 3, 4, 5, 6, 0, 8] rfl) h
                        · clear h; intro g25 h
                          refine lv_aload_n hx hb dX11_inChannel_190 rfl (lv_at hl 1 rfl) ?_
                          refine lv_iload_n hx hb dX11_inChannel_191 rfl (lv_at hl 2 rfl) ?_
                          refine lv_iload_n hx hb dX11_inChannel_192 rfl (lv_at hl 3 rfl) ?_
                          refine lv_iload hx hb dX11_inChannel_193 (lv_at hl 7 rfl) ?_
                          refine lv_iconst (v := q_I 1) hx hb dX11_inChannel_195 rfl ?_
                          refine q_iadd hx hb dX11_inChannel_196 h ?_
                          clear h; intro x22 r22 h
                          obtain ⟨x24, hv23, h⟩ := q_b_some h
                          refine q_callV hx hb hml hts hown hK hP hS (As := [.int (q_I a0), .int (q_I a1), .int (q_I x22)]) (rest := []) (st1 := [.int (q_I x24)]) cv_RX11_118 (c_M_waitingFrom l D dA ra0 ra1 r22 hv23) (Nat.le_of_ble_eq_true rfl) q_kdM_0 rfl ⟨rfl, rfl, Nat.le_of_ble_eq_true rfl, Nat.le_of_ble_eq_true rfl⟩ ⟨Nat.le_refl _, Nat.le_refl _⟩ rfl hl.1 rfl (Nat.le_of_ble_eq_true rfl) rfl (fun _ g => g) dX11_inChannel_197 ?_
                          clear hP hS hv23; intro H locs r24 hP hS _
                          refine lv_goto (tgt := 205) hx hb dX11_inChannel_200 (by decide) ?_
                          exact hj205 x24 _ _ _ r24 hP hS (lv_sub hl [1, 2, 3, 4, 5, 6, 0, 8] rfl) h
                    · clear h; intro j182 hj182 h
                      refine q_zeq hx hb r19 (tgt := 182) dX11_inChannel_131 (by decide) h ?_ ?_
                      · clear h; intro g27 h
                        exact hj182  _ _ _ hP hS (lv_sub hl [1, 2, 3, 4, 5, 6, 7, 8, 0] rfl) h
                      · clear h; intro g27 h
                        refine lv_iload hx hb dX11_inChannel_134 (lv_at hl 7 rfl) ?_
                        refine lv_iload_n hx hb dX11_inChannel_136 rfl (lv_at hl 4 rfl) ?_
                        refine q_cne hx hb r17 ra2 (tgt := 182) dX11_inChannel_137 (by decide) h ?_ ?_
                        · clear h; intro g26 h
                          exact hk140 x13 _ _ _ r13 hP hS (lv_sub hl [1, 5, 8] rfl) h
                        · clear h; intro g26 h
                          exact hj182  _ _ _ hP hS (lv_sub hl [1, 2, 3, 4, 5, 6, 7, 8, 0] rfl) h
                  · clear h; intro j127 hj127 h
                    refine q_cge hx hb r13 r18 (tgt := 126) dX11_inChannel_119 (by decide) h ?_ ?_
                    · clear h; intro g28 h
                      refine lv_iconst (v := q_I 0) hx hb dX11_inChannel_126 rfl ?_
                      exact hj127 0 _ _ _ (q_r 0 rfl) hP hS (lv_sub hl [0, 1, 2, 3, 4, 5, 6, 7] rfl) h
                    · clear h; intro g28 h
                      refine lv_iconst (v := q_I 1) hx hb dX11_inChannel_122 rfl ?_
                      refine lv_goto (tgt := 127) hx hb dX11_inChannel_123 (by decide) ?_
                      exact hj127 1 _ _ _ (q_r 1 rfl) hP hS (lv_sub hl [0, 1, 2, 3, 4, 5, 6, 7] rfl) h
                · clear h; intro j110 hj110 h
                  refine q_zlt hx hb r11 (tgt := 110) dX11_inChannel_66 (by decide) h ?_ ?_
                  · clear h; intro g32 h
                    exact hj110 x11 x12 _ _ _ r11 r12 hP hS (lv_sub hl [0, 1, 2, 3, 4, 5, 6, 7] rfl) h
                  · clear h; intro g32 h
                    refine lv_iload hx hb dX11_inChannel_69 (lv_at hl 7 rfl) ?_
                    refine lv_iload hx hb dX11_inChannel_71 (lv_at hl 5 rfl) ?_
                    refine q_clt hx hb r13 r11 (tgt := 110) dX11_inChannel_73 (by decide) h ?_ ?_
                    · clear h; intro g31 h
                      exact hj110 x11 x12 _ _ _ r11 r12 hP hS (lv_sub hl [0, 1, 2, 3, 4, 5, 6, 7] rfl) h
                    · clear h; intro g31 h
                      refine lv_iload hx hb dX11_inChannel_76 (lv_at hl 6 rfl) ?_
                      refine lv_iload_n hx hb dX11_inChannel_78 rfl (lv_at hl 3 rfl) ?_
                      refine q_cne hx hb r12 ra2 (tgt := 104) dX11_inChannel_79 (by decide) h ?_ ?_
                      · clear h; intro g30 h
                        exact hk82  _ _ _ hP hS (lv_sub hl [4] rfl) h
                      · clear h; intro g30 h
                        refine lv_iconst (v := q_I (-1)) hx hb dX11_inChannel_104 rfl ?_
                        refine lv_istore (lv' := [(5, .int (q_I ((-1)))), (0, .ref (z + 0)), (1, .int (q_I a0)), (2, .int (q_I a1)), (3, .int (q_I a2)), (4, .int (q_I a3)), (6, .int (q_I x12)), (7, .int (q_I x13)), (8, .int (q_I x14))]) hx hb dX11_inChannel_105 hl (by decide) rfl ?_
                        clear hl; intro ls hl
                        refine q_iinc (k := 6) (lv' := fun t => [(6, .int (q_I t)), (5, .int (q_I ((-1)))), (0, .ref (z + 0)), (1, .int (q_I a0)), (2, .int (q_I a1)), (3, .int (q_I a2)), (4, .int (q_I a3)), (7, .int (q_I x13)), (8, .int (q_I x14))]) hx hb dX11_inChannel_107 hl rfl (by decide) (fun _ => rfl) h ?_
                        clear h hl; intro x29 ls r29 hl h
                        exact hj110 ((-1)) x29 _ _ _ (q_r (-1) rfl) r29 hP hS (lv_sub hl [2, 3, 4, 5, 6, 1, 0, 7] rfl) h
          refine L59 _ _ _ ?_ ?_ ?_  _ x8 0 x10 1 _ _ _ r8 (q_r 0 rfl) r10 (q_r 1 rfl) hP hS (lv_sub hl [4, 5, 6, 7, 8, 3, 2, 1, 0] rfl) h
          · clear h hl hP hS; intro  H locs ls  hP hS hl h
            refine lv_iload hx hb dX11_inChannel_82 (lv_at hl 0 rfl) ?_
            refine q_jn_in h (fun J => ∀ (x34 : Int) (H : Heap) (locs : List Loc) (ls : Array Slot), q_R x34 → q_P D dA q_kdM q_rhoM 22 z sz μ H → va_S (q_A z 22) s.heap H locs → lv_has ls 9 [] → J x34 = some xo → W p l e ({ frames := 3, cells := 0, slots := 0, locals := 65 } : Room) s m args below meth c H locs 0 0 Qf (F0 m 103 ls [.int (q_I x34)])) ?_ ?_
            · clear h hl hP hS; intro x34 H locs ls r34 hP hS hl h
              rw [← hQ]
              exact q_ret1 hx hb hr hlocks hP hS r34 h dX11_inChannel_103
            · clear h; intro j103 hj103 h
              refine q_zne hx hb ra3 (tgt := 91) dX11_inChannel_84 (by decide) h ?_ ?_
              · clear h; intro g36 h
                refine lv_iconst (v := q_I 2) hx hb dX11_inChannel_87 rfl ?_
                refine lv_goto (tgt := 103) hx hb dX11_inChannel_88 (by decide) ?_
                exact hj103 2 _ _ _ (q_r 2 rfl) hP hS (lv_sub hl [] rfl) h
              · clear h; intro g36 h
                refine lv_iload hx hb dX11_inChannel_91 (lv_at hl 0 rfl) ?_
                refine lv_iconst (v := q_I 1) hx hb dX11_inChannel_93 rfl ?_
                refine q_cne hx hb ra3 (q_r 1 rfl) (tgt := 101) dX11_inChannel_94 (by decide) h ?_ ?_
                · clear h; intro g35 h
                  refine lv_iconst (v := q_I 0) hx hb dX11_inChannel_97 rfl ?_
                  refine lv_goto (tgt := 103) hx hb dX11_inChannel_98 (by decide) ?_
                  exact hj103 0 _ _ _ (q_r 0 rfl) hP hS (lv_sub hl [] rfl) h
                · clear h; intro g35 h
                  refine lv_ldc hx hb hown (hts _ ck_RX11_127) dX11_inChannel_101 ?_
                  exact hj103 ((-100006)) _ _ _ (q_r (-100006) rfl) hP hS (lv_sub hl [] rfl) h
          · clear h hl hP hS; intro x15 H locs ls r15 hP hS hl h
            refine lv_iload hx hb dX11_inChannel_140 (lv_at hl 1 rfl) ?_
            refine lv_iconst (v := q_I 2) hx hb dX11_inChannel_142 rfl ?_
            refine q_jn_in h (fun J => ∀ (x37 : Int) (H : Heap) (locs : List Loc) (ls : Array Slot), q_R x37 → q_P D dA q_kdM q_rhoM 22 z sz μ H → va_S (q_A z 22) s.heap H locs → lv_has ls 9 [] → J x37 = some xo → W p l e ({ frames := 3, cells := 0, slots := 0, locals := 65 } : Room) s m args below meth c H locs 0 0 Qf (F0 m 181 ls [.int (q_I x37)])) ?_ ?_
            · clear h hl hP hS; intro x37 H locs ls r37 hP hS hl h
              rw [← hQ]
              exact q_ret1 hx hb hr hlocks hP hS r37 h dX11_inChannel_181
            · clear h; intro j181 hj181 h
              refine q_cge hx hb ra3 (q_r 2 rfl) (tgt := 159) dX11_inChannel_143 (by decide) h ?_ ?_
              · clear h; intro g46 h
                refine lv_aload_n hx hb dX11_inChannel_159 rfl (lv_at hl 0 rfl) ?_
                refine lv_iload hx hb dX11_inChannel_160 (lv_at hl 2 rfl) ?_
                refine lv_iconst (v := q_I 4) hx hb dX11_inChannel_162 rfl ?_
                obtain ⟨x39, hv38, h⟩ := q_b_some h
                refine q_callV hx hb hml hts hown hK hP hS (As := [.int (q_I x15), .int (q_I 4)]) (rest := []) (st1 := [.int (q_I x39)]) cv_RX11_114 (c_M_ofMessage l D dA r15 (q_r 4 rfl) hv38) (Nat.le_of_ble_eq_true rfl) q_kdM_0 rfl ⟨rfl, rfl, Nat.le_of_ble_eq_true rfl, Nat.le_of_ble_eq_true rfl⟩ ⟨Nat.le_refl _, Nat.le_refl _⟩ rfl hl.1 rfl (Nat.le_of_ble_eq_true rfl) rfl (fun _ g => g) dX11_inChannel_163 ?_
                clear hP hS hv38; intro H locs r39 hP hS _
                refine q_zge hx hb r39 (tgt := 174) dX11_inChannel_166 (by decide) h ?_ ?_
                · clear h; intro g42 h
                  refine lv_aload_n hx hb dX11_inChannel_174 rfl (lv_at hl 0 rfl) ?_
                  refine lv_iload hx hb dX11_inChannel_175 (lv_at hl 2 rfl) ?_
                  refine lv_iconst (v := q_I 4) hx hb dX11_inChannel_177 rfl ?_
                  obtain ⟨x41, hv40, h⟩ := q_b_some h
                  refine q_callV hx hb hml hts hown hK hP hS (As := [.int (q_I x15), .int (q_I 4)]) (rest := []) (st1 := [.int (q_I x41)]) cv_RX11_114 (c_M_ofMessage l D dA r15 (q_r 4 rfl) hv40) (Nat.le_of_ble_eq_true rfl) q_kdM_0 rfl ⟨rfl, rfl, Nat.le_of_ble_eq_true rfl, Nat.le_of_ble_eq_true rfl⟩ ⟨Nat.le_refl _, Nat.le_refl _⟩ rfl hl.1 rfl (Nat.le_of_ble_eq_true rfl) rfl (fun _ g => g) dX11_inChannel_178 ?_
                  clear hP hS hv40; intro H locs r41 hP hS _
                  exact hj181 x41 _ _ _ r41 hP hS (lv_sub hl [] rfl) h
                · clear h; intro g42 h
                  refine lv_ldc hx hb hown (hts _ ck_RX11_127) dX11_inChannel_169 ?_
                  refine lv_goto (tgt := 181) hx hb dX11_inChannel_171 (by decide) ?_
                  exact hj181 ((-100006)) _ _ _ (q_r (-100006) rfl) hP hS (lv_sub hl [] rfl) h
              · clear h; intro g46 h
                refine lv_aload_n hx hb dX11_inChannel_146 rfl (lv_at hl 0 rfl) ?_
                refine lv_iload hx hb dX11_inChannel_147 (lv_at hl 2 rfl) ?_
                refine lv_iconst (v := q_I 2) hx hb dX11_inChannel_149 rfl ?_
                refine lv_iload hx hb dX11_inChannel_150 (lv_at hl 1 rfl) ?_
                refine q_iadd hx hb dX11_inChannel_152 h ?_
                clear h; intro x43 r43 h
                obtain ⟨x45, hv44, h⟩ := q_b_some h
                refine q_callV hx hb hml hts hown hK hP hS (As := [.int (q_I x15), .int (q_I x43)]) (rest := []) (st1 := [.int (q_I x45)]) cv_RX11_114 (c_M_ofMessage l D dA r15 r43 hv44) (Nat.le_of_ble_eq_true rfl) q_kdM_0 rfl ⟨rfl, rfl, Nat.le_of_ble_eq_true rfl, Nat.le_of_ble_eq_true rfl⟩ ⟨Nat.le_refl _, Nat.le_refl _⟩ rfl hl.1 rfl (Nat.le_of_ble_eq_true rfl) rfl (fun _ g => g) dX11_inChannel_153 ?_
                clear hP hS hv44; intro H locs r45 hP hS _
                refine lv_goto (tgt := 181) hx hb dX11_inChannel_156 (by decide) ?_
                exact hj181 x45 _ _ _ r45 hP hS (lv_sub hl [] rfl) h
          · clear h hl hP hS; intro  H locs ls  hP hS hl h
            refine lv_ldc hx hb hown (hts _ ck_RX11_127) dX11_inChannel_210 ?_
            rw [← hQ]
            exact q_ret1 hx hb hr hlocks hP hS (q_r (-100006) rfl) h dX11_inChannel_212
  · clear h; intro g49 h
    refine lv_ldc hx hb hown (hts _ ck_RX11_112) dX11_inChannel_9 ?_
    rw [← hQ]
    exact q_ret1 hx hb hr hlocks hP hS (q_r (-100001) rfl) h dX11_inChannel_11
set_option maxHeartbeats 4000000 in
set_option maxRecDepth 100000 in
theorem c_M_noEvent (l : Launch) (D : va_G) (dA : Nat → ClassId) {z sz : Nat} {a0 : Int} (ra0 : q_R a0) {μ : q_M} {xo : Int} (h : f_M_noEvent a0 μ = some xo) : Met l yX11_noEvent (q_wc yX11_noEvent cX11_noEvent 2 (some .boolean)) ({ frames := 1, cells := 0, slots := 0, locals := 22 } : Room) (va_Pc [.ref (z + 0), .int (q_I a0)] (q_B (q_P D dA q_kdM q_rhoM 22 z sz μ) D dA)) (q_Q (some (.int (q_I xo))) (q_R xo) (q_P D dA q_kdM q_rhoM 22 z sz μ) (q_A z 22)) 0 0 (q_A z 22) := by
  refine Met.ofW (cc := cX11_noEvent) (maxL := 2) (ret := (some .boolean)) (by decide) rfl ?_
  intro p e s m args below meth c s₁ B hml hv
  obtain ⟨hargs, hP, hK⟩ := hv
  have hx := B.exec
  have hb := B.bytes
  have hr := B.returns
  have hts : ∀ w ∈ q_W, w.before args s = true := fun w hw => atoms_spec (ws := q_wc yX11_noEvent cX11_noEvent 2 (some .boolean)) B.pre w (List.mem_cons_of_mem _ hw)
  have hown : s.vm.findClass RX11 = some m.cls := findClass_of_methodNamed B.named
  have hlocks := B.notSynchronized
  have hS : va_S (q_A z 22) s.heap s.heap [] := va_S.rf
  have hA : ∀ k, k < 22 → q_A z 22 (z + k) := fun k hk => ⟨Nat.le_add_right z k, Nat.add_lt_add_left hk z⟩
  have hl := lv_entry [.ref (z + 0), .int (q_I a0)] (n := 2) (Nat.le_of_ble_eq_true rfl)
  refine W.eq (by rw [hargs, lg_entry_eq]) ?_
  generalize (lg_sl [.ref (z + 0), .int (q_I a0)] ++ List.replicate (2 - (lg_sl [.ref (z + 0), .int (q_I a0)]).length) Slot.unset).toArray = ls at hl ⊢
  have hl : lv_has ls 2 [(0, .ref (z + 0)), (1, .int (q_I a0))] := hl
  generalize hQ : MQ below _ args s 0 0 _ = Qf
  change W p l e ({ frames := 1, cells := 0, slots := 0, locals := 22 } : Room) s m args below meth c s.heap [] 0 0 Qf (F0 m 0 ls [])
  unfold f_M_noEvent at h
  refine lv_iload_n hx hb dX11_noEvent_0 rfl (lv_at hl 1 rfl) ?_
  refine lv_iconst (v := q_I 0) hx hb dX11_noEvent_1 rfl ?_
  refine lv_aload_n hx hb dX11_noEvent_2 rfl (lv_at hl 0 rfl) ?_
  refine q_getR hx hb hts hown hK hP fd_RX11_7 (Nat.le_of_ble_eq_true rfl) q_kdM_0 rfl q_rhM_0_1 dX11_noEvent_3 ?_
  refine lv_bipush (v := q_I 36) hx hb dX11_noEvent_6 (by decide) ?_
  refine q_iald hx hb hK hP (Nat.le_of_ble_eq_true rfl) q_kdM_1 (q_r 36 rfl) dX11_noEvent_8 h ?_
  clear h; intro x1 r1 h
  refine lv_iconst (v := q_I 1) hx hb dX11_noEvent_9 rfl ?_
  refine q_isub hx hb dX11_noEvent_10 h ?_
  clear h; intro x2 r2 h
  obtain ⟨x4, hv3, h⟩ := q_b_some h
  refine q_callS hx hb hml hts hown hK hP hS (As := [.int (q_I a0), .int (q_I 0), .int (q_I x2)]) (rest := []) (st1 := [.int (q_I x4)]) cs_RX11_99 (c_M_in l D dA ra0 (q_r 0 rfl) r2 hv3) ⟨rfl, rfl, Nat.le_of_ble_eq_true rfl, Nat.le_of_ble_eq_true rfl⟩ ⟨Nat.le_refl _, Nat.le_refl _⟩ rfl hl.1 rfl (Nat.le_of_ble_eq_true rfl) rfl (fun _ g => g) dX11_noEvent_11 ?_
  clear hP hS hv3; intro H locs r4 hP hS _
  refine q_jn_in h (fun J => ∀ (x5 : Int) (H : Heap) (locs : List Loc) (ls : Array Slot), q_R x5 → q_P D dA q_kdM q_rhoM 22 z sz μ H → va_S (q_A z 22) s.heap H locs → lv_has ls 2 [] → J x5 = some xo → W p l e ({ frames := 1, cells := 0, slots := 0, locals := 22 } : Room) s m args below meth c H locs 0 0 Qf (F0 m 22 ls [.int (q_I x5)])) ?_ ?_
  · clear h hl hP hS; intro x5 H locs ls r5 hP hS hl h
    rw [← hQ]
    obtain ⟨hz, h⟩ := q_rz_some h
    exact q_retz1 hx hb hr hlocks hP hS hz h dX11_noEvent_22
  · clear h; intro j22 hj22 h
    refine q_zne hx hb r4 (tgt := 21) dX11_noEvent_14 (by decide) h ?_ ?_
    · clear h; intro g6 h
      refine lv_iconst (v := q_I 1) hx hb dX11_noEvent_17 rfl ?_
      refine lv_goto (tgt := 22) hx hb dX11_noEvent_18 (by decide) ?_
      exact hj22 1 _ _ _ (q_r 1 rfl) hP hS (lv_sub hl [] rfl) h
    · clear h; intro g6 h
      refine lv_iconst (v := q_I 0) hx hb dX11_noEvent_21 rfl ?_
      exact hj22 0 _ _ _ (q_r 0 rfl) hP hS (lv_sub hl [] rfl) h
set_option maxHeartbeats 4000000 in
set_option maxRecDepth 100000 in
theorem c_M_event (l : Launch) (D : va_G) (dA : Nat → ClassId) {z sz : Nat} {a0 : Int} (ra0 : q_R a0) {a1 : Int} (ra1 : q_R a1) {μ : q_M} {xo : Int} (h : f_M_event a0 a1 μ = some xo) : Met l yX11_event (q_wc yX11_event cX11_event 5 (some .int)) ({ frames := 2, cells := 0, slots := 0, locals := 43 } : Room) (va_Pc [.ref (z + 0), .int (q_I a0), .int (q_I a1)] (q_B (q_P D dA q_kdM q_rhoM 22 z sz μ) D dA)) (q_Q (some (.int (q_I xo))) (q_R xo) (q_P D dA q_kdM q_rhoM 22 z sz μ) (q_A z 22)) 0 0 (q_A z 22) := by
  refine Met.ofW (cc := cX11_event) (maxL := 5) (ret := (some .int)) (by decide) rfl ?_
  intro p e s m args below meth c s₁ B hml hv
  obtain ⟨hargs, hP, hK⟩ := hv
  have hx := B.exec
  have hb := B.bytes
  have hr := B.returns
  have hts : ∀ w ∈ q_W, w.before args s = true := fun w hw => atoms_spec (ws := q_wc yX11_event cX11_event 5 (some .int)) B.pre w (List.mem_cons_of_mem _ hw)
  have hown : s.vm.findClass RX11 = some m.cls := findClass_of_methodNamed B.named
  have hlocks := B.notSynchronized
  have hS : va_S (q_A z 22) s.heap s.heap [] := va_S.rf
  have hA : ∀ k, k < 22 → q_A z 22 (z + k) := fun k hk => ⟨Nat.le_add_right z k, Nat.add_lt_add_left hk z⟩
  have hl := lv_entry [.ref (z + 0), .int (q_I a0), .int (q_I a1)] (n := 5) (Nat.le_of_ble_eq_true rfl)
  refine W.eq (by rw [hargs, lg_entry_eq]) ?_
  generalize (lg_sl [.ref (z + 0), .int (q_I a0), .int (q_I a1)] ++ List.replicate (5 - (lg_sl [.ref (z + 0), .int (q_I a0), .int (q_I a1)]).length) Slot.unset).toArray = ls at hl ⊢
  have hl : lv_has ls 5 [(0, .ref (z + 0)), (1, .int (q_I a0)), (2, .int (q_I a1))] := hl
  generalize hQ : MQ below _ args s 0 0 _ = Qf
  change W p l e ({ frames := 2, cells := 0, slots := 0, locals := 43 } : Room) s m args below meth c s.heap [] 0 0 Qf (F0 m 0 ls [])
  unfold f_M_event at h
  refine lv_aload_n hx hb dX11_event_0 rfl (lv_at hl 0 rfl) ?_
  refine lv_iload_n hx hb dX11_event_1 rfl (lv_at hl 1 rfl) ?_
  obtain ⟨x2, hv1, h⟩ := q_b_some h
  refine q_callV hx hb hml hts hown hK hP hS (As := [.int (q_I a0)]) (rest := []) (st1 := [.int (q_I x2)]) cv_RX11_163 (c_M_noEvent l D dA ra0 hv1) (Nat.le_of_ble_eq_true rfl) q_kdM_0 rfl ⟨rfl, rfl, Nat.le_of_ble_eq_true rfl, Nat.le_of_ble_eq_true rfl⟩ ⟨Nat.le_refl _, Nat.le_refl _⟩ rfl hl.1 rfl (Nat.le_of_ble_eq_true rfl) rfl (fun _ g => g) dX11_event_2 ?_
  clear hP hS hv1; intro H locs r2 hP hS _
  refine q_zeq hx hb r2 (tgt := 11) dX11_event_5 (by decide) h ?_ ?_
  · clear h; intro g21 h
    refine lv_iload_n hx hb dX11_event_11 rfl (lv_at hl 2 rfl) ?_
    refine lv_iconst (v := q_I 0) hx hb dX11_event_12 rfl ?_
    refine lv_iconst (v := q_I 5) hx hb dX11_event_13 rfl ?_
    obtain ⟨x4, hv3, h⟩ := q_b_some h
    refine q_callS hx hb hml hts hown hK hP hS (As := [.int (q_I a1), .int (q_I 0), .int (q_I 5)]) (rest := []) (st1 := [.int (q_I x4)]) cs_RX11_99 (c_M_in l D dA ra1 (q_r 0 rfl) (q_r 5 rfl) hv3) ⟨rfl, rfl, Nat.le_of_ble_eq_true rfl, Nat.le_of_ble_eq_true rfl⟩ ⟨Nat.le_refl _, Nat.le_refl _⟩ rfl hl.1 rfl (Nat.le_of_ble_eq_true rfl) rfl (fun _ g => g) dX11_event_14 ?_
    clear hP hS hv3; intro H locs r4 hP hS _
    refine q_zne hx hb r4 (tgt := 23) dX11_event_17 (by decide) h ?_ ?_
    · clear h; intro g20 h
      refine lv_ldc hx hb hown (hts _ ck_RX11_103) dX11_event_20 ?_
      rw [← hQ]
      exact q_ret1 hx hb hr hlocks hP hS (q_r (-100002) rfl) h dX11_event_22
    · clear h; intro g20 h
      refine lv_iload_n hx hb dX11_event_23 rfl (lv_at hl 2 rfl) ?_
      refine lv_iconst (v := q_I 5) hx hb dX11_event_24 rfl ?_
      refine q_cge hx hb ra1 (q_r 5 rfl) (tgt := 35) dX11_event_25 (by decide) h ?_ ?_
      · clear h; intro g19 h
        refine lv_aload_n hx hb dX11_event_35 rfl (lv_at hl 0 rfl) ?_
        refine lv_iload_n hx hb dX11_event_36 rfl (lv_at hl 1 rfl) ?_
        refine lv_iconst (v := q_I 5) hx hb dX11_event_37 rfl ?_
        obtain ⟨x6, hv5, h⟩ := q_b_some h
        refine q_callV hx hb hml hts hown hK hP hS (As := [.int (q_I a0), .int (q_I 5)]) (rest := []) (st1 := [.int (q_I x6)]) cv_RX11_122 (c_M_ofEvent l D dA ra0 (q_r 5 rfl) hv5) (Nat.le_of_ble_eq_true rfl) q_kdM_0 rfl ⟨rfl, rfl, Nat.le_of_ble_eq_true rfl, Nat.le_of_ble_eq_true rfl⟩ ⟨Nat.le_refl _, Nat.le_refl _⟩ rfl hl.1 rfl (Nat.le_of_ble_eq_true rfl) rfl (fun _ g => g) dX11_event_38 ?_
        clear hP hS hv5; intro H locs r6 hP hS _
        refine lv_istore_n (lv' := [(3, .int (q_I x6)), (0, .ref (z + 0)), (1, .int (q_I a0)), (2, .int (q_I a1))]) hx hb dX11_event_41 rfl hl (by decide) rfl ?_
        clear hl; intro ls hl
        refine lv_iload_n hx hb dX11_event_42 rfl (lv_at hl 0 rfl) ?_
        refine q_jn_in h (fun J => ∀ (x7 : Int) (H : Heap) (locs : List Loc) (ls : Array Slot), q_R x7 → q_P D dA q_kdM q_rhoM 22 z sz μ H → va_S (q_A z 22) s.heap H locs → lv_has ls 5 [] → J x7 = some xo → W p l e ({ frames := 2, cells := 0, slots := 0, locals := 43 } : Room) s m args below meth c H locs 0 0 Qf (F0 m 70 ls [.int (q_I x7)])) ?_ ?_
        · clear h hl hP hS; intro x7 H locs ls r7 hP hS hl h
          refine lv_istore (lv' := [(4, .int (q_I x7))]) hx hb dX11_event_70 hl (by decide) rfl ?_
          clear hl; intro ls hl
          refine lv_iload hx hb dX11_event_72 (lv_at hl 0 rfl) ?_
          refine q_jn_in h (fun J => ∀ (x8 : Int) (H : Heap) (locs : List Loc) (ls : Array Slot), q_R x8 → q_P D dA q_kdM q_rhoM 22 z sz μ H → va_S (q_A z 22) s.heap H locs → lv_has ls 5 [] → J x8 = some xo → W p l e ({ frames := 2, cells := 0, slots := 0, locals := 43 } : Room) s m args below meth c H locs 0 0 Qf (F0 m 84 ls [.int (q_I x8)])) ?_ ?_
          · clear h hl hP hS; intro x8 H locs ls r8 hP hS hl h
            rw [← hQ]
            exact q_ret1 hx hb hr hlocks hP hS r8 h dX11_event_84
          · clear h; intro j84 hj84 h
            refine q_zge hx hb r7 (tgt := 82) dX11_event_74 (by decide) h ?_ ?_
            · clear h; intro g9 h
              refine lv_iload hx hb dX11_event_82 (lv_at hl 0 rfl) ?_
              exact hj84 x7 _ _ _ r7 hP hS (lv_sub hl [] rfl) h
            · clear h; intro g9 h
              refine lv_ldc hx hb hown (hts _ ck_RX11_127) dX11_event_77 ?_
              refine lv_goto (tgt := 84) hx hb dX11_event_79 (by decide) ?_
              exact hj84 ((-100006)) _ _ _ (q_r (-100006) rfl) hP hS (lv_sub hl [] rfl) h
        · clear h; intro j70 hj70 h
          refine q_zge hx hb r6 (tgt := 50) dX11_event_43 (by decide) h ?_ ?_
          · clear h; intro g16 h
            refine lv_aload_n hx hb dX11_event_50 rfl (lv_at hl 1 rfl) ?_
            refine lv_iload_n hx hb dX11_event_51 rfl (lv_at hl 0 rfl) ?_
            refine lv_aload_n hx hb dX11_event_52 rfl (lv_at hl 1 rfl) ?_
            refine lv_iload_n hx hb dX11_event_53 rfl (lv_at hl 2 rfl) ?_
            refine lv_iconst (v := q_I 1) hx hb dX11_event_54 rfl ?_
            obtain ⟨x11, hv10, h⟩ := q_b_some h
            refine q_callV hx hb hml hts hown hK hP hS (As := [.int (q_I a0), .int (q_I 1)]) (rest := [.int (q_I x6), .ref (z + 0)]) (st1 := [.int (q_I x11), .int (q_I x6), .ref (z + 0)]) cv_RX11_122 (c_M_ofEvent l D dA ra0 (q_r 1 rfl) hv10) (Nat.le_of_ble_eq_true rfl) q_kdM_0 rfl ⟨rfl, rfl, Nat.le_of_ble_eq_true rfl, Nat.le_of_ble_eq_true rfl⟩ ⟨Nat.le_refl _, Nat.le_refl _⟩ rfl hl.1 rfl (Nat.le_of_ble_eq_true rfl) rfl (fun _ g => g) dX11_event_55 ?_
            clear hP hS hv10; intro H locs r11 hP hS _
            refine lv_iconst (v := q_I 1) hx hb dX11_event_58 rfl ?_
            refine q_jn_in h (fun J => ∀ (x12 : Int) (H : Heap) (locs : List Loc) (ls : Array Slot), q_R x12 → q_P D dA q_kdM q_rhoM 22 z sz μ H → va_S (q_A z 22) s.heap H locs → lv_has ls 5 [] → J x12 = some xo → W p l e ({ frames := 2, cells := 0, slots := 0, locals := 43 } : Room) s m args below meth c H locs 0 0 Qf (F0 m 67 ls [.int (q_I x12), .int (q_I x6), .ref (z + 0)])) ?_ ?_
            · clear h hl hP hS; intro x12 H locs ls r12 hP hS hl h
              obtain ⟨x14, hv13, h⟩ := q_b_some h
              refine q_callV hx hb hml hts hown hK hP hS (As := [.int (q_I x6), .int (q_I x12)]) (rest := []) (st1 := [.int (q_I x14)]) cv_RX11_114 (c_M_ofMessage l D dA r6 r12 hv13) (Nat.le_of_ble_eq_true rfl) q_kdM_0 rfl ⟨rfl, rfl, Nat.le_of_ble_eq_true rfl, Nat.le_of_ble_eq_true rfl⟩ ⟨Nat.le_refl _, Nat.le_refl _⟩ rfl hl.1 rfl (Nat.le_of_ble_eq_true rfl) rfl (fun _ g => g) dX11_event_67 ?_
              clear hP hS hv13; intro H locs r14 hP hS _
              exact hj70 x14 _ _ _ r14 hP hS (lv_sub hl [] rfl) h
            · clear h; intro j67 hj67 h
              refine q_cne hx hb r11 (q_r 1 rfl) (tgt := 66) dX11_event_59 (by decide) h ?_ ?_
              · clear h; intro g15 h
                refine lv_iconst (v := q_I 5) hx hb dX11_event_62 rfl ?_
                refine lv_goto (tgt := 67) hx hb dX11_event_63 (by decide) ?_
                exact hj67 5 _ _ _ (q_r 5 rfl) hP hS (lv_sub hl [] rfl) h
              · clear h; intro g15 h
                refine lv_iconst (v := q_I 4) hx hb dX11_event_66 rfl ?_
                exact hj67 4 _ _ _ (q_r 4 rfl) hP hS (lv_sub hl [] rfl) h
          · clear h; intro g16 h
            refine lv_iconst (v := q_I (-1)) hx hb dX11_event_46 rfl ?_
            refine lv_goto (tgt := 70) hx hb dX11_event_47 (by decide) ?_
            exact hj70 ((-1)) _ _ _ (q_r (-1) rfl) hP hS (lv_sub hl [] rfl) h
      · clear h; intro g19 h
        refine lv_aload_n hx hb dX11_event_28 rfl (lv_at hl 0 rfl) ?_
        refine lv_iload_n hx hb dX11_event_29 rfl (lv_at hl 1 rfl) ?_
        refine lv_iload_n hx hb dX11_event_30 rfl (lv_at hl 2 rfl) ?_
        obtain ⟨x18, hv17, h⟩ := q_b_some h
        refine q_callV hx hb hml hts hown hK hP hS (As := [.int (q_I a0), .int (q_I a1)]) (rest := []) (st1 := [.int (q_I x18)]) cv_RX11_122 (c_M_ofEvent l D dA ra0 ra1 hv17) (Nat.le_of_ble_eq_true rfl) q_kdM_0 rfl ⟨rfl, rfl, Nat.le_of_ble_eq_true rfl, Nat.le_of_ble_eq_true rfl⟩ ⟨Nat.le_refl _, Nat.le_refl _⟩ rfl hl.1 rfl (Nat.le_of_ble_eq_true rfl) rfl (fun _ g => g) dX11_event_31 ?_
        clear hP hS hv17; intro H locs r18 hP hS _
        rw [← hQ]
        exact q_ret1 hx hb hr hlocks hP hS r18 h dX11_event_34
  · clear h; intro g21 h
    refine lv_ldc hx hb hown (hts _ ck_RX11_112) dX11_event_8 ?_
    rw [← hQ]
    exact q_ret1 hx hb hr hlocks hP hS (q_r (-100001) rfl) h dX11_event_10
set_option maxHeartbeats 4000000 in
set_option maxRecDepth 100000 in
theorem c_M_clock (l : Launch) (D : va_G) (dA : Nat → ClassId) {z sz : Nat} {a0 : Int} (ra0 : q_R a0) {a1 : Int} (ra1 : q_R a1) {μ : q_M} {xo : Int} (h : f_M_clock a0 a1 μ = some xo) : Met l yX11_clock (q_wc yX11_clock cX11_clock 3 (some .int)) ({ frames := 2, cells := 0, slots := 0, locals := 43 } : Room) (va_Pc [.ref (z + 0), .int (q_I a0), .int (q_I a1)] (q_B (q_P D dA q_kdM q_rhoM 22 z sz μ) D dA)) (q_Q (some (.int (q_I xo))) (q_R xo) (q_P D dA q_kdM q_rhoM 22 z sz μ) (q_A z 22)) 0 0 (q_A z 22) := by
  refine Met.ofW (cc := cX11_clock) (maxL := 3) (ret := (some .int)) (by decide) rfl ?_
  intro p e s m args below meth c s₁ B hml hv
  obtain ⟨hargs, hP, hK⟩ := hv
  have hx := B.exec
  have hb := B.bytes
  have hr := B.returns
  have hts : ∀ w ∈ q_W, w.before args s = true := fun w hw => atoms_spec (ws := q_wc yX11_clock cX11_clock 3 (some .int)) B.pre w (List.mem_cons_of_mem _ hw)
  have hown : s.vm.findClass RX11 = some m.cls := findClass_of_methodNamed B.named
  have hlocks := B.notSynchronized
  have hS : va_S (q_A z 22) s.heap s.heap [] := va_S.rf
  have hA : ∀ k, k < 22 → q_A z 22 (z + k) := fun k hk => ⟨Nat.le_add_right z k, Nat.add_lt_add_left hk z⟩
  have hl := lv_entry [.ref (z + 0), .int (q_I a0), .int (q_I a1)] (n := 3) (Nat.le_of_ble_eq_true rfl)
  refine W.eq (by rw [hargs, lg_entry_eq]) ?_
  generalize (lg_sl [.ref (z + 0), .int (q_I a0), .int (q_I a1)] ++ List.replicate (3 - (lg_sl [.ref (z + 0), .int (q_I a0), .int (q_I a1)]).length) Slot.unset).toArray = ls at hl ⊢
  have hl : lv_has ls 3 [(0, .ref (z + 0)), (1, .int (q_I a0)), (2, .int (q_I a1))] := hl
  generalize hQ : MQ below _ args s 0 0 _ = Qf
  change W p l e ({ frames := 2, cells := 0, slots := 0, locals := 43 } : Room) s m args below meth c s.heap [] 0 0 Qf (F0 m 0 ls [])
  unfold f_M_clock at h
  refine lv_aload_n hx hb dX11_clock_0 rfl (lv_at hl 0 rfl) ?_
  refine lv_iload_n hx hb dX11_clock_1 rfl (lv_at hl 1 rfl) ?_
  obtain ⟨x2, hv1, h⟩ := q_b_some h
  refine q_callV hx hb hml hts hown hK hP hS (As := [.int (q_I a0)]) (rest := []) (st1 := [.int (q_I x2)]) cv_RX11_163 (c_M_noEvent l D dA ra0 hv1) (Nat.le_of_ble_eq_true rfl) q_kdM_0 rfl ⟨rfl, rfl, Nat.le_of_ble_eq_true rfl, Nat.le_of_ble_eq_true rfl⟩ ⟨Nat.le_refl _, Nat.le_refl _⟩ rfl hl.1 rfl (Nat.le_of_ble_eq_true rfl) rfl (fun _ g => g) dX11_clock_2 ?_
  clear hP hS hv1; intro H locs r2 hP hS _
  refine q_jn_in h (fun J => ∀ (x3 : Int) (H : Heap) (locs : List Loc) (ls : Array Slot), q_R x3 → q_P D dA q_kdM q_rhoM 22 z sz μ H → va_S (q_A z 22) s.heap H locs → lv_has ls 3 [] → J x3 = some xo → W p l e ({ frames := 2, cells := 0, slots := 0, locals := 43 } : Room) s m args below meth c H locs 0 0 Qf (F0 m 30 ls [.int (q_I x3)])) ?_ ?_
  · clear h hl hP hS; intro x3 H locs ls r3 hP hS hl h
    rw [← hQ]
    exact q_ret1 hx hb hr hlocks hP hS r3 h dX11_clock_30
  · clear h; intro j30 hj30 h
    refine q_jn_in h (fun J => ∀ (H : Heap) (locs : List Loc) (ls : Array Slot), q_P D dA q_kdM q_rhoM 22 z sz μ H → va_S (q_A z 22) s.heap H locs → lv_has ls 3 [] → J = some xo → W p l e ({ frames := 2, cells := 0, slots := 0, locals := 43 } : Room) s m args below meth c H locs 0 0 Qf (F0 m 16 ls [])) ?_ ?_
    · clear h hl hP hS; intro  H locs ls  hP hS hl h
      refine lv_ldc hx hb hown (hts _ ck_RX11_112) dX11_clock_16 ?_
      refine lv_goto (tgt := 30) hx hb dX11_clock_18 (by decide) ?_
      exact hj30 ((-100001)) _ _ _ (q_r (-100001) rfl) hP hS (lv_sub hl [] rfl) h
    · clear h; intro j16 hj16 h
      refine q_zne hx hb r2 (tgt := 16) dX11_clock_5 (by decide) h ?_ ?_
      · clear h; intro g10 h
        refine lv_aload_n hx hb dX11_clock_8 rfl (lv_at hl 0 rfl) ?_
        refine lv_iload_n hx hb dX11_clock_9 rfl (lv_at hl 2 rfl) ?_
        obtain ⟨x5, hv4, h⟩ := q_b_some h
        refine q_callV hx hb hml hts hown hK hP hS (As := [.int (q_I a1)]) (rest := []) (st1 := [.int (q_I x5)]) cv_RX11_104 (c_M_noProcess l D dA ra1 hv4) (Nat.le_of_ble_eq_true rfl) q_kdM_0 rfl ⟨rfl, rfl, Nat.le_of_ble_eq_true rfl, Nat.le_of_ble_eq_true rfl⟩ ⟨Nat.le_refl _, Nat.le_refl _⟩ rfl hl.1 rfl (Nat.le_of_ble_eq_true rfl) rfl (fun _ g => g) dX11_clock_10 ?_
        clear hP hS hv4; intro H locs r5 hP hS _
        refine q_zeq hx hb r5 (tgt := 21) dX11_clock_13 (by decide) h ?_ ?_
        · clear h; intro g9 h
          refine lv_aload_n hx hb dX11_clock_21 rfl (lv_at hl 0 rfl) ?_
          refine lv_iload_n hx hb dX11_clock_22 rfl (lv_at hl 1 rfl) ?_
          refine lv_bipush (v := q_I 7) hx hb dX11_clock_23 (by decide) ?_
          refine lv_iload_n hx hb dX11_clock_25 rfl (lv_at hl 2 rfl) ?_
          refine q_iadd hx hb dX11_clock_26 h ?_
          clear h; intro x6 r6 h
          obtain ⟨x8, hv7, h⟩ := q_b_some h
          refine q_callV hx hb hml hts hown hK hP hS (As := [.int (q_I a0), .int (q_I x6)]) (rest := []) (st1 := [.int (q_I x8)]) cv_RX11_122 (c_M_ofEvent l D dA ra0 r6 hv7) (Nat.le_of_ble_eq_true rfl) q_kdM_0 rfl ⟨rfl, rfl, Nat.le_of_ble_eq_true rfl, Nat.le_of_ble_eq_true rfl⟩ ⟨Nat.le_refl _, Nat.le_refl _⟩ rfl hl.1 rfl (Nat.le_of_ble_eq_true rfl) rfl (fun _ g => g) dX11_clock_27 ?_
          clear hP hS hv7; intro H locs r8 hP hS _
          exact hj30 x8 _ _ _ r8 hP hS (lv_sub hl [] rfl) h
        · clear h; intro g9 h
          exact hj16  _ _ _ hP hS (lv_sub hl [] rfl) h
      · clear h; intro g10 h
        exact hj16  _ _ _ hP hS (lv_sub hl [] rfl) h
set_option maxHeartbeats 4000000 in
set_option maxRecDepth 100000 in
theorem c_M_isKnown (l : Launch) (D : va_G) (dA : Nat → ClassId) {z sz : Nat} {a0 : Int} (ra0 : q_R a0) {a1 : Int} (ra1 : q_R a1) {μ : q_M} {xo : Int} (h : f_M_isKnown a0 a1 μ = some xo) : Met l yX11_isKnown (q_wc yX11_isKnown cX11_isKnown 3 (some .boolean)) ({ frames := 1, cells := 0, slots := 0, locals := 22 } : Room) (va_Pc [.ref (z + 0), .int (q_I a0), .int (q_I a1)] (q_B (q_P D dA q_kdM q_rhoM 22 z sz μ) D dA)) (q_Q (some (.int (q_I xo))) (q_R xo) (q_P D dA q_kdM q_rhoM 22 z sz μ) (q_A z 22)) 0 0 (q_A z 22) := by
  refine Met.ofW (cc := cX11_isKnown) (maxL := 3) (ret := (some .boolean)) (by decide) rfl ?_
  intro p e s m args below meth c s₁ B hml hv
  obtain ⟨hargs, hP, hK⟩ := hv
  have hx := B.exec
  have hb := B.bytes
  have hr := B.returns
  have hts : ∀ w ∈ q_W, w.before args s = true := fun w hw => atoms_spec (ws := q_wc yX11_isKnown cX11_isKnown 3 (some .boolean)) B.pre w (List.mem_cons_of_mem _ hw)
  have hown : s.vm.findClass RX11 = some m.cls := findClass_of_methodNamed B.named
  have hlocks := B.notSynchronized
  have hS : va_S (q_A z 22) s.heap s.heap [] := va_S.rf
  have hA : ∀ k, k < 22 → q_A z 22 (z + k) := fun k hk => ⟨Nat.le_add_right z k, Nat.add_lt_add_left hk z⟩
  have hl := lv_entry [.ref (z + 0), .int (q_I a0), .int (q_I a1)] (n := 3) (Nat.le_of_ble_eq_true rfl)
  refine W.eq (by rw [hargs, lg_entry_eq]) ?_
  generalize (lg_sl [.ref (z + 0), .int (q_I a0), .int (q_I a1)] ++ List.replicate (3 - (lg_sl [.ref (z + 0), .int (q_I a0), .int (q_I a1)]).length) Slot.unset).toArray = ls at hl ⊢
  have hl : lv_has ls 3 [(0, .ref (z + 0)), (1, .int (q_I a0)), (2, .int (q_I a1))] := hl
  generalize hQ : MQ below _ args s 0 0 _ = Qf
  change W p l e ({ frames := 1, cells := 0, slots := 0, locals := 22 } : Room) s m args below meth c s.heap [] 0 0 Qf (F0 m 0 ls [])
  unfold f_M_isKnown at h
  refine lv_aload_n hx hb dX11_isKnown_0 rfl (lv_at hl 0 rfl) ?_
  refine lv_iload_n hx hb dX11_isKnown_1 rfl (lv_at hl 2 rfl) ?_
  refine lv_bipush (v := q_I 7) hx hb dX11_isKnown_2 (by decide) ?_
  refine lv_aload_n hx hb dX11_isKnown_4 rfl (lv_at hl 0 rfl) ?_
  refine lv_iload_n hx hb dX11_isKnown_5 rfl (lv_at hl 1 rfl) ?_
  refine lv_iconst (v := q_I 0) hx hb dX11_isKnown_6 rfl ?_
  obtain ⟨x2, hv1, h⟩ := q_b_some h
  refine q_callV hx hb hml hts hown hK hP hS (As := [.int (q_I a0), .int (q_I 0)]) (rest := [.int (q_I 7), .int (q_I a1), .ref (z + 0)]) (st1 := [.int (q_I x2), .int (q_I 7), .int (q_I a1), .ref (z + 0)]) cv_RX11_122 (c_M_ofEvent l D dA ra0 (q_r 0 rfl) hv1) (Nat.le_of_ble_eq_true rfl) q_kdM_0 rfl ⟨rfl, rfl, Nat.le_of_ble_eq_true rfl, Nat.le_of_ble_eq_true rfl⟩ ⟨Nat.le_refl _, Nat.le_refl _⟩ rfl hl.1 rfl (Nat.le_of_ble_eq_true rfl) rfl (fun _ g => g) dX11_isKnown_7 ?_
  clear hP hS hv1; intro H locs r2 hP hS _
  refine q_iadd hx hb dX11_isKnown_10 h ?_
  clear h; intro x3 r3 h
  obtain ⟨x5, hv4, h⟩ := q_b_some h
  refine q_callV hx hb hml hts hown hK hP hS (As := [.int (q_I a1), .int (q_I x3)]) (rest := []) (st1 := [.int (q_I x5)]) cv_RX11_122 (c_M_ofEvent l D dA ra1 r3 hv4) (Nat.le_of_ble_eq_true rfl) q_kdM_0 rfl ⟨rfl, rfl, Nat.le_of_ble_eq_true rfl, Nat.le_of_ble_eq_true rfl⟩ ⟨Nat.le_refl _, Nat.le_refl _⟩ rfl hl.1 rfl (Nat.le_of_ble_eq_true rfl) rfl (fun _ g => g) dX11_isKnown_11 ?_
  clear hP hS hv4; intro H locs r5 hP hS _
  refine lv_aload_n hx hb dX11_isKnown_14 rfl (lv_at hl 0 rfl) ?_
  refine lv_iload_n hx hb dX11_isKnown_15 rfl (lv_at hl 1 rfl) ?_
  refine lv_bipush (v := q_I 6) hx hb dX11_isKnown_16 (by decide) ?_
  obtain ⟨x7, hv6, h⟩ := q_b_some h
  refine q_callV hx hb hml hts hown hK hP hS (As := [.int (q_I a0), .int (q_I 6)]) (rest := [.int (q_I x5)]) (st1 := [.int (q_I x7), .int (q_I x5)]) cv_RX11_122 (c_M_ofEvent l D dA ra0 (q_r 6 rfl) hv6) (Nat.le_of_ble_eq_true rfl) q_kdM_0 rfl ⟨rfl, rfl, Nat.le_of_ble_eq_true rfl, Nat.le_of_ble_eq_true rfl⟩ ⟨Nat.le_refl _, Nat.le_refl _⟩ rfl hl.1 rfl (Nat.le_of_ble_eq_true rfl) rfl (fun _ g => g) dX11_isKnown_18 ?_
  clear hP hS hv6; intro H locs r7 hP hS _
  refine q_jn_in h (fun J => ∀ (x8 : Int) (H : Heap) (locs : List Loc) (ls : Array Slot), q_R x8 → q_P D dA q_kdM q_rhoM 22 z sz μ H → va_S (q_A z 22) s.heap H locs → lv_has ls 3 [] → J x8 = some xo → W p l e ({ frames := 1, cells := 0, slots := 0, locals := 22 } : Room) s m args below meth c H locs 0 0 Qf (F0 m 29 ls [.int (q_I x8)])) ?_ ?_
  · clear h hl hP hS; intro x8 H locs ls r8 hP hS hl h
    rw [← hQ]
    obtain ⟨hz, h⟩ := q_rz_some h
    exact q_retz1 hx hb hr hlocks hP hS hz h dX11_isKnown_29
  · clear h; intro j29 hj29 h
    refine q_cle hx hb r5 r7 (tgt := 28) dX11_isKnown_21 (by decide) h ?_ ?_
    · clear h; intro g9 h
      refine lv_iconst (v := q_I 0) hx hb dX11_isKnown_28 rfl ?_
      exact hj29 0 _ _ _ (q_r 0 rfl) hP hS (lv_sub hl [] rfl) h
    · clear h; intro g9 h
      refine lv_iconst (v := q_I 1) hx hb dX11_isKnown_24 rfl ?_
      refine lv_goto (tgt := 29) hx hb dX11_isKnown_25 (by decide) ?_
      exact hj29 1 _ _ _ (q_r 1 rfl) hP hS (lv_sub hl [] rfl) h
set_option maxHeartbeats 4000000 in
set_option maxRecDepth 100000 in
theorem c_M_order (l : Launch) (D : va_G) (dA : Nat → ClassId) {z sz : Nat} {a0 : Int} (ra0 : q_R a0) {a1 : Int} (ra1 : q_R a1) {μ : q_M} {xo : Int} (h : f_M_order a0 a1 μ = some xo) : Met l yX11_order (q_wc yX11_order cX11_order 3 (some .int)) ({ frames := 2, cells := 0, slots := 0, locals := 44 } : Room) (va_Pc [.ref (z + 0), .int (q_I a0), .int (q_I a1)] (q_B (q_P D dA q_kdM q_rhoM 22 z sz μ) D dA)) (q_Q (some (.int (q_I xo))) (q_R xo) (q_P D dA q_kdM q_rhoM 22 z sz μ) (q_A z 22)) 0 0 (q_A z 22) := by
  refine Met.ofW (cc := cX11_order) (maxL := 3) (ret := (some .int)) (by decide) rfl ?_
  intro p e s m args below meth c s₁ B hml hv
  obtain ⟨hargs, hP, hK⟩ := hv
  have hx := B.exec
  have hb := B.bytes
  have hr := B.returns
  have hts : ∀ w ∈ q_W, w.before args s = true := fun w hw => atoms_spec (ws := q_wc yX11_order cX11_order 3 (some .int)) B.pre w (List.mem_cons_of_mem _ hw)
  have hown : s.vm.findClass RX11 = some m.cls := findClass_of_methodNamed B.named
  have hlocks := B.notSynchronized
  have hS : va_S (q_A z 22) s.heap s.heap [] := va_S.rf
  have hA : ∀ k, k < 22 → q_A z 22 (z + k) := fun k hk => ⟨Nat.le_add_right z k, Nat.add_lt_add_left hk z⟩
  have hl := lv_entry [.ref (z + 0), .int (q_I a0), .int (q_I a1)] (n := 3) (Nat.le_of_ble_eq_true rfl)
  refine W.eq (by rw [hargs, lg_entry_eq]) ?_
  generalize (lg_sl [.ref (z + 0), .int (q_I a0), .int (q_I a1)] ++ List.replicate (3 - (lg_sl [.ref (z + 0), .int (q_I a0), .int (q_I a1)]).length) Slot.unset).toArray = ls at hl ⊢
  have hl : lv_has ls 3 [(0, .ref (z + 0)), (1, .int (q_I a0)), (2, .int (q_I a1))] := hl
  generalize hQ : MQ below _ args s 0 0 _ = Qf
  change W p l e ({ frames := 2, cells := 0, slots := 0, locals := 44 } : Room) s m args below meth c s.heap [] 0 0 Qf (F0 m 0 ls [])
  unfold f_M_order at h
  refine lv_aload_n hx hb dX11_order_0 rfl (lv_at hl 0 rfl) ?_
  refine lv_iload_n hx hb dX11_order_1 rfl (lv_at hl 1 rfl) ?_
  obtain ⟨x2, hv1, h⟩ := q_b_some h
  refine q_callV hx hb hml hts hown hK hP hS (As := [.int (q_I a0)]) (rest := []) (st1 := [.int (q_I x2)]) cv_RX11_163 (c_M_noEvent l D dA ra0 hv1) (Nat.le_of_ble_eq_true rfl) q_kdM_0 rfl ⟨rfl, rfl, Nat.le_of_ble_eq_true rfl, Nat.le_of_ble_eq_true rfl⟩ ⟨Nat.le_refl _, Nat.le_refl _⟩ rfl hl.1 rfl (Nat.le_of_ble_eq_true rfl) rfl (fun _ g => g) dX11_order_2 ?_
  clear hP hS hv1; intro H locs r2 hP hS _
  refine q_jn_in h (fun J => ∀ (H : Heap) (locs : List Loc) (ls : Array Slot), q_P D dA q_kdM q_rhoM 22 z sz μ H → va_S (q_A z 22) s.heap H locs → lv_has ls 3 [] → J = some xo → W p l e ({ frames := 2, cells := 0, slots := 0, locals := 44 } : Room) s m args below meth c H locs 0 0 Qf (F0 m 16 ls [])) ?_ ?_
  · clear h hl hP hS; intro  H locs ls  hP hS hl h
    refine lv_ldc hx hb hown (hts _ ck_RX11_112) dX11_order_16 ?_
    rw [← hQ]
    exact q_ret1 hx hb hr hlocks hP hS (q_r (-100001) rfl) h dX11_order_18
  · clear h; intro j16 hj16 h
    refine q_zne hx hb r2 (tgt := 16) dX11_order_5 (by decide) h ?_ ?_
    · clear h; intro g14 h
      refine lv_aload_n hx hb dX11_order_8 rfl (lv_at hl 0 rfl) ?_
      refine lv_iload_n hx hb dX11_order_9 rfl (lv_at hl 2 rfl) ?_
      obtain ⟨x4, hv3, h⟩ := q_b_some h
      refine q_callV hx hb hml hts hown hK hP hS (As := [.int (q_I a1)]) (rest := []) (st1 := [.int (q_I x4)]) cv_RX11_163 (c_M_noEvent l D dA ra1 hv3) (Nat.le_of_ble_eq_true rfl) q_kdM_0 rfl ⟨rfl, rfl, Nat.le_of_ble_eq_true rfl, Nat.le_of_ble_eq_true rfl⟩ ⟨Nat.le_refl _, Nat.le_refl _⟩ rfl hl.1 rfl (Nat.le_of_ble_eq_true rfl) rfl (fun _ g => g) dX11_order_10 ?_
      clear hP hS hv3; intro H locs r4 hP hS _
      refine q_zeq hx hb r4 (tgt := 19) dX11_order_13 (by decide) h ?_ ?_
      · clear h; intro g13 h
        refine lv_iload_n hx hb dX11_order_19 rfl (lv_at hl 1 rfl) ?_
        refine lv_iload_n hx hb dX11_order_20 rfl (lv_at hl 2 rfl) ?_
        refine q_jn_in h (fun J => ∀ (x5 : Int) (H : Heap) (locs : List Loc) (ls : Array Slot), q_R x5 → q_P D dA q_kdM q_rhoM 22 z sz μ H → va_S (q_A z 22) s.heap H locs → lv_has ls 3 [] → J x5 = some xo → W p l e ({ frames := 2, cells := 0, slots := 0, locals := 44 } : Room) s m args below meth c H locs 0 0 Qf (F0 m 55 ls [.int (q_I x5)])) ?_ ?_
        · clear h hl hP hS; intro x5 H locs ls r5 hP hS hl h
          rw [← hQ]
          exact q_ret1 hx hb hr hlocks hP hS r5 h dX11_order_55
        · clear h; intro j55 hj55 h
          refine q_cne hx hb ra0 ra1 (tgt := 28) dX11_order_21 (by decide) h ?_ ?_
          · clear h; intro g12 h
            refine lv_iconst (v := q_I 0) hx hb dX11_order_24 rfl ?_
            refine lv_goto (tgt := 55) hx hb dX11_order_25 (by decide) ?_
            exact hj55 0 _ _ _ (q_r 0 rfl) hP hS (lv_sub hl [] rfl) h
          · clear h; intro g12 h
            refine lv_aload_n hx hb dX11_order_28 rfl (lv_at hl 0 rfl) ?_
            refine lv_iload_n hx hb dX11_order_29 rfl (lv_at hl 1 rfl) ?_
            refine lv_iload_n hx hb dX11_order_30 rfl (lv_at hl 2 rfl) ?_
            obtain ⟨x7, hv6, h⟩ := q_b_some h
            refine q_callV hx hb hml hts hown hK hP hS (As := [.int (q_I a0), .int (q_I a1)]) (rest := []) (st1 := [.int (q_I x7)]) cv_RX11_166 (c_M_isKnown l D dA ra0 ra1 hv6) (Nat.le_of_ble_eq_true rfl) q_kdM_0 rfl ⟨rfl, rfl, Nat.le_of_ble_eq_true rfl, Nat.le_of_ble_eq_true rfl⟩ ⟨Nat.le_refl _, Nat.le_refl _⟩ rfl hl.1 rfl (Nat.le_of_ble_eq_true rfl) rfl (fun _ g => g) dX11_order_31 ?_
            clear hP hS hv6; intro H locs r7 hP hS _
            refine q_zeq hx hb r7 (tgt := 41) dX11_order_34 (by decide) h ?_ ?_
            · clear h; intro g11 h
              refine lv_aload_n hx hb dX11_order_41 rfl (lv_at hl 0 rfl) ?_
              refine lv_iload_n hx hb dX11_order_42 rfl (lv_at hl 2 rfl) ?_
              refine lv_iload_n hx hb dX11_order_43 rfl (lv_at hl 1 rfl) ?_
              obtain ⟨x9, hv8, h⟩ := q_b_some h
              refine q_callV hx hb hml hts hown hK hP hS (As := [.int (q_I a1), .int (q_I a0)]) (rest := []) (st1 := [.int (q_I x9)]) cv_RX11_166 (c_M_isKnown l D dA ra1 ra0 hv8) (Nat.le_of_ble_eq_true rfl) q_kdM_0 rfl ⟨rfl, rfl, Nat.le_of_ble_eq_true rfl, Nat.le_of_ble_eq_true rfl⟩ ⟨Nat.le_refl _, Nat.le_refl _⟩ rfl hl.1 rfl (Nat.le_of_ble_eq_true rfl) rfl (fun _ g => g) dX11_order_44 ?_
              clear hP hS hv8; intro H locs r9 hP hS _
              refine q_zeq hx hb r9 (tgt := 54) dX11_order_47 (by decide) h ?_ ?_
              · clear h; intro g10 h
                refine lv_iconst (v := q_I 0) hx hb dX11_order_54 rfl ?_
                exact hj55 0 _ _ _ (q_r 0 rfl) hP hS (lv_sub hl [] rfl) h
              · clear h; intro g10 h
                refine lv_iconst (v := q_I (-1)) hx hb dX11_order_50 rfl ?_
                refine lv_goto (tgt := 55) hx hb dX11_order_51 (by decide) ?_
                exact hj55 ((-1)) _ _ _ (q_r (-1) rfl) hP hS (lv_sub hl [] rfl) h
            · clear h; intro g11 h
              refine lv_iconst (v := q_I 1) hx hb dX11_order_37 rfl ?_
              refine lv_goto (tgt := 55) hx hb dX11_order_38 (by decide) ?_
              exact hj55 1 _ _ _ (q_r 1 rfl) hP hS (lv_sub hl [] rfl) h
      · clear h; intro g13 h
        exact hj16  _ _ _ hP hS (lv_sub hl [] rfl) h
    · clear h; intro g14 h
      exact hj16  _ _ _ hP hS (lv_sub hl [] rfl) h
set_option maxHeartbeats 4000000 in
set_option maxRecDepth 100000 in
theorem c_M_cutSize (l : Launch) (D : va_G) (dA : Nat → ClassId) {z sz : Nat} {N : Nat} {μ : q_M} {xo : Int} (h : f_M_cutSize N μ = some xo) : Met l yX11_cutSize (q_wc yX11_cutSize cX11_cutSize 3 (some .int)) ({ frames := 0, cells := 0, slots := 0, locals := 0 } : Room) (va_Pc [.ref (z + 0)] (q_B (q_P D dA q_kdM q_rhoM 22 z sz μ) D dA)) (q_Q (some (.int (q_I xo))) (q_R xo) (q_P D dA q_kdM q_rhoM 22 z sz μ) (q_A z 22)) 0 0 (q_A z 22) := by
  refine Met.ofW (cc := cX11_cutSize) (maxL := 3) (ret := (some .int)) (by decide) rfl ?_
  intro p e s m args below meth c s₁ B hml hv
  obtain ⟨hargs, hP, hK⟩ := hv
  have hx := B.exec
  have hb := B.bytes
  have hr := B.returns
  have hts : ∀ w ∈ q_W, w.before args s = true := fun w hw => atoms_spec (ws := q_wc yX11_cutSize cX11_cutSize 3 (some .int)) B.pre w (List.mem_cons_of_mem _ hw)
  have hown : s.vm.findClass RX11 = some m.cls := findClass_of_methodNamed B.named
  have hlocks := B.notSynchronized
  have hS : va_S (q_A z 22) s.heap s.heap [] := va_S.rf
  have hA : ∀ k, k < 22 → q_A z 22 (z + k) := fun k hk => ⟨Nat.le_add_right z k, Nat.add_lt_add_left hk z⟩
  have hl := lv_entry [.ref (z + 0)] (n := 3) (Nat.le_of_ble_eq_true rfl)
  refine W.eq (by rw [hargs, lg_entry_eq]) ?_
  generalize (lg_sl [.ref (z + 0)] ++ List.replicate (3 - (lg_sl [.ref (z + 0)]).length) Slot.unset).toArray = ls at hl ⊢
  have hl : lv_has ls 3 [(0, .ref (z + 0))] := hl
  generalize hQ : MQ below _ args s 0 0 _ = Qf
  change W p l e ({ frames := 0, cells := 0, slots := 0, locals := 0 } : Room) s m args below meth c s.heap [] 0 0 Qf (F0 m 0 ls [])
  unfold f_M_cutSize at h
  refine lv_iconst (v := q_I 0) hx hb dX11_cutSize_0 rfl ?_
  refine lv_istore_n (lv' := [(1, .int (q_I 0)), (0, .ref (z + 0))]) hx hb dX11_cutSize_1 rfl hl (by decide) rfl ?_
  clear hl; intro ls hl
  refine lv_iconst (v := q_I 0) hx hb dX11_cutSize_2 rfl ?_
  refine lv_istore_n (lv' := [(2, .int (q_I 0)), (1, .int (q_I 0)), (0, .ref (z + 0))]) hx hb dX11_cutSize_3 rfl hl (by decide) rfl ?_
  clear hl; intro ls hl
  have L4 : ∀ (k30 : Int → Option Int), (∀ (x3 : Int) (H : Heap) (locs : List Loc) (ls : Array Slot), q_R x3 → q_P D dA q_kdM q_rhoM 22 z sz μ H → va_S (q_A z 22) s.heap H locs → lv_has ls 3 [(1, .int (q_I x3))] → k30 x3 = some xo → W p l e ({ frames := 0, cells := 0, slots := 0, locals := 0 } : Room) s m args below meth c H locs 0 0 Qf (F0 m 30 ls [])) → ∀ (nf4 : Nat) (x1 : Int) (x2 : Int) (H : Heap) (locs : List Loc) (ls : Array Slot), q_R x1 → q_R x2 → q_P D dA q_kdM q_rhoM 22 z sz μ H → va_S (q_A z 22) s.heap H locs → lv_has ls 3 [(0, .ref (z + 0)), (1, .int (q_I x1)), (2, .int (q_I x2))] → f_M_cutSize_L4 μ k30 nf4 x1 x2 = some xo → W p l e ({ frames := 0, cells := 0, slots := 0, locals := 0 } : Room) s m args below meth c H locs 0 0 Qf (F0 m 4 ls []) := by
    clear h hl hP hS
    intro k30 hk30 nf4
    induction nf4 with
    | zero =>
      intro x1 x2 H locs ls r1 r2 hP hS hl h
      rw [f_M_cutSize_L4] at h
      cases h
    | succ nf4 ih4 =>
      intro x1 x2 H locs ls r1 r2 hP hS hl h
      rw [f_M_cutSize_L4] at h
      refine lv_iload_n hx hb dX11_cutSize_4 rfl (lv_at hl 2 rfl) ?_
      refine lv_aload_n hx hb dX11_cutSize_5 rfl (lv_at hl 0 rfl) ?_
      refine q_getI hx hb hts hown hK hP fd_RX11_79 (Nat.le_of_ble_eq_true rfl) q_kdM_0 rfl dX11_cutSize_6 h ?_
      clear h; intro x4 r4 h
      refine q_cge hx hb r2 r4 (tgt := 30) dX11_cutSize_9 (by decide) h ?_ ?_
      · clear h; intro g9 h
        exact hk30 x1 _ _ _ r1 hP hS (lv_sub hl [1] rfl) h
      · clear h; intro g9 h
        refine lv_iload_n hx hb dX11_cutSize_12 rfl (lv_at hl 1 rfl) ?_
        refine lv_aload_n hx hb dX11_cutSize_13 rfl (lv_at hl 0 rfl) ?_
        refine q_getR hx hb hts hown hK hP fd_RX11_7 (Nat.le_of_ble_eq_true rfl) q_kdM_0 rfl q_rhM_0_1 dX11_cutSize_14 ?_
        refine lv_bipush (v := q_I 20) hx hb dX11_cutSize_17 (by decide) ?_
        refine lv_iload_n hx hb dX11_cutSize_19 rfl (lv_at hl 2 rfl) ?_
        refine q_iadd hx hb dX11_cutSize_20 h ?_
        clear h; intro x5 r5 h
        refine q_iald hx hb hK hP (Nat.le_of_ble_eq_true rfl) q_kdM_1 r5 dX11_cutSize_21 h ?_
        clear h; intro x6 r6 h
        refine q_iadd hx hb dX11_cutSize_22 h ?_
        clear h; intro x7 r7 h
        refine lv_istore_n (lv' := [(1, .int (q_I x7)), (0, .ref (z + 0)), (2, .int (q_I x2))]) hx hb dX11_cutSize_23 rfl hl (by decide) rfl ?_
        clear hl; intro ls hl
        refine q_iinc (k := 2) (lv' := fun t => [(2, .int (q_I t)), (1, .int (q_I x7)), (0, .ref (z + 0))]) hx hb dX11_cutSize_24 hl rfl (by decide) (fun _ => rfl) h ?_
        clear h hl; intro x8 ls r8 hl h
        refine lv_goto (tgt := 4) hx hb dX11_cutSize_27 (by decide) ?_
        exact ih4 x7 x8 _ _ _ r7 r8 hP hS (lv_sub hl [2, 1, 0] rfl) h
  refine L4 _ ?_  _ 0 0 _ _ _ (q_r 0 rfl) (q_r 0 rfl) hP hS (lv_sub hl [2, 1, 0] rfl) h
  · clear h hl hP hS; intro x3 H locs ls r3 hP hS hl h
    refine lv_iload_n hx hb dX11_cutSize_30 rfl (lv_at hl 0 rfl) ?_
    rw [← hQ]
    exact q_ret1 hx hb hr hlocks hP hS r3 h dX11_cutSize_31
set_option maxHeartbeats 4000000 in
set_option maxRecDepth 100000 in
theorem c_M_count (l : Launch) (D : va_G) (dA : Nat → ClassId) {z sz : Nat} {N : Nat} {a0 : Int} (ra0 : q_R a0) {μ : q_M} {xo : Int} (h : f_M_count N a0 μ = some xo) : Met l yX11_count (q_wc yX11_count cX11_count 4 (some .int)) ({ frames := 1, cells := 0, slots := 0, locals := 22 } : Room) (va_Pc [.ref (z + 0), .int (q_I a0)] (q_B (q_P D dA q_kdM q_rhoM 22 z sz μ) D dA)) (q_Q (some (.int (q_I xo))) (q_R xo) (q_P D dA q_kdM q_rhoM 22 z sz μ) (q_A z 22)) 0 0 (q_A z 22) := by
  refine Met.ofW (cc := cX11_count) (maxL := 4) (ret := (some .int)) (by decide) rfl ?_
  intro p e s m args below meth c s₁ B hml hv
  obtain ⟨hargs, hP, hK⟩ := hv
  have hx := B.exec
  have hb := B.bytes
  have hr := B.returns
  have hts : ∀ w ∈ q_W, w.before args s = true := fun w hw => atoms_spec (ws := q_wc yX11_count cX11_count 4 (some .int)) B.pre w (List.mem_cons_of_mem _ hw)
  have hown : s.vm.findClass RX11 = some m.cls := findClass_of_methodNamed B.named
  have hlocks := B.notSynchronized
  have hS : va_S (q_A z 22) s.heap s.heap [] := va_S.rf
  have hA : ∀ k, k < 22 → q_A z 22 (z + k) := fun k hk => ⟨Nat.le_add_right z k, Nat.add_lt_add_left hk z⟩
  have hl := lv_entry [.ref (z + 0), .int (q_I a0)] (n := 4) (Nat.le_of_ble_eq_true rfl)
  refine W.eq (by rw [hargs, lg_entry_eq]) ?_
  generalize (lg_sl [.ref (z + 0), .int (q_I a0)] ++ List.replicate (4 - (lg_sl [.ref (z + 0), .int (q_I a0)]).length) Slot.unset).toArray = ls at hl ⊢
  have hl : lv_has ls 4 [(0, .ref (z + 0)), (1, .int (q_I a0))] := hl
  generalize hQ : MQ below _ args s 0 0 _ = Qf
  change W p l e ({ frames := 1, cells := 0, slots := 0, locals := 22 } : Room) s m args below meth c s.heap [] 0 0 Qf (F0 m 0 ls [])
  unfold f_M_count at h
  refine lv_iconst (v := q_I 0) hx hb dX11_count_0 rfl ?_
  refine lv_istore_n (lv' := [(2, .int (q_I 0)), (0, .ref (z + 0)), (1, .int (q_I a0))]) hx hb dX11_count_1 rfl hl (by decide) rfl ?_
  clear hl; intro ls hl
  refine lv_iconst (v := q_I 0) hx hb dX11_count_2 rfl ?_
  refine lv_istore_n (lv' := [(3, .int (q_I 0)), (2, .int (q_I 0)), (0, .ref (z + 0)), (1, .int (q_I a0))]) hx hb dX11_count_3 rfl hl (by decide) rfl ?_
  clear hl; intro ls hl
  have L4 : ∀ (k38 : Int → Option Int), (∀ (x3 : Int) (H : Heap) (locs : List Loc) (ls : Array Slot), q_R x3 → q_P D dA q_kdM q_rhoM 22 z sz μ H → va_S (q_A z 22) s.heap H locs → lv_has ls 4 [(0, .ref (z + 0)), (1, .int (q_I a0)), (2, .int (q_I x3))] → k38 x3 = some xo → W p l e ({ frames := 1, cells := 0, slots := 0, locals := 22 } : Room) s m args below meth c H locs 0 0 Qf (F0 m 38 ls [])) → ∀ (nf4 : Nat) (x1 : Int) (x2 : Int) (H : Heap) (locs : List Loc) (ls : Array Slot), q_R x1 → q_R x2 → q_P D dA q_kdM q_rhoM 22 z sz μ H → va_S (q_A z 22) s.heap H locs → lv_has ls 4 [(0, .ref (z + 0)), (1, .int (q_I a0)), (2, .int (q_I x1)), (3, .int (q_I x2))] → f_M_count_L4 μ k38 nf4 x1 x2 = some xo → W p l e ({ frames := 1, cells := 0, slots := 0, locals := 22 } : Room) s m args below meth c H locs 0 0 Qf (F0 m 4 ls []) := by
    clear h hl hP hS
    intro k38 hk38 nf4
    induction nf4 with
    | zero =>
      intro x1 x2 H locs ls r1 r2 hP hS hl h
      rw [f_M_count_L4] at h
      cases h
    | succ nf4 ih4 =>
      intro x1 x2 H locs ls r1 r2 hP hS hl h
      rw [f_M_count_L4] at h
      refine lv_iload_n hx hb dX11_count_4 rfl (lv_at hl 3 rfl) ?_
      refine lv_aload_n hx hb dX11_count_5 rfl (lv_at hl 0 rfl) ?_
      refine q_getR hx hb hts hown hK hP fd_RX11_7 (Nat.le_of_ble_eq_true rfl) q_kdM_0 rfl q_rhM_0_1 dX11_count_6 ?_
      refine lv_bipush (v := q_I 37) hx hb dX11_count_9 (by decide) ?_
      refine q_iald hx hb hK hP (Nat.le_of_ble_eq_true rfl) q_kdM_1 (q_r 37 rfl) dX11_count_11 h ?_
      clear h; intro x4 r4 h
      refine q_cge hx hb r2 r4 (tgt := 38) dX11_count_12 (by decide) h ?_ ?_
      · clear h; intro g11 h
        exact hk38 x1 _ _ _ r1 hP hS (lv_sub hl [0, 1, 2] rfl) h
      · clear h; intro g11 h
        refine lv_iload_n hx hb dX11_count_15 rfl (lv_at hl 2 rfl) ?_
        refine lv_aload_n hx hb dX11_count_16 rfl (lv_at hl 0 rfl) ?_
        refine lv_iload_n hx hb dX11_count_17 rfl (lv_at hl 3 rfl) ?_
        refine lv_iconst (v := q_I 5) hx hb dX11_count_18 rfl ?_
        obtain ⟨x6, hv5, h⟩ := q_b_some h
        refine q_callV hx hb hml hts hown hK hP hS (As := [.int (q_I x2), .int (q_I 5)]) (rest := [.int (q_I x1)]) (st1 := [.int (q_I x6), .int (q_I x1)]) cv_RX11_114 (c_M_ofMessage l D dA r2 (q_r 5 rfl) hv5) (Nat.le_of_ble_eq_true rfl) q_kdM_0 rfl ⟨rfl, rfl, Nat.le_of_ble_eq_true rfl, Nat.le_of_ble_eq_true rfl⟩ ⟨Nat.le_refl _, Nat.le_refl _⟩ rfl hl.1 rfl (Nat.le_of_ble_eq_true rfl) rfl (fun _ g => g) dX11_count_19 ?_
        clear hP hS hv5; intro H locs r6 hP hS _
        refine q_jn_in h (fun J => ∀ (x7 : Int) (H : Heap) (locs : List Loc) (ls : Array Slot), q_R x7 → q_P D dA q_kdM q_rhoM 22 z sz μ H → va_S (q_A z 22) s.heap H locs → lv_has ls 4 [(0, .ref (z + 0)), (1, .int (q_I a0)), (3, .int (q_I x2))] → J x7 = some xo → W p l e ({ frames := 1, cells := 0, slots := 0, locals := 22 } : Room) s m args below meth c H locs 0 0 Qf (F0 m 30 ls [.int (q_I x7), .int (q_I x1)])) ?_ ?_
        · clear h hl hP hS; intro x7 H locs ls r7 hP hS hl h
          refine q_iadd hx hb dX11_count_30 h ?_
          clear h; intro x8 r8 h
          refine lv_istore_n (lv' := [(2, .int (q_I x8)), (0, .ref (z + 0)), (1, .int (q_I a0)), (3, .int (q_I x2))]) hx hb dX11_count_31 rfl hl (by decide) rfl ?_
          clear hl; intro ls hl
          refine q_iinc (k := 3) (lv' := fun t => [(3, .int (q_I t)), (2, .int (q_I x8)), (0, .ref (z + 0)), (1, .int (q_I a0))]) hx hb dX11_count_32 hl rfl (by decide) (fun _ => rfl) h ?_
          clear h hl; intro x9 ls r9 hl h
          refine lv_goto (tgt := 4) hx hb dX11_count_35 (by decide) ?_
          exact ih4 x8 x9 _ _ _ r8 r9 hP hS (lv_sub hl [2, 3, 1, 0] rfl) h
        · clear h; intro j30 hj30 h
          refine q_zge hx hb r6 (tgt := 29) dX11_count_22 (by decide) h ?_ ?_
          · clear h; intro g10 h
            refine lv_iconst (v := q_I 0) hx hb dX11_count_29 rfl ?_
            exact hj30 0 _ _ _ (q_r 0 rfl) hP hS (lv_sub hl [0, 1, 3] rfl) h
          · clear h; intro g10 h
            refine lv_iconst (v := q_I 1) hx hb dX11_count_25 rfl ?_
            refine lv_goto (tgt := 30) hx hb dX11_count_26 (by decide) ?_
            exact hj30 1 _ _ _ (q_r 1 rfl) hP hS (lv_sub hl [0, 1, 3] rfl) h
  refine L4 _ ?_  _ 0 0 _ _ _ (q_r 0 rfl) (q_r 0 rfl) hP hS (lv_sub hl [2, 3, 1, 0] rfl) h
  · clear h hl hP hS; intro x3 H locs ls r3 hP hS hl h
    refine lv_iload_n hx hb dX11_count_38 rfl (lv_at hl 1 rfl) ?_
    by_cases g13 : a0 = 0
    · rw [if_pos g13] at h
      refine q_tabIn (tgt := 84) (v := 0) hx hb ra0 g13 dX11_count_39 (by decide) (by decide) rfl (by decide) ?_
      refine lv_aload_n hx hb dX11_count_84 rfl (lv_at hl 0 rfl) ?_
      refine q_getI hx hb hts hown hK hP fd_RX11_79 (Nat.le_of_ble_eq_true rfl) q_kdM_0 rfl dX11_count_85 h ?_
      clear h; intro x12 r12 h
      rw [← hQ]
      exact q_ret1 hx hb hr hlocks hP hS r12 h dX11_count_88
    · rw [if_neg g13] at h
      by_cases g15 : a0 = 1
      · rw [if_pos g15] at h
        refine q_tabIn (tgt := 89) (v := 1) hx hb ra0 g15 dX11_count_39 (by decide) (by decide) rfl (by decide) ?_
        refine lv_aload_n hx hb dX11_count_89 rfl (lv_at hl 0 rfl) ?_
        refine q_getR hx hb hts hown hK hP fd_RX11_7 (Nat.le_of_ble_eq_true rfl) q_kdM_0 rfl q_rhM_0_1 dX11_count_90 ?_
        refine lv_bipush (v := q_I 36) hx hb dX11_count_93 (by decide) ?_
        refine q_iald hx hb hK hP (Nat.le_of_ble_eq_true rfl) q_kdM_1 (q_r 36 rfl) dX11_count_95 h ?_
        clear h; intro x14 r14 h
        rw [← hQ]
        exact q_ret1 hx hb hr hlocks hP hS r14 h dX11_count_96
      · rw [if_neg g15] at h
        by_cases g16 : a0 = 2
        · rw [if_pos g16] at h
          refine q_tabIn (tgt := 97) (v := 2) hx hb ra0 g16 dX11_count_39 (by decide) (by decide) rfl (by decide) ?_
          refine lv_iload_n hx hb dX11_count_97 rfl (lv_at hl 2 rfl) ?_
          rw [← hQ]
          exact q_ret1 hx hb hr hlocks hP hS r3 h dX11_count_98
        · rw [if_neg g16] at h
          by_cases g19 : a0 = 3
          · rw [if_pos g19] at h
            refine q_tabIn (tgt := 99) (v := 3) hx hb ra0 g19 dX11_count_39 (by decide) (by decide) rfl (by decide) ?_
            refine lv_aload_n hx hb dX11_count_99 rfl (lv_at hl 0 rfl) ?_
            obtain ⟨x18, hv17, h⟩ := q_b_some h
            refine q_callV hx hb hml hts hown hK hP hS (As := []) (rest := []) (st1 := [.int (q_I x18)]) cv_RX11_152 (c_M_markers l D dA hv17) (Nat.le_of_ble_eq_true rfl) q_kdM_0 rfl ⟨rfl, rfl, Nat.le_of_ble_eq_true rfl, Nat.le_of_ble_eq_true rfl⟩ ⟨Nat.le_refl _, Nat.le_refl _⟩ rfl hl.1 rfl (Nat.le_of_ble_eq_true rfl) rfl (fun _ g => g) dX11_count_100 ?_
            clear hP hS hv17; intro H locs r18 hP hS _
            rw [← hQ]
            exact q_ret1 hx hb hr hlocks hP hS r18 h dX11_count_103
          · rw [if_neg g19] at h
            by_cases g21 : a0 = 4
            · rw [if_pos g21] at h
              refine q_tabIn (tgt := 104) (v := 4) hx hb ra0 g21 dX11_count_39 (by decide) (by decide) rfl (by decide) ?_
              refine lv_aload_n hx hb dX11_count_104 rfl (lv_at hl 0 rfl) ?_
              refine q_getI hx hb hts hown hK hP fd_RX11_90 (Nat.le_of_ble_eq_true rfl) q_kdM_0 rfl dX11_count_105 h ?_
              clear h; intro x20 r20 h
              rw [← hQ]
              exact q_ret1 hx hb hr hlocks hP hS r20 h dX11_count_108
            · rw [if_neg g21] at h
              by_cases g23 : a0 = 5
              · rw [if_pos g23] at h
                refine q_tabIn (tgt := 109) (v := 5) hx hb ra0 g23 dX11_count_39 (by decide) (by decide) rfl (by decide) ?_
                refine lv_aload_n hx hb dX11_count_109 rfl (lv_at hl 0 rfl) ?_
                refine q_getR hx hb hts hown hK hP fd_RX11_7 (Nat.le_of_ble_eq_true rfl) q_kdM_0 rfl q_rhM_0_1 dX11_count_110 ?_
                refine lv_bipush (v := q_I 35) hx hb dX11_count_113 (by decide) ?_
                refine q_iald hx hb hK hP (Nat.le_of_ble_eq_true rfl) q_kdM_1 (q_r 35 rfl) dX11_count_115 h ?_
                clear h; intro x22 r22 h
                rw [← hQ]
                exact q_ret1 hx hb hr hlocks hP hS r22 h dX11_count_116
              · rw [if_neg g23] at h
                by_cases g26 : a0 = 6
                · rw [if_pos g26] at h
                  refine q_tabIn (tgt := 117) (v := 6) hx hb ra0 g26 dX11_count_39 (by decide) (by decide) rfl (by decide) ?_
                  refine lv_aload_n hx hb dX11_count_117 rfl (lv_at hl 0 rfl) ?_
                  obtain ⟨x25, hv24, h⟩ := q_b_some h
                  refine q_callV hx hb hml hts hown hK hP hS (As := []) (rest := []) (st1 := [.int (q_I x25)]) cv_RX11_169 (c_M_cutSize l D dA hv24) (Nat.le_of_ble_eq_true rfl) q_kdM_0 rfl ⟨rfl, rfl, Nat.le_of_ble_eq_true rfl, Nat.le_of_ble_eq_true rfl⟩ ⟨Nat.le_refl _, Nat.le_refl _⟩ rfl hl.1 rfl (Nat.le_of_ble_eq_true rfl) rfl (fun _ g => g) dX11_count_118 ?_
                  clear hP hS hv24; intro H locs r25 hP hS _
                  rw [← hQ]
                  exact q_ret1 hx hb hr hlocks hP hS r25 h dX11_count_121
                · rw [if_neg g26] at h
                  by_cases g30 : a0 = 7
                  · rw [if_pos g30] at h
                    refine q_tabIn (tgt := 122) (v := 7) hx hb ra0 g30 dX11_count_39 (by decide) (by decide) rfl (by decide) ?_
                    refine lv_aload_n hx hb dX11_count_122 rfl (lv_at hl 0 rfl) ?_
                    refine q_getI hx hb hts hown hK hP fd_RX11_86 (Nat.le_of_ble_eq_true rfl) q_kdM_0 rfl dX11_count_123 h ?_
                    clear h; intro x27 r27 h
                    refine q_jn_in h (fun J => ∀ (x28 : Int) (H : Heap) (locs : List Loc) (ls : Array Slot), q_R x28 → q_P D dA q_kdM q_rhoM 22 z sz μ H → va_S (q_A z 22) s.heap H locs → lv_has ls 4 [] → J x28 = some xo → W p l e ({ frames := 1, cells := 0, slots := 0, locals := 22 } : Room) s m args below meth c H locs 0 0 Qf (F0 m 134 ls [.int (q_I x28)])) ?_ ?_
                    · clear h hl hP hS; intro x28 H locs ls r28 hP hS hl h
                      rw [← hQ]
                      exact q_ret1 hx hb hr hlocks hP hS r28 h dX11_count_134
                    · clear h; intro j134 hj134 h
                      refine q_zeq hx hb r27 (tgt := 133) dX11_count_126 (by decide) h ?_ ?_
                      · clear h; intro g29 h
                        refine lv_iconst (v := q_I 0) hx hb dX11_count_133 rfl ?_
                        exact hj134 0 _ _ _ (q_r 0 rfl) hP hS (lv_sub hl [] rfl) h
                      · clear h; intro g29 h
                        refine lv_iconst (v := q_I 1) hx hb dX11_count_129 rfl ?_
                        refine lv_goto (tgt := 134) hx hb dX11_count_130 (by decide) ?_
                        exact hj134 1 _ _ _ (q_r 1 rfl) hP hS (lv_sub hl [] rfl) h
                  · rw [if_neg g30] at h
                    refine q_tabOut (tgt := 135) hx hb ra0 dX11_count_39 (by omega) (by decide) ?_
                    refine lv_ldc hx hb hown (hts _ ck_RX11_103) dX11_count_135 ?_
                    rw [← hQ]
                    exact q_ret1 hx hb hr hlocks hP hS (q_r (-100002) rfl) h dX11_count_137
set_option maxHeartbeats 4000000 in
set_option maxRecDepth 100000 in
theorem c_M_eventsOf (l : Launch) (D : va_G) (dA : Nat → ClassId) {z sz : Nat} {a0 : Int} (ra0 : q_R a0) {μ : q_M} {xo : Int} (h : f_M_eventsOf a0 μ = some xo) : Met l yX11_eventsOf (q_wc yX11_eventsOf cX11_eventsOf 2 (some .int)) ({ frames := 2, cells := 0, slots := 0, locals := 43 } : Room) (va_Pc [.ref (z + 0), .int (q_I a0)] (q_B (q_P D dA q_kdM q_rhoM 22 z sz μ) D dA)) (q_Q (some (.int (q_I xo))) (q_R xo) (q_P D dA q_kdM q_rhoM 22 z sz μ) (q_A z 22)) 0 0 (q_A z 22) := by
  refine Met.ofW (cc := cX11_eventsOf) (maxL := 2) (ret := (some .int)) (by decide) rfl ?_
  intro p e s m args below meth c s₁ B hml hv
  obtain ⟨hargs, hP, hK⟩ := hv
  have hx := B.exec
  have hb := B.bytes
  have hr := B.returns
  have hts : ∀ w ∈ q_W, w.before args s = true := fun w hw => atoms_spec (ws := q_wc yX11_eventsOf cX11_eventsOf 2 (some .int)) B.pre w (List.mem_cons_of_mem _ hw)
  have hown : s.vm.findClass RX11 = some m.cls := findClass_of_methodNamed B.named
  have hlocks := B.notSynchronized
  have hS : va_S (q_A z 22) s.heap s.heap [] := va_S.rf
  have hA : ∀ k, k < 22 → q_A z 22 (z + k) := fun k hk => ⟨Nat.le_add_right z k, Nat.add_lt_add_left hk z⟩
  have hl := lv_entry [.ref (z + 0), .int (q_I a0)] (n := 2) (Nat.le_of_ble_eq_true rfl)
  refine W.eq (by rw [hargs, lg_entry_eq]) ?_
  generalize (lg_sl [.ref (z + 0), .int (q_I a0)] ++ List.replicate (2 - (lg_sl [.ref (z + 0), .int (q_I a0)]).length) Slot.unset).toArray = ls at hl ⊢
  have hl : lv_has ls 2 [(0, .ref (z + 0)), (1, .int (q_I a0))] := hl
  generalize hQ : MQ below _ args s 0 0 _ = Qf
  change W p l e ({ frames := 2, cells := 0, slots := 0, locals := 43 } : Room) s m args below meth c s.heap [] 0 0 Qf (F0 m 0 ls [])
  unfold f_M_eventsOf at h
  refine lv_aload_n hx hb dX11_eventsOf_0 rfl (lv_at hl 0 rfl) ?_
  refine lv_iload_n hx hb dX11_eventsOf_1 rfl (lv_at hl 1 rfl) ?_
  obtain ⟨x2, hv1, h⟩ := q_b_some h
  refine q_callV hx hb hml hts hown hK hP hS (As := [.int (q_I a0)]) (rest := []) (st1 := [.int (q_I x2)]) cv_RX11_104 (c_M_noProcess l D dA ra0 hv1) (Nat.le_of_ble_eq_true rfl) q_kdM_0 rfl ⟨rfl, rfl, Nat.le_of_ble_eq_true rfl, Nat.le_of_ble_eq_true rfl⟩ ⟨Nat.le_refl _, Nat.le_refl _⟩ rfl hl.1 rfl (Nat.le_of_ble_eq_true rfl) rfl (fun _ g => g) dX11_eventsOf_2 ?_
  clear hP hS hv1; intro H locs r2 hP hS _
  refine q_jn_in h (fun J => ∀ (x3 : Int) (H : Heap) (locs : List Loc) (ls : Array Slot), q_R x3 → q_P D dA q_kdM q_rhoM 22 z sz μ H → va_S (q_A z 22) s.heap H locs → lv_has ls 2 [] → J x3 = some xo → W p l e ({ frames := 2, cells := 0, slots := 0, locals := 43 } : Room) s m args below meth c H locs 0 0 Qf (F0 m 22 ls [.int (q_I x3)])) ?_ ?_
  · clear h hl hP hS; intro x3 H locs ls r3 hP hS hl h
    rw [← hQ]
    exact q_ret1 hx hb hr hlocks hP hS r3 h dX11_eventsOf_22
  · clear h; intro j22 hj22 h
    refine q_zeq hx hb r2 (tgt := 13) dX11_eventsOf_5 (by decide) h ?_ ?_
    · clear h; intro g6 h
      refine lv_aload_n hx hb dX11_eventsOf_13 rfl (lv_at hl 0 rfl) ?_
      refine q_getR hx hb hts hown hK hP fd_RX11_7 (Nat.le_of_ble_eq_true rfl) q_kdM_0 rfl q_rhM_0_1 dX11_eventsOf_14 ?_
      refine lv_bipush (v := q_I 25) hx hb dX11_eventsOf_17 (by decide) ?_
      refine lv_iload_n hx hb dX11_eventsOf_19 rfl (lv_at hl 1 rfl) ?_
      refine q_iadd hx hb dX11_eventsOf_20 h ?_
      clear h; intro x4 r4 h
      refine q_iald hx hb hK hP (Nat.le_of_ble_eq_true rfl) q_kdM_1 r4 dX11_eventsOf_21 h ?_
      clear h; intro x5 r5 h
      exact hj22 x5 _ _ _ r5 hP hS (lv_sub hl [] rfl) h
    · clear h; intro g6 h
      refine lv_ldc hx hb hown (hts _ ck_RX11_112) dX11_eventsOf_8 ?_
      refine lv_goto (tgt := 22) hx hb dX11_eventsOf_10 (by decide) ?_
      exact hj22 ((-100001)) _ _ _ (q_r (-100001) rfl) hP hS (lv_sub hl [] rfl) h
set_option maxHeartbeats 4000000 in
set_option maxRecDepth 100000 in
theorem c_M_beginSnapshot (l : Launch) (D : va_G) (dA : Nat → ClassId) {z sz : Nat} {N : Nat} {a0 : Int} (ra0 : q_R a0) {μ : q_M} {xo : Int} {μo : q_M} (h : f_M_beginSnapshot N a0 μ = some (xo, μo)) : Met l yX11_beginSnapshot (q_wc yX11_beginSnapshot cX11_beginSnapshot 2 (some .int)) ({ frames := 2, cells := 0, slots := 0, locals := 43 } : Room) (va_Pc [.ref (z + 0), .int (q_I a0)] (q_B (q_P D dA q_kdM q_rhoM 22 z sz μ) D dA)) (q_Q (some (.int (q_I xo))) (q_R xo) (q_P D dA q_kdM q_rhoM 22 z sz μo) (q_A z 22)) 0 0 (q_A z 22) := by
  refine Met.ofW (cc := cX11_beginSnapshot) (maxL := 2) (ret := (some .int)) (by decide) rfl ?_
  intro p e s m args below meth c s₁ B hml hv
  obtain ⟨hargs, hP, hK⟩ := hv
  have hx := B.exec
  have hb := B.bytes
  have hr := B.returns
  have hts : ∀ w ∈ q_W, w.before args s = true := fun w hw => atoms_spec (ws := q_wc yX11_beginSnapshot cX11_beginSnapshot 2 (some .int)) B.pre w (List.mem_cons_of_mem _ hw)
  have hown : s.vm.findClass RX11 = some m.cls := findClass_of_methodNamed B.named
  have hlocks := B.notSynchronized
  have hS : va_S (q_A z 22) s.heap s.heap [] := va_S.rf
  have hA : ∀ k, k < 22 → q_A z 22 (z + k) := fun k hk => ⟨Nat.le_add_right z k, Nat.add_lt_add_left hk z⟩
  have hl := lv_entry [.ref (z + 0), .int (q_I a0)] (n := 2) (Nat.le_of_ble_eq_true rfl)
  refine W.eq (by rw [hargs, lg_entry_eq]) ?_
  generalize (lg_sl [.ref (z + 0), .int (q_I a0)] ++ List.replicate (2 - (lg_sl [.ref (z + 0), .int (q_I a0)]).length) Slot.unset).toArray = ls at hl ⊢
  have hl : lv_has ls 2 [(0, .ref (z + 0)), (1, .int (q_I a0))] := hl
  generalize hQ : MQ below _ args s 0 0 _ = Qf
  change W p l e ({ frames := 2, cells := 0, slots := 0, locals := 43 } : Room) s m args below meth c s.heap [] 0 0 Qf (F0 m 0 ls [])
  unfold f_M_beginSnapshot at h
  refine lv_aload_n hx hb dX11_beginSnapshot_0 rfl (lv_at hl 0 rfl) ?_
  refine lv_iload_n hx hb dX11_beginSnapshot_1 rfl (lv_at hl 1 rfl) ?_
  obtain ⟨x2, hv1, h⟩ := q_b_some h
  refine q_callV hx hb hml hts hown hK hP hS (As := [.int (q_I a0)]) (rest := []) (st1 := [.int (q_I x2)]) cv_RX11_104 (c_M_noProcess l D dA ra0 hv1) (Nat.le_of_ble_eq_true rfl) q_kdM_0 rfl ⟨rfl, rfl, Nat.le_of_ble_eq_true rfl, Nat.le_of_ble_eq_true rfl⟩ ⟨Nat.le_refl _, Nat.le_refl _⟩ rfl hl.1 rfl (Nat.le_of_ble_eq_true rfl) rfl (fun _ g => g) dX11_beginSnapshot_2 ?_
  clear hP hS hv1; intro H locs r2 hP hS _
  refine q_zeq hx hb r2 (tgt := 11) dX11_beginSnapshot_5 (by decide) h ?_ ?_
  · clear h; intro g12 h
    refine lv_aload_n hx hb dX11_beginSnapshot_11 rfl (lv_at hl 0 rfl) ?_
    refine q_getR hx hb hts hown hK hP fd_RX11_7 (Nat.le_of_ble_eq_true rfl) q_kdM_0 rfl q_rhM_0_1 dX11_beginSnapshot_12 ?_
    refine lv_bipush (v := q_I 35) hx hb dX11_beginSnapshot_15 (by decide) ?_
    refine q_iald hx hb hK hP (Nat.le_of_ble_eq_true rfl) q_kdM_1 (q_r 35 rfl) dX11_beginSnapshot_17 h ?_
    clear h; intro x3 r3 h
    refine lv_iconst (v := q_I 1) hx hb dX11_beginSnapshot_18 rfl ?_
    refine q_cne hx hb r3 (q_r 1 rfl) (tgt := 25) dX11_beginSnapshot_19 (by decide) h ?_ ?_
    · clear h; intro g11 h
      refine lv_ldc hx hb hown (hts _ ck_RX11_113) dX11_beginSnapshot_22 ?_
      rw [← hQ]
      exact q_ret2 hx hb hr hlocks hP hS (q_r (-100003) rfl) h dX11_beginSnapshot_24
    · clear h; intro g11 h
      refine lv_aload_n hx hb dX11_beginSnapshot_25 rfl (lv_at hl 0 rfl) ?_
      obtain ⟨μ5, hv4, h⟩ := q_b_some h
      refine q_callV hx hb hml hts hown hK hP hS (As := []) (rest := []) (st1 := []) cv_RX11_83 (c_M_clearSnapshot l D dA hv4) (Nat.le_of_ble_eq_true rfl) q_kdM_0 rfl ⟨rfl, rfl, Nat.le_of_ble_eq_true rfl, Nat.le_of_ble_eq_true rfl⟩ ⟨Nat.le_refl _, Nat.le_refl _⟩ rfl hl.1 rfl (Nat.le_of_ble_eq_true rfl) rfl (fun _ g => g) dX11_beginSnapshot_26 ?_
      clear hP hS hv4; intro H locs _ hP hS _
      refine lv_aload_n hx hb dX11_beginSnapshot_29 rfl (lv_at hl 0 rfl) ?_
      refine q_getR hx hb hts hown hK hP fd_RX11_7 (Nat.le_of_ble_eq_true rfl) q_kdM_0 rfl q_rhM_0_1 dX11_beginSnapshot_30 ?_
      refine lv_bipush (v := q_I 35) hx hb dX11_beginSnapshot_33 (by decide) ?_
      refine lv_iconst (v := q_I 1) hx hb dX11_beginSnapshot_35 rfl ?_
      refine q_iast hx hb hK hP hS hA (Nat.le_of_ble_eq_true rfl) q_kdM_1 (q_r 35 rfl) (q_r 1 rfl) dX11_beginSnapshot_36 h ?_
      clear h hP hS; intro μ6 H locs hP hS h
      refine lv_aload_n hx hb dX11_beginSnapshot_37 rfl (lv_at hl 0 rfl) ?_
      refine lv_iload_n hx hb dX11_beginSnapshot_38 rfl (lv_at hl 1 rfl) ?_
      obtain ⟨μ8, hv7, h⟩ := q_b_some h
      refine q_callV hx hb hml hts hown hK hP hS (As := [.int (q_I a0)]) (rest := []) (st1 := []) cv_RX11_149 (c_M_record l D dA ra0 hv7) (Nat.le_of_ble_eq_true rfl) q_kdM_0 rfl ⟨rfl, rfl, Nat.le_of_ble_eq_true rfl, Nat.le_of_ble_eq_true rfl⟩ ⟨Nat.le_refl _, Nat.le_refl _⟩ rfl hl.1 rfl (Nat.le_of_ble_eq_true rfl) rfl (fun _ g => g) dX11_beginSnapshot_39 ?_
      clear hP hS hv7; intro H locs _ hP hS _
      refine lv_aload_n hx hb dX11_beginSnapshot_42 rfl (lv_at hl 0 rfl) ?_
      obtain ⟨x10, hv9, h⟩ := q_b_some h
      refine q_callV hx hb hml hts hown hK hP hS (As := []) (rest := []) (st1 := [.int (q_I x10)]) cv_RX11_152 (c_M_markers l D dA hv9) (Nat.le_of_ble_eq_true rfl) q_kdM_0 rfl ⟨rfl, rfl, Nat.le_of_ble_eq_true rfl, Nat.le_of_ble_eq_true rfl⟩ ⟨Nat.le_refl _, Nat.le_refl _⟩ rfl hl.1 rfl (Nat.le_of_ble_eq_true rfl) rfl (fun _ g => g) dX11_beginSnapshot_43 ?_
      clear hP hS hv9; intro H locs r10 hP hS _
      rw [← hQ]
      exact q_ret2 hx hb hr hlocks hP hS r10 h dX11_beginSnapshot_46
  · clear h; intro g12 h
    refine lv_ldc hx hb hown (hts _ ck_RX11_112) dX11_beginSnapshot_8 ?_
    rw [← hQ]
    exact q_ret2 hx hb hr hlocks hP hS (q_r (-100001) rfl) h dX11_beginSnapshot_10
set_option maxHeartbeats 4000000 in
set_option maxRecDepth 100000 in
theorem c_M_abandonSnapshot (l : Launch) (D : va_G) (dA : Nat → ClassId) {z sz : Nat} {N : Nat} {μ : q_M} {xo : Int} {μo : q_M} (h : f_M_abandonSnapshot N μ = some (xo, μo)) : Met l yX11_abandonSnapshot (q_wc yX11_abandonSnapshot cX11_abandonSnapshot 2 (some .int)) ({ frames := 1, cells := 0, slots := 0, locals := 22 } : Room) (va_Pc [.ref (z + 0)] (q_B (q_P D dA q_kdM q_rhoM 22 z sz μ) D dA)) (q_Q (some (.int (q_I xo))) (q_R xo) (q_P D dA q_kdM q_rhoM 22 z sz μo) (q_A z 22)) 0 0 (q_A z 22) := by
  refine Met.ofW (cc := cX11_abandonSnapshot) (maxL := 2) (ret := (some .int)) (by decide) rfl ?_
  intro p e s m args below meth c s₁ B hml hv
  obtain ⟨hargs, hP, hK⟩ := hv
  have hx := B.exec
  have hb := B.bytes
  have hr := B.returns
  have hts : ∀ w ∈ q_W, w.before args s = true := fun w hw => atoms_spec (ws := q_wc yX11_abandonSnapshot cX11_abandonSnapshot 2 (some .int)) B.pre w (List.mem_cons_of_mem _ hw)
  have hown : s.vm.findClass RX11 = some m.cls := findClass_of_methodNamed B.named
  have hlocks := B.notSynchronized
  have hS : va_S (q_A z 22) s.heap s.heap [] := va_S.rf
  have hA : ∀ k, k < 22 → q_A z 22 (z + k) := fun k hk => ⟨Nat.le_add_right z k, Nat.add_lt_add_left hk z⟩
  have hl := lv_entry [.ref (z + 0)] (n := 2) (Nat.le_of_ble_eq_true rfl)
  refine W.eq (by rw [hargs, lg_entry_eq]) ?_
  generalize (lg_sl [.ref (z + 0)] ++ List.replicate (2 - (lg_sl [.ref (z + 0)]).length) Slot.unset).toArray = ls at hl ⊢
  have hl : lv_has ls 2 [(0, .ref (z + 0))] := hl
  generalize hQ : MQ below _ args s 0 0 _ = Qf
  change W p l e ({ frames := 1, cells := 0, slots := 0, locals := 22 } : Room) s m args below meth c s.heap [] 0 0 Qf (F0 m 0 ls [])
  unfold f_M_abandonSnapshot at h
  refine lv_aload_n hx hb dX11_abandonSnapshot_0 rfl (lv_at hl 0 rfl) ?_
  refine q_getR hx hb hts hown hK hP fd_RX11_7 (Nat.le_of_ble_eq_true rfl) q_kdM_0 rfl q_rhM_0_1 dX11_abandonSnapshot_1 ?_
  refine lv_bipush (v := q_I 35) hx hb dX11_abandonSnapshot_4 (by decide) ?_
  refine q_iald hx hb hK hP (Nat.le_of_ble_eq_true rfl) q_kdM_1 (q_r 35 rfl) dX11_abandonSnapshot_6 h ?_
  clear h; intro x1 r1 h
  refine lv_iconst (v := q_I 1) hx hb dX11_abandonSnapshot_7 rfl ?_
  refine q_ceq hx hb r1 (q_r 1 rfl) (tgt := 14) dX11_abandonSnapshot_8 (by decide) h ?_ ?_
  · clear h; intro g6 h
    refine lv_aload_n hx hb dX11_abandonSnapshot_14 rfl (lv_at hl 0 rfl) ?_
    obtain ⟨x3, hv2, h⟩ := q_b_some h
    refine q_callV hx hb hml hts hown hK hP hS (As := []) (rest := []) (st1 := [.int (q_I x3)]) cv_RX11_152 (c_M_markers l D dA hv2) (Nat.le_of_ble_eq_true rfl) q_kdM_0 rfl ⟨rfl, rfl, Nat.le_of_ble_eq_true rfl, Nat.le_of_ble_eq_true rfl⟩ ⟨Nat.le_refl _, Nat.le_refl _⟩ rfl hl.1 rfl (Nat.le_of_ble_eq_true rfl) rfl (fun _ g => g) dX11_abandonSnapshot_15 ?_
    clear hP hS hv2; intro H locs r3 hP hS _
    refine lv_istore_n (lv' := [(1, .int (q_I x3)), (0, .ref (z + 0))]) hx hb dX11_abandonSnapshot_18 rfl hl (by decide) rfl ?_
    clear hl; intro ls hl
    refine lv_aload_n hx hb dX11_abandonSnapshot_19 rfl (lv_at hl 1 rfl) ?_
    obtain ⟨μ5, hv4, h⟩ := q_b_some h
    refine q_callV hx hb hml hts hown hK hP hS (As := []) (rest := []) (st1 := []) cv_RX11_83 (c_M_clearSnapshot l D dA hv4) (Nat.le_of_ble_eq_true rfl) q_kdM_0 rfl ⟨rfl, rfl, Nat.le_of_ble_eq_true rfl, Nat.le_of_ble_eq_true rfl⟩ ⟨Nat.le_refl _, Nat.le_refl _⟩ rfl hl.1 rfl (Nat.le_of_ble_eq_true rfl) rfl (fun _ g => g) dX11_abandonSnapshot_20 ?_
    clear hP hS hv4; intro H locs _ hP hS _
    refine lv_iload_n hx hb dX11_abandonSnapshot_23 rfl (lv_at hl 0 rfl) ?_
    rw [← hQ]
    exact q_ret2 hx hb hr hlocks hP hS r3 h dX11_abandonSnapshot_24
  · clear h; intro g6 h
    refine lv_ldc hx hb hown (hts _ ck_RX11_113) dX11_abandonSnapshot_11 ?_
    rw [← hQ]
    exact q_ret2 hx hb hr hlocks hP hS (q_r (-100003) rfl) h dX11_abandonSnapshot_13
set_option maxHeartbeats 4000000 in
set_option maxRecDepth 100000 in
theorem c_M_recorded (l : Launch) (D : va_G) (dA : Nat → ClassId) {z sz : Nat} {a0 : Int} (ra0 : q_R a0) {μ : q_M} {xo : Int} (h : f_M_recorded a0 μ = some xo) : Met l yX11_recorded (q_wc yX11_recorded cX11_recorded 2 (some .int)) ({ frames := 2, cells := 0, slots := 0, locals := 43 } : Room) (va_Pc [.ref (z + 0), .int (q_I a0)] (q_B (q_P D dA q_kdM q_rhoM 22 z sz μ) D dA)) (q_Q (some (.int (q_I xo))) (q_R xo) (q_P D dA q_kdM q_rhoM 22 z sz μ) (q_A z 22)) 0 0 (q_A z 22) := by
  refine Met.ofW (cc := cX11_recorded) (maxL := 2) (ret := (some .int)) (by decide) rfl ?_
  intro p e s m args below meth c s₁ B hml hv
  obtain ⟨hargs, hP, hK⟩ := hv
  have hx := B.exec
  have hb := B.bytes
  have hr := B.returns
  have hts : ∀ w ∈ q_W, w.before args s = true := fun w hw => atoms_spec (ws := q_wc yX11_recorded cX11_recorded 2 (some .int)) B.pre w (List.mem_cons_of_mem _ hw)
  have hown : s.vm.findClass RX11 = some m.cls := findClass_of_methodNamed B.named
  have hlocks := B.notSynchronized
  have hS : va_S (q_A z 22) s.heap s.heap [] := va_S.rf
  have hA : ∀ k, k < 22 → q_A z 22 (z + k) := fun k hk => ⟨Nat.le_add_right z k, Nat.add_lt_add_left hk z⟩
  have hl := lv_entry [.ref (z + 0), .int (q_I a0)] (n := 2) (Nat.le_of_ble_eq_true rfl)
  refine W.eq (by rw [hargs, lg_entry_eq]) ?_
  generalize (lg_sl [.ref (z + 0), .int (q_I a0)] ++ List.replicate (2 - (lg_sl [.ref (z + 0), .int (q_I a0)]).length) Slot.unset).toArray = ls at hl ⊢
  have hl : lv_has ls 2 [(0, .ref (z + 0)), (1, .int (q_I a0))] := hl
  generalize hQ : MQ below _ args s 0 0 _ = Qf
  change W p l e ({ frames := 2, cells := 0, slots := 0, locals := 43 } : Room) s m args below meth c s.heap [] 0 0 Qf (F0 m 0 ls [])
  unfold f_M_recorded at h
  refine lv_aload_n hx hb dX11_recorded_0 rfl (lv_at hl 0 rfl) ?_
  refine lv_iload_n hx hb dX11_recorded_1 rfl (lv_at hl 1 rfl) ?_
  obtain ⟨x2, hv1, h⟩ := q_b_some h
  refine q_callV hx hb hml hts hown hK hP hS (As := [.int (q_I a0)]) (rest := []) (st1 := [.int (q_I x2)]) cv_RX11_104 (c_M_noProcess l D dA ra0 hv1) (Nat.le_of_ble_eq_true rfl) q_kdM_0 rfl ⟨rfl, rfl, Nat.le_of_ble_eq_true rfl, Nat.le_of_ble_eq_true rfl⟩ ⟨Nat.le_refl _, Nat.le_refl _⟩ rfl hl.1 rfl (Nat.le_of_ble_eq_true rfl) rfl (fun _ g => g) dX11_recorded_2 ?_
  clear hP hS hv1; intro H locs r2 hP hS _
  refine q_zeq hx hb r2 (tgt := 11) dX11_recorded_5 (by decide) h ?_ ?_
  · clear h; intro g9 h
    refine lv_aload_n hx hb dX11_recorded_11 rfl (lv_at hl 0 rfl) ?_
    refine q_getR hx hb hts hown hK hP fd_RX11_7 (Nat.le_of_ble_eq_true rfl) q_kdM_0 rfl q_rhM_0_1 dX11_recorded_12 ?_
    refine lv_bipush (v := q_I 30) hx hb dX11_recorded_15 (by decide) ?_
    refine lv_iload_n hx hb dX11_recorded_17 rfl (lv_at hl 1 rfl) ?_
    refine q_iadd hx hb dX11_recorded_18 h ?_
    clear h; intro x3 r3 h
    refine q_iald hx hb hK hP (Nat.le_of_ble_eq_true rfl) q_kdM_1 r3 dX11_recorded_19 h ?_
    clear h; intro x4 r4 h
    refine q_jn_in h (fun J => ∀ (x5 : Int) (H : Heap) (locs : List Loc) (ls : Array Slot), q_R x5 → q_P D dA q_kdM q_rhoM 22 z sz μ H → va_S (q_A z 22) s.heap H locs → lv_has ls 2 [] → J x5 = some xo → W p l e ({ frames := 2, cells := 0, slots := 0, locals := 43 } : Room) s m args below meth c H locs 0 0 Qf (F0 m 37 ls [.int (q_I x5)])) ?_ ?_
    · clear h hl hP hS; intro x5 H locs ls r5 hP hS hl h
      rw [← hQ]
      exact q_ret1 hx hb hr hlocks hP hS r5 h dX11_recorded_37
    · clear h; intro j37 hj37 h
      refine q_zge hx hb r4 (tgt := 28) dX11_recorded_20 (by decide) h ?_ ?_
      · clear h; intro g8 h
        refine lv_aload_n hx hb dX11_recorded_28 rfl (lv_at hl 0 rfl) ?_
        refine q_getR hx hb hts hown hK hP fd_RX11_7 (Nat.le_of_ble_eq_true rfl) q_kdM_0 rfl q_rhM_0_1 dX11_recorded_29 ?_
        refine lv_bipush (v := q_I 30) hx hb dX11_recorded_32 (by decide) ?_
        refine lv_iload_n hx hb dX11_recorded_34 rfl (lv_at hl 1 rfl) ?_
        refine q_iadd hx hb dX11_recorded_35 h ?_
        clear h; intro x6 r6 h
        refine q_iald hx hb hK hP (Nat.le_of_ble_eq_true rfl) q_kdM_1 r6 dX11_recorded_36 h ?_
        clear h; intro x7 r7 h
        exact hj37 x7 _ _ _ r7 hP hS (lv_sub hl [] rfl) h
      · clear h; intro g8 h
        refine lv_ldc hx hb hown (hts _ ck_RX11_127) dX11_recorded_23 ?_
        refine lv_goto (tgt := 37) hx hb dX11_recorded_25 (by decide) ?_
        exact hj37 ((-100006)) _ _ _ (q_r (-100006) rfl) hP hS (lv_sub hl [] rfl) h
  · clear h; intro g9 h
    refine lv_ldc hx hb hown (hts _ ck_RX11_112) dX11_recorded_8 ?_
    rw [← hQ]
    exact q_ret1 hx hb hr hlocks hP hS (q_r (-100001) rfl) h dX11_recorded_10
set_option maxHeartbeats 4000000 in
set_option maxRecDepth 100000 in
theorem c_M_takeSnapshot (l : Launch) (D : va_G) (dA : Nat → ClassId) {z sz : Nat} {N : Nat} {μ : q_M} {xo : Int} {μo : q_M} (h : f_M_takeSnapshot N μ = some (xo, μo)) : Met l yX11_takeSnapshot (q_wc yX11_takeSnapshot cX11_takeSnapshot 2 (some .int)) ({ frames := 1, cells := 0, slots := 0, locals := 22 } : Room) (va_Pc [.ref (z + 0)] (q_B (q_P D dA q_kdM q_rhoM 22 z sz μ) D dA)) (q_Q (some (.int (q_I xo))) (q_R xo) (q_P D dA q_kdM q_rhoM 22 z sz μo) (q_A z 22)) 0 0 (q_A z 22) := by
  refine Met.ofW (cc := cX11_takeSnapshot) (maxL := 2) (ret := (some .int)) (by decide) rfl ?_
  intro p e s m args below meth c s₁ B hml hv
  obtain ⟨hargs, hP, hK⟩ := hv
  have hx := B.exec
  have hb := B.bytes
  have hr := B.returns
  have hts : ∀ w ∈ q_W, w.before args s = true := fun w hw => atoms_spec (ws := q_wc yX11_takeSnapshot cX11_takeSnapshot 2 (some .int)) B.pre w (List.mem_cons_of_mem _ hw)
  have hown : s.vm.findClass RX11 = some m.cls := findClass_of_methodNamed B.named
  have hlocks := B.notSynchronized
  have hS : va_S (q_A z 22) s.heap s.heap [] := va_S.rf
  have hA : ∀ k, k < 22 → q_A z 22 (z + k) := fun k hk => ⟨Nat.le_add_right z k, Nat.add_lt_add_left hk z⟩
  have hl := lv_entry [.ref (z + 0)] (n := 2) (Nat.le_of_ble_eq_true rfl)
  refine W.eq (by rw [hargs, lg_entry_eq]) ?_
  generalize (lg_sl [.ref (z + 0)] ++ List.replicate (2 - (lg_sl [.ref (z + 0)]).length) Slot.unset).toArray = ls at hl ⊢
  have hl : lv_has ls 2 [(0, .ref (z + 0))] := hl
  generalize hQ : MQ below _ args s 0 0 _ = Qf
  change W p l e ({ frames := 1, cells := 0, slots := 0, locals := 22 } : Room) s m args below meth c s.heap [] 0 0 Qf (F0 m 0 ls [])
  unfold f_M_takeSnapshot at h
  refine lv_aload_n hx hb dX11_takeSnapshot_0 rfl (lv_at hl 0 rfl) ?_
  refine q_getR hx hb hts hown hK hP fd_RX11_7 (Nat.le_of_ble_eq_true rfl) q_kdM_0 rfl q_rhM_0_1 dX11_takeSnapshot_1 ?_
  refine lv_bipush (v := q_I 35) hx hb dX11_takeSnapshot_4 (by decide) ?_
  refine q_iald hx hb hK hP (Nat.le_of_ble_eq_true rfl) q_kdM_1 (q_r 35 rfl) dX11_takeSnapshot_6 h ?_
  clear h; intro x1 r1 h
  refine lv_iconst (v := q_I 2) hx hb dX11_takeSnapshot_7 rfl ?_
  refine q_ceq hx hb r1 (q_r 2 rfl) (tgt := 14) dX11_takeSnapshot_8 (by decide) h ?_ ?_
  · clear h; intro g14 h
    refine lv_iconst (v := q_I 0) hx hb dX11_takeSnapshot_14 rfl ?_
    refine lv_istore_n (lv' := [(1, .int (q_I 0)), (0, .ref (z + 0))]) hx hb dX11_takeSnapshot_15 rfl hl (by decide) rfl ?_
    clear hl; intro ls hl
    have L16 : ∀ (k48 : q_M → Option (Int × q_M)), (∀ (μ4 : q_M) (H : Heap) (locs : List Loc) (ls : Array Slot), q_P D dA q_kdM q_rhoM 22 z sz μ4 H → va_S (q_A z 22) s.heap H locs → lv_has ls 2 [(0, .ref (z + 0))] → k48 μ4 = some (xo, μo) → W p l e ({ frames := 1, cells := 0, slots := 0, locals := 22 } : Room) s m args below meth c H locs 0 0 Qf (F0 m 48 ls [])) → ∀ (nf16 : Nat) (x2 : Int) (μ3 : q_M) (H : Heap) (locs : List Loc) (ls : Array Slot), q_R x2 → q_P D dA q_kdM q_rhoM 22 z sz μ3 H → va_S (q_A z 22) s.heap H locs → lv_has ls 2 [(0, .ref (z + 0)), (1, .int (q_I x2))] → f_M_takeSnapshot_L16  k48 nf16 x2 μ3 = some (xo, μo) → W p l e ({ frames := 1, cells := 0, slots := 0, locals := 22 } : Room) s m args below meth c H locs 0 0 Qf (F0 m 16 ls []) := by
      clear h hl hP hS
      intro k48 hk48 nf16
      induction nf16 with
      | zero =>
        intro x2 μ3 H locs ls r2 hP hS hl h
        rw [f_M_takeSnapshot_L16] at h
        cases h
      | succ nf16 ih16 =>
        intro x2 μ3 H locs ls r2 hP hS hl h
        rw [f_M_takeSnapshot_L16] at h
        refine lv_iload_n hx hb dX11_takeSnapshot_16 rfl (lv_at hl 1 rfl) ?_
        refine lv_aload_n hx hb dX11_takeSnapshot_17 rfl (lv_at hl 0 rfl) ?_
        refine q_getI hx hb hts hown hK hP fd_RX11_79 (Nat.le_of_ble_eq_true rfl) q_kdM_0 rfl dX11_takeSnapshot_18 h ?_
        clear h; intro x5 r5 h
        refine q_cge hx hb r2 r5 (tgt := 48) dX11_takeSnapshot_21 (by decide) h ?_ ?_
        · clear h; intro g11 h
          exact hk48 μ3 _ _ _ hP hS (lv_sub hl [0] rfl) h
        · clear h; intro g11 h
          refine lv_aload_n hx hb dX11_takeSnapshot_24 rfl (lv_at hl 0 rfl) ?_
          refine q_getR hx hb hts hown hK hP fd_RX11_7 (Nat.le_of_ble_eq_true rfl) q_kdM_0 rfl q_rhM_0_1 dX11_takeSnapshot_25 ?_
          refine lv_bipush (v := q_I 20) hx hb dX11_takeSnapshot_28 (by decide) ?_
          refine lv_iload_n hx hb dX11_takeSnapshot_30 rfl (lv_at hl 1 rfl) ?_
          refine q_iadd hx hb dX11_takeSnapshot_31 h ?_
          clear h; intro x6 r6 h
          refine lv_aload_n hx hb dX11_takeSnapshot_32 rfl (lv_at hl 0 rfl) ?_
          refine q_getR hx hb hts hown hK hP fd_RX11_7 (Nat.le_of_ble_eq_true rfl) q_kdM_0 rfl q_rhM_0_1 dX11_takeSnapshot_33 ?_
          refine lv_bipush (v := q_I 30) hx hb dX11_takeSnapshot_36 (by decide) ?_
          refine lv_iload_n hx hb dX11_takeSnapshot_38 rfl (lv_at hl 1 rfl) ?_
          refine q_iadd hx hb dX11_takeSnapshot_39 h ?_
          clear h; intro x7 r7 h
          refine q_iald hx hb hK hP (Nat.le_of_ble_eq_true rfl) q_kdM_1 r7 dX11_takeSnapshot_40 h ?_
          clear h; intro x8 r8 h
          refine q_iast hx hb hK hP hS hA (Nat.le_of_ble_eq_true rfl) q_kdM_1 r6 r8 dX11_takeSnapshot_41 h ?_
          clear h hP hS; intro μ9 H locs hP hS h
          refine q_iinc (k := 1) (lv' := fun t => [(1, .int (q_I t)), (0, .ref (z + 0))]) hx hb dX11_takeSnapshot_42 hl rfl (by decide) (fun _ => rfl) h ?_
          clear h hl; intro x10 ls r10 hl h
          refine lv_goto (tgt := 16) hx hb dX11_takeSnapshot_45 (by decide) ?_
          exact ih16 x10 μ9 _ _ _ r10 hP hS (lv_sub hl [1, 0] rfl) h
    refine L16 _ ?_  _ 0 μ _ _ _ (q_r 0 rfl) hP hS (lv_sub hl [1, 0] rfl) h
    · clear h hl hP hS; intro μ4 H locs ls  hP hS hl h
      refine lv_aload_n hx hb dX11_takeSnapshot_48 rfl (lv_at hl 0 rfl) ?_
      obtain ⟨x13, hv12, h⟩ := q_b_some h
      refine q_callV hx hb hml hts hown hK hP hS (As := []) (rest := []) (st1 := [.int (q_I x13)]) cv_RX11_169 (c_M_cutSize l D dA hv12) (Nat.le_of_ble_eq_true rfl) q_kdM_0 rfl ⟨rfl, rfl, Nat.le_of_ble_eq_true rfl, Nat.le_of_ble_eq_true rfl⟩ ⟨Nat.le_refl _, Nat.le_refl _⟩ rfl hl.1 rfl (Nat.le_of_ble_eq_true rfl) rfl (fun _ g => g) dX11_takeSnapshot_49 ?_
      clear hP hS hv12; intro H locs r13 hP hS _
      rw [← hQ]
      exact q_ret2 hx hb hr hlocks hP hS r13 h dX11_takeSnapshot_52
  · clear h; intro g14 h
    refine lv_ldc hx hb hown (hts _ ck_RX11_113) dX11_takeSnapshot_11 ?_
    rw [← hQ]
    exact q_ret2 hx hb hr hlocks hP hS (q_r (-100003) rfl) h dX11_takeSnapshot_13
set_option maxHeartbeats 4000000 in
set_option maxRecDepth 100000 in
theorem c_M_setCut (l : Launch) (D : va_G) (dA : Nat → ClassId) {z sz : Nat} {a0 : Int} (ra0 : q_R a0) {a1 : Int} (ra1 : q_R a1) {μ : q_M} {xo : Int} {μo : q_M} (h : f_M_setCut a0 a1 μ = some (xo, μo)) : Met l yX11_setCut (q_wc yX11_setCut cX11_setCut 4 (some .int)) ({ frames := 2, cells := 0, slots := 0, locals := 43 } : Room) (va_Pc [.ref (z + 0), .int (q_I a0), .int (q_I a1)] (q_B (q_P D dA q_kdM q_rhoM 22 z sz μ) D dA)) (q_Q (some (.int (q_I xo))) (q_R xo) (q_P D dA q_kdM q_rhoM 22 z sz μo) (q_A z 22)) 0 0 (q_A z 22) := by
  refine Met.ofW (cc := cX11_setCut) (maxL := 4) (ret := (some .int)) (by decide) rfl ?_
  intro p e s m args below meth c s₁ B hml hv
  obtain ⟨hargs, hP, hK⟩ := hv
  have hx := B.exec
  have hb := B.bytes
  have hr := B.returns
  have hts : ∀ w ∈ q_W, w.before args s = true := fun w hw => atoms_spec (ws := q_wc yX11_setCut cX11_setCut 4 (some .int)) B.pre w (List.mem_cons_of_mem _ hw)
  have hown : s.vm.findClass RX11 = some m.cls := findClass_of_methodNamed B.named
  have hlocks := B.notSynchronized
  have hS : va_S (q_A z 22) s.heap s.heap [] := va_S.rf
  have hA : ∀ k, k < 22 → q_A z 22 (z + k) := fun k hk => ⟨Nat.le_add_right z k, Nat.add_lt_add_left hk z⟩
  have hl := lv_entry [.ref (z + 0), .int (q_I a0), .int (q_I a1)] (n := 4) (Nat.le_of_ble_eq_true rfl)
  refine W.eq (by rw [hargs, lg_entry_eq]) ?_
  generalize (lg_sl [.ref (z + 0), .int (q_I a0), .int (q_I a1)] ++ List.replicate (4 - (lg_sl [.ref (z + 0), .int (q_I a0), .int (q_I a1)]).length) Slot.unset).toArray = ls at hl ⊢
  have hl : lv_has ls 4 [(0, .ref (z + 0)), (1, .int (q_I a0)), (2, .int (q_I a1))] := hl
  generalize hQ : MQ below _ args s 0 0 _ = Qf
  change W p l e ({ frames := 2, cells := 0, slots := 0, locals := 43 } : Room) s m args below meth c s.heap [] 0 0 Qf (F0 m 0 ls [])
  unfold f_M_setCut at h
  refine lv_aload_n hx hb dX11_setCut_0 rfl (lv_at hl 0 rfl) ?_
  refine lv_iload_n hx hb dX11_setCut_1 rfl (lv_at hl 1 rfl) ?_
  obtain ⟨x2, hv1, h⟩ := q_b_some h
  refine q_callV hx hb hml hts hown hK hP hS (As := [.int (q_I a0)]) (rest := []) (st1 := [.int (q_I x2)]) cv_RX11_104 (c_M_noProcess l D dA ra0 hv1) (Nat.le_of_ble_eq_true rfl) q_kdM_0 rfl ⟨rfl, rfl, Nat.le_of_ble_eq_true rfl, Nat.le_of_ble_eq_true rfl⟩ ⟨Nat.le_refl _, Nat.le_refl _⟩ rfl hl.1 rfl (Nat.le_of_ble_eq_true rfl) rfl (fun _ g => g) dX11_setCut_2 ?_
  clear hP hS hv1; intro H locs r2 hP hS _
  refine q_zeq hx hb r2 (tgt := 11) dX11_setCut_5 (by decide) h ?_ ?_
  · clear h; intro g12 h
    refine lv_iload_n hx hb dX11_setCut_11 rfl (lv_at hl 2 rfl) ?_
    refine lv_iconst (v := q_I 0) hx hb dX11_setCut_12 rfl ?_
    refine lv_aload_n hx hb dX11_setCut_13 rfl (lv_at hl 0 rfl) ?_
    refine q_getR hx hb hts hown hK hP fd_RX11_7 (Nat.le_of_ble_eq_true rfl) q_kdM_0 rfl q_rhM_0_1 dX11_setCut_14 ?_
    refine lv_bipush (v := q_I 25) hx hb dX11_setCut_17 (by decide) ?_
    refine lv_iload_n hx hb dX11_setCut_19 rfl (lv_at hl 1 rfl) ?_
    refine q_iadd hx hb dX11_setCut_20 h ?_
    clear h; intro x3 r3 h
    refine q_iald hx hb hK hP (Nat.le_of_ble_eq_true rfl) q_kdM_1 r3 dX11_setCut_21 h ?_
    clear h; intro x4 r4 h
    obtain ⟨x6, hv5, h⟩ := q_b_some h
    refine q_callS hx hb hml hts hown hK hP hS (As := [.int (q_I a1), .int (q_I 0), .int (q_I x4)]) (rest := []) (st1 := [.int (q_I x6)]) cs_RX11_99 (c_M_in l D dA ra1 (q_r 0 rfl) r4 hv5) ⟨rfl, rfl, Nat.le_of_ble_eq_true rfl, Nat.le_of_ble_eq_true rfl⟩ ⟨Nat.le_refl _, Nat.le_refl _⟩ rfl hl.1 rfl (Nat.le_of_ble_eq_true rfl) rfl (fun _ g => g) dX11_setCut_22 ?_
    clear hP hS hv5; intro H locs r6 hP hS _
    refine q_zne hx hb r6 (tgt := 31) dX11_setCut_25 (by decide) h ?_ ?_
    · clear h; intro g11 h
      refine lv_ldc hx hb hown (hts _ ck_RX11_103) dX11_setCut_28 ?_
      rw [← hQ]
      exact q_ret2 hx hb hr hlocks hP hS (q_r (-100002) rfl) h dX11_setCut_30
    · clear h; intro g11 h
      refine lv_aload_n hx hb dX11_setCut_31 rfl (lv_at hl 0 rfl) ?_
      refine q_getR hx hb hts hown hK hP fd_RX11_7 (Nat.le_of_ble_eq_true rfl) q_kdM_0 rfl q_rhM_0_1 dX11_setCut_32 ?_
      refine lv_bipush (v := q_I 20) hx hb dX11_setCut_35 (by decide) ?_
      refine lv_iload_n hx hb dX11_setCut_37 rfl (lv_at hl 1 rfl) ?_
      refine q_iadd hx hb dX11_setCut_38 h ?_
      clear h; intro x7 r7 h
      refine q_iald hx hb hK hP (Nat.le_of_ble_eq_true rfl) q_kdM_1 r7 dX11_setCut_39 h ?_
      clear h; intro x8 r8 h
      refine lv_istore_n (lv' := [(3, .int (q_I x8)), (0, .ref (z + 0)), (1, .int (q_I a0)), (2, .int (q_I a1))]) hx hb dX11_setCut_40 rfl hl (by decide) rfl ?_
      clear hl; intro ls hl
      refine lv_aload_n hx hb dX11_setCut_41 rfl (lv_at hl 1 rfl) ?_
      refine q_getR hx hb hts hown hK hP fd_RX11_7 (Nat.le_of_ble_eq_true rfl) q_kdM_0 rfl q_rhM_0_1 dX11_setCut_42 ?_
      refine lv_bipush (v := q_I 20) hx hb dX11_setCut_45 (by decide) ?_
      refine lv_iload_n hx hb dX11_setCut_47 rfl (lv_at hl 2 rfl) ?_
      refine q_iadd hx hb dX11_setCut_48 h ?_
      clear h; intro x9 r9 h
      refine lv_iload_n hx hb dX11_setCut_49 rfl (lv_at hl 3 rfl) ?_
      refine q_iast hx hb hK hP hS hA (Nat.le_of_ble_eq_true rfl) q_kdM_1 r9 ra1 dX11_setCut_50 h ?_
      clear h hP hS; intro μ10 H locs hP hS h
      refine lv_iload_n hx hb dX11_setCut_51 rfl (lv_at hl 0 rfl) ?_
      rw [← hQ]
      exact q_ret2 hx hb hr hlocks hP hS r8 h dX11_setCut_52
  · clear h; intro g12 h
    refine lv_ldc hx hb hown (hts _ ck_RX11_112) dX11_setCut_8 ?_
    rw [← hQ]
    exact q_ret2 hx hb hr hlocks hP hS (q_r (-100001) rfl) h dX11_setCut_10
set_option maxHeartbeats 4000000 in
set_option maxRecDepth 100000 in
theorem c_M_cut (l : Launch) (D : va_G) (dA : Nat → ClassId) {z sz : Nat} {a0 : Int} (ra0 : q_R a0) {μ : q_M} {xo : Int} (h : f_M_cut a0 μ = some xo) : Met l yX11_cut (q_wc yX11_cut cX11_cut 2 (some .int)) ({ frames := 2, cells := 0, slots := 0, locals := 43 } : Room) (va_Pc [.ref (z + 0), .int (q_I a0)] (q_B (q_P D dA q_kdM q_rhoM 22 z sz μ) D dA)) (q_Q (some (.int (q_I xo))) (q_R xo) (q_P D dA q_kdM q_rhoM 22 z sz μ) (q_A z 22)) 0 0 (q_A z 22) := by
  refine Met.ofW (cc := cX11_cut) (maxL := 2) (ret := (some .int)) (by decide) rfl ?_
  intro p e s m args below meth c s₁ B hml hv
  obtain ⟨hargs, hP, hK⟩ := hv
  have hx := B.exec
  have hb := B.bytes
  have hr := B.returns
  have hts : ∀ w ∈ q_W, w.before args s = true := fun w hw => atoms_spec (ws := q_wc yX11_cut cX11_cut 2 (some .int)) B.pre w (List.mem_cons_of_mem _ hw)
  have hown : s.vm.findClass RX11 = some m.cls := findClass_of_methodNamed B.named
  have hlocks := B.notSynchronized
  have hS : va_S (q_A z 22) s.heap s.heap [] := va_S.rf
  have hA : ∀ k, k < 22 → q_A z 22 (z + k) := fun k hk => ⟨Nat.le_add_right z k, Nat.add_lt_add_left hk z⟩
  have hl := lv_entry [.ref (z + 0), .int (q_I a0)] (n := 2) (Nat.le_of_ble_eq_true rfl)
  refine W.eq (by rw [hargs, lg_entry_eq]) ?_
  generalize (lg_sl [.ref (z + 0), .int (q_I a0)] ++ List.replicate (2 - (lg_sl [.ref (z + 0), .int (q_I a0)]).length) Slot.unset).toArray = ls at hl ⊢
  have hl : lv_has ls 2 [(0, .ref (z + 0)), (1, .int (q_I a0))] := hl
  generalize hQ : MQ below _ args s 0 0 _ = Qf
  change W p l e ({ frames := 2, cells := 0, slots := 0, locals := 43 } : Room) s m args below meth c s.heap [] 0 0 Qf (F0 m 0 ls [])
  unfold f_M_cut at h
  refine lv_aload_n hx hb dX11_cut_0 rfl (lv_at hl 0 rfl) ?_
  refine lv_iload_n hx hb dX11_cut_1 rfl (lv_at hl 1 rfl) ?_
  obtain ⟨x2, hv1, h⟩ := q_b_some h
  refine q_callV hx hb hml hts hown hK hP hS (As := [.int (q_I a0)]) (rest := []) (st1 := [.int (q_I x2)]) cv_RX11_104 (c_M_noProcess l D dA ra0 hv1) (Nat.le_of_ble_eq_true rfl) q_kdM_0 rfl ⟨rfl, rfl, Nat.le_of_ble_eq_true rfl, Nat.le_of_ble_eq_true rfl⟩ ⟨Nat.le_refl _, Nat.le_refl _⟩ rfl hl.1 rfl (Nat.le_of_ble_eq_true rfl) rfl (fun _ g => g) dX11_cut_2 ?_
  clear hP hS hv1; intro H locs r2 hP hS _
  refine q_jn_in h (fun J => ∀ (x3 : Int) (H : Heap) (locs : List Loc) (ls : Array Slot), q_R x3 → q_P D dA q_kdM q_rhoM 22 z sz μ H → va_S (q_A z 22) s.heap H locs → lv_has ls 2 [] → J x3 = some xo → W p l e ({ frames := 2, cells := 0, slots := 0, locals := 43 } : Room) s m args below meth c H locs 0 0 Qf (F0 m 22 ls [.int (q_I x3)])) ?_ ?_
  · clear h hl hP hS; intro x3 H locs ls r3 hP hS hl h
    rw [← hQ]
    exact q_ret1 hx hb hr hlocks hP hS r3 h dX11_cut_22
  · clear h; intro j22 hj22 h
    refine q_zeq hx hb r2 (tgt := 13) dX11_cut_5 (by decide) h ?_ ?_
    · clear h; intro g6 h
      refine lv_aload_n hx hb dX11_cut_13 rfl (lv_at hl 0 rfl) ?_
      refine q_getR hx hb hts hown hK hP fd_RX11_7 (Nat.le_of_ble_eq_true rfl) q_kdM_0 rfl q_rhM_0_1 dX11_cut_14 ?_
      refine lv_bipush (v := q_I 20) hx hb dX11_cut_17 (by decide) ?_
      refine lv_iload_n hx hb dX11_cut_19 rfl (lv_at hl 1 rfl) ?_
      refine q_iadd hx hb dX11_cut_20 h ?_
      clear h; intro x4 r4 h
      refine q_iald hx hb hK hP (Nat.le_of_ble_eq_true rfl) q_kdM_1 r4 dX11_cut_21 h ?_
      clear h; intro x5 r5 h
      exact hj22 x5 _ _ _ r5 hP hS (lv_sub hl [] rfl) h
    · clear h; intro g6 h
      refine lv_ldc hx hb hown (hts _ ck_RX11_112) dX11_cut_8 ?_
      refine lv_goto (tgt := 22) hx hb dX11_cut_10 (by decide) ?_
      exact hj22 ((-100001)) _ _ _ (q_r (-100001) rfl) hP hS (lv_sub hl [] rfl) h
set_option maxHeartbeats 4000000 in
set_option maxRecDepth 100000 in
theorem c_M_isCut (l : Launch) (D : va_G) (dA : Nat → ClassId) {z sz : Nat} {a0 : Int} (ra0 : q_R a0) {μ : q_M} {xo : Int} (h : f_M_isCut a0 μ = some xo) : Met l yX11_isCut (q_wc yX11_isCut cX11_isCut 2 (some .boolean)) ({ frames := 1, cells := 0, slots := 0, locals := 22 } : Room) (va_Pc [.ref (z + 0), .int (q_I a0)] (q_B (q_P D dA q_kdM q_rhoM 22 z sz μ) D dA)) (q_Q (some (.int (q_I xo))) (q_R xo) (q_P D dA q_kdM q_rhoM 22 z sz μ) (q_A z 22)) 0 0 (q_A z 22) := by
  refine Met.ofW (cc := cX11_isCut) (maxL := 2) (ret := (some .boolean)) (by decide) rfl ?_
  intro p e s m args below meth c s₁ B hml hv
  obtain ⟨hargs, hP, hK⟩ := hv
  have hx := B.exec
  have hb := B.bytes
  have hr := B.returns
  have hts : ∀ w ∈ q_W, w.before args s = true := fun w hw => atoms_spec (ws := q_wc yX11_isCut cX11_isCut 2 (some .boolean)) B.pre w (List.mem_cons_of_mem _ hw)
  have hown : s.vm.findClass RX11 = some m.cls := findClass_of_methodNamed B.named
  have hlocks := B.notSynchronized
  have hS : va_S (q_A z 22) s.heap s.heap [] := va_S.rf
  have hA : ∀ k, k < 22 → q_A z 22 (z + k) := fun k hk => ⟨Nat.le_add_right z k, Nat.add_lt_add_left hk z⟩
  have hl := lv_entry [.ref (z + 0), .int (q_I a0)] (n := 2) (Nat.le_of_ble_eq_true rfl)
  refine W.eq (by rw [hargs, lg_entry_eq]) ?_
  generalize (lg_sl [.ref (z + 0), .int (q_I a0)] ++ List.replicate (2 - (lg_sl [.ref (z + 0), .int (q_I a0)]).length) Slot.unset).toArray = ls at hl ⊢
  have hl : lv_has ls 2 [(0, .ref (z + 0)), (1, .int (q_I a0))] := hl
  generalize hQ : MQ below _ args s 0 0 _ = Qf
  change W p l e ({ frames := 1, cells := 0, slots := 0, locals := 22 } : Room) s m args below meth c s.heap [] 0 0 Qf (F0 m 0 ls [])
  unfold f_M_isCut at h
  refine lv_aload_n hx hb dX11_isCut_0 rfl (lv_at hl 0 rfl) ?_
  refine lv_iload_n hx hb dX11_isCut_1 rfl (lv_at hl 1 rfl) ?_
  refine lv_bipush (v := q_I 6) hx hb dX11_isCut_2 (by decide) ?_
  obtain ⟨x2, hv1, h⟩ := q_b_some h
  refine q_callV hx hb hml hts hown hK hP hS (As := [.int (q_I a0), .int (q_I 6)]) (rest := []) (st1 := [.int (q_I x2)]) cv_RX11_122 (c_M_ofEvent l D dA ra0 (q_r 6 rfl) hv1) (Nat.le_of_ble_eq_true rfl) q_kdM_0 rfl ⟨rfl, rfl, Nat.le_of_ble_eq_true rfl, Nat.le_of_ble_eq_true rfl⟩ ⟨Nat.le_refl _, Nat.le_refl _⟩ rfl hl.1 rfl (Nat.le_of_ble_eq_true rfl) rfl (fun _ g => g) dX11_isCut_4 ?_
  clear hP hS hv1; intro H locs r2 hP hS _
  refine lv_aload_n hx hb dX11_isCut_7 rfl (lv_at hl 0 rfl) ?_
  refine q_getR hx hb hts hown hK hP fd_RX11_7 (Nat.le_of_ble_eq_true rfl) q_kdM_0 rfl q_rhM_0_1 dX11_isCut_8 ?_
  refine lv_bipush (v := q_I 20) hx hb dX11_isCut_11 (by decide) ?_
  refine lv_aload_n hx hb dX11_isCut_13 rfl (lv_at hl 0 rfl) ?_
  refine lv_iload_n hx hb dX11_isCut_14 rfl (lv_at hl 1 rfl) ?_
  refine lv_iconst (v := q_I 0) hx hb dX11_isCut_15 rfl ?_
  obtain ⟨x4, hv3, h⟩ := q_b_some h
  refine q_callV hx hb hml hts hown hK hP hS (As := [.int (q_I a0), .int (q_I 0)]) (rest := [.int (q_I 20), .ref (z + 1), .int (q_I x2)]) (st1 := [.int (q_I x4), .int (q_I 20), .ref (z + 1), .int (q_I x2)]) cv_RX11_122 (c_M_ofEvent l D dA ra0 (q_r 0 rfl) hv3) (Nat.le_of_ble_eq_true rfl) q_kdM_0 rfl ⟨rfl, rfl, Nat.le_of_ble_eq_true rfl, Nat.le_of_ble_eq_true rfl⟩ ⟨Nat.le_refl _, Nat.le_refl _⟩ rfl hl.1 rfl (Nat.le_of_ble_eq_true rfl) rfl (fun _ g => g) dX11_isCut_16 ?_
  clear hP hS hv3; intro H locs r4 hP hS _
  refine q_iadd hx hb dX11_isCut_19 h ?_
  clear h; intro x5 r5 h
  refine q_iald hx hb hK hP (Nat.le_of_ble_eq_true rfl) q_kdM_1 r5 dX11_isCut_20 h ?_
  clear h; intro x6 r6 h
  refine q_jn_in h (fun J => ∀ (x7 : Int) (H : Heap) (locs : List Loc) (ls : Array Slot), q_R x7 → q_P D dA q_kdM q_rhoM 22 z sz μ H → va_S (q_A z 22) s.heap H locs → lv_has ls 2 [] → J x7 = some xo → W p l e ({ frames := 1, cells := 0, slots := 0, locals := 22 } : Room) s m args below meth c H locs 0 0 Qf (F0 m 29 ls [.int (q_I x7)])) ?_ ?_
  · clear h hl hP hS; intro x7 H locs ls r7 hP hS hl h
    rw [← hQ]
    obtain ⟨hz, h⟩ := q_rz_some h
    exact q_retz1 hx hb hr hlocks hP hS hz h dX11_isCut_29
  · clear h; intro j29 hj29 h
    refine q_cge hx hb r2 r6 (tgt := 28) dX11_isCut_21 (by decide) h ?_ ?_
    · clear h; intro g8 h
      refine lv_iconst (v := q_I 0) hx hb dX11_isCut_28 rfl ?_
      exact hj29 0 _ _ _ (q_r 0 rfl) hP hS (lv_sub hl [] rfl) h
    · clear h; intro g8 h
      refine lv_iconst (v := q_I 1) hx hb dX11_isCut_24 rfl ?_
      refine lv_goto (tgt := 29) hx hb dX11_isCut_25 (by decide) ?_
      exact hj29 1 _ _ _ (q_r 1 rfl) hP hS (lv_sub hl [] rfl) h
set_option maxHeartbeats 4000000 in
set_option maxRecDepth 100000 in
theorem c_M_isOrphan (l : Launch) (D : va_G) (dA : Nat → ClassId) {z sz : Nat} {a0 : Int} (ra0 : q_R a0) {μ : q_M} {xo : Int} (h : f_M_isOrphan a0 μ = some xo) : Met l yX11_isOrphan (q_wc yX11_isOrphan cX11_isOrphan 4 (some .boolean)) ({ frames := 2, cells := 0, slots := 0, locals := 43 } : Room) (va_Pc [.ref (z + 0), .int (q_I a0)] (q_B (q_P D dA q_kdM q_rhoM 22 z sz μ) D dA)) (q_Q (some (.int (q_I xo))) (q_R xo) (q_P D dA q_kdM q_rhoM 22 z sz μ) (q_A z 22)) 0 0 (q_A z 22) := by
  refine Met.ofW (cc := cX11_isOrphan) (maxL := 4) (ret := (some .boolean)) (by decide) rfl ?_
  intro p e s m args below meth c s₁ B hml hv
  obtain ⟨hargs, hP, hK⟩ := hv
  have hx := B.exec
  have hb := B.bytes
  have hr := B.returns
  have hts : ∀ w ∈ q_W, w.before args s = true := fun w hw => atoms_spec (ws := q_wc yX11_isOrphan cX11_isOrphan 4 (some .boolean)) B.pre w (List.mem_cons_of_mem _ hw)
  have hown : s.vm.findClass RX11 = some m.cls := findClass_of_methodNamed B.named
  have hlocks := B.notSynchronized
  have hS : va_S (q_A z 22) s.heap s.heap [] := va_S.rf
  have hA : ∀ k, k < 22 → q_A z 22 (z + k) := fun k hk => ⟨Nat.le_add_right z k, Nat.add_lt_add_left hk z⟩
  have hl := lv_entry [.ref (z + 0), .int (q_I a0)] (n := 4) (Nat.le_of_ble_eq_true rfl)
  refine W.eq (by rw [hargs, lg_entry_eq]) ?_
  generalize (lg_sl [.ref (z + 0), .int (q_I a0)] ++ List.replicate (4 - (lg_sl [.ref (z + 0), .int (q_I a0)]).length) Slot.unset).toArray = ls at hl ⊢
  have hl : lv_has ls 4 [(0, .ref (z + 0)), (1, .int (q_I a0))] := hl
  generalize hQ : MQ below _ args s 0 0 _ = Qf
  change W p l e ({ frames := 2, cells := 0, slots := 0, locals := 43 } : Room) s m args below meth c s.heap [] 0 0 Qf (F0 m 0 ls [])
  unfold f_M_isOrphan at h
  refine lv_aload_n hx hb dX11_isOrphan_0 rfl (lv_at hl 0 rfl) ?_
  refine lv_iload_n hx hb dX11_isOrphan_1 rfl (lv_at hl 1 rfl) ?_
  refine lv_iconst (v := q_I 4) hx hb dX11_isOrphan_2 rfl ?_
  obtain ⟨x2, hv1, h⟩ := q_b_some h
  refine q_callV hx hb hml hts hown hK hP hS (As := [.int (q_I a0), .int (q_I 4)]) (rest := []) (st1 := [.int (q_I x2)]) cv_RX11_114 (c_M_ofMessage l D dA ra0 (q_r 4 rfl) hv1) (Nat.le_of_ble_eq_true rfl) q_kdM_0 rfl ⟨rfl, rfl, Nat.le_of_ble_eq_true rfl, Nat.le_of_ble_eq_true rfl⟩ ⟨Nat.le_refl _, Nat.le_refl _⟩ rfl hl.1 rfl (Nat.le_of_ble_eq_true rfl) rfl (fun _ g => g) dX11_isOrphan_3 ?_
  clear hP hS hv1; intro H locs r2 hP hS _
  refine lv_istore_n (lv' := [(2, .int (q_I x2)), (0, .ref (z + 0)), (1, .int (q_I a0))]) hx hb dX11_isOrphan_6 rfl hl (by decide) rfl ?_
  clear hl; intro ls hl
  refine lv_aload_n hx hb dX11_isOrphan_7 rfl (lv_at hl 1 rfl) ?_
  refine lv_iload_n hx hb dX11_isOrphan_8 rfl (lv_at hl 2 rfl) ?_
  refine lv_iconst (v := q_I 5) hx hb dX11_isOrphan_9 rfl ?_
  obtain ⟨x4, hv3, h⟩ := q_b_some h
  refine q_callV hx hb hml hts hown hK hP hS (As := [.int (q_I a0), .int (q_I 5)]) (rest := []) (st1 := [.int (q_I x4)]) cv_RX11_114 (c_M_ofMessage l D dA ra0 (q_r 5 rfl) hv3) (Nat.le_of_ble_eq_true rfl) q_kdM_0 rfl ⟨rfl, rfl, Nat.le_of_ble_eq_true rfl, Nat.le_of_ble_eq_true rfl⟩ ⟨Nat.le_refl _, Nat.le_refl _⟩ rfl hl.1 rfl (Nat.le_of_ble_eq_true rfl) rfl (fun _ g => g) dX11_isOrphan_10 ?_
  clear hP hS hv3; intro H locs r4 hP hS _
  refine lv_istore_n (lv' := [(3, .int (q_I x4)), (2, .int (q_I x2)), (0, .ref (z + 0)), (1, .int (q_I a0))]) hx hb dX11_isOrphan_13 rfl hl (by decide) rfl ?_
  clear hl; intro ls hl
  refine lv_iload_n hx hb dX11_isOrphan_14 rfl (lv_at hl 1 rfl) ?_
  refine q_jn_in h (fun J => ∀ (x5 : Int) (H : Heap) (locs : List Loc) (ls : Array Slot), q_R x5 → q_P D dA q_kdM q_rhoM 22 z sz μ H → va_S (q_A z 22) s.heap H locs → lv_has ls 4 [] → J x5 = some xo → W p l e ({ frames := 2, cells := 0, slots := 0, locals := 43 } : Room) s m args below meth c H locs 0 0 Qf (F0 m 43 ls [.int (q_I x5)])) ?_ ?_
  · clear h hl hP hS; intro x5 H locs ls r5 hP hS hl h
    rw [← hQ]
    obtain ⟨hz, h⟩ := q_rz_some h
    exact q_retz1 hx hb hr hlocks hP hS hz h dX11_isOrphan_43
  · clear h; intro j43 hj43 h
    refine q_jn_in h (fun J => ∀ (H : Heap) (locs : List Loc) (ls : Array Slot), q_P D dA q_kdM q_rhoM 22 z sz μ H → va_S (q_A z 22) s.heap H locs → lv_has ls 4 [] → J = some xo → W p l e ({ frames := 2, cells := 0, slots := 0, locals := 43 } : Room) s m args below meth c H locs 0 0 Qf (F0 m 42 ls [])) ?_ ?_
    · clear h hl hP hS; intro  H locs ls  hP hS hl h
      refine lv_iconst (v := q_I 0) hx hb dX11_isOrphan_42 rfl ?_
      exact hj43 0 _ _ _ (q_r 0 rfl) hP hS (lv_sub hl [] rfl) h
    · clear h; intro j42 hj42 h
      refine q_zlt hx hb r2 (tgt := 42) dX11_isOrphan_15 (by decide) h ?_ ?_
      · clear h; intro g13 h
        exact hj42  _ _ _ hP hS (lv_sub hl [] rfl) h
      · clear h; intro g13 h
        refine lv_iload_n hx hb dX11_isOrphan_18 rfl (lv_at hl 0 rfl) ?_
        refine q_zlt hx hb r4 (tgt := 42) dX11_isOrphan_19 (by decide) h ?_ ?_
        · clear h; intro g12 h
          exact hj42  _ _ _ hP hS (lv_sub hl [] rfl) h
        · clear h; intro g12 h
          refine lv_aload_n hx hb dX11_isOrphan_22 rfl (lv_at hl 2 rfl) ?_
          refine lv_iload_n hx hb dX11_isOrphan_23 rfl (lv_at hl 0 rfl) ?_
          obtain ⟨x7, hv6, h⟩ := q_b_some h
          refine q_callV hx hb hml hts hown hK hP hS (As := [.int (q_I x4)]) (rest := []) (st1 := [.int (q_I x7)]) cv_RX11_172 (c_M_isCut l D dA r4 hv6) (Nat.le_of_ble_eq_true rfl) q_kdM_0 rfl ⟨rfl, rfl, Nat.le_of_ble_eq_true rfl, Nat.le_of_ble_eq_true rfl⟩ ⟨Nat.le_refl _, Nat.le_refl _⟩ rfl hl.1 rfl (Nat.le_of_ble_eq_true rfl) rfl (fun _ g => g) dX11_isOrphan_24 ?_
          clear hP hS hv6; intro H locs r7 hP hS _
          refine q_zeq hx hb r7 (tgt := 42) dX11_isOrphan_27 (by decide) h ?_ ?_
          · clear h; intro g11 h
            exact hj42  _ _ _ hP hS (lv_sub hl [] rfl) h
          · clear h; intro g11 h
            refine lv_aload_n hx hb dX11_isOrphan_30 rfl (lv_at hl 2 rfl) ?_
            refine lv_iload_n hx hb dX11_isOrphan_31 rfl (lv_at hl 1 rfl) ?_
            obtain ⟨x9, hv8, h⟩ := q_b_some h
            refine q_callV hx hb hml hts hown hK hP hS (As := [.int (q_I x2)]) (rest := []) (st1 := [.int (q_I x9)]) cv_RX11_172 (c_M_isCut l D dA r2 hv8) (Nat.le_of_ble_eq_true rfl) q_kdM_0 rfl ⟨rfl, rfl, Nat.le_of_ble_eq_true rfl, Nat.le_of_ble_eq_true rfl⟩ ⟨Nat.le_refl _, Nat.le_refl _⟩ rfl hl.1 rfl (Nat.le_of_ble_eq_true rfl) rfl (fun _ g => g) dX11_isOrphan_32 ?_
            clear hP hS hv8; intro H locs r9 hP hS _
            refine q_zne hx hb r9 (tgt := 42) dX11_isOrphan_35 (by decide) h ?_ ?_
            · clear h; intro g10 h
              refine lv_iconst (v := q_I 1) hx hb dX11_isOrphan_38 rfl ?_
              refine lv_goto (tgt := 43) hx hb dX11_isOrphan_39 (by decide) ?_
              exact hj43 1 _ _ _ (q_r 1 rfl) hP hS (lv_sub hl [] rfl) h
            · clear h; intro g10 h
              exact hj42  _ _ _ hP hS (lv_sub hl [] rfl) h
set_option maxHeartbeats 4000000 in
set_option maxRecDepth 100000 in
theorem c_M_orphansNow (l : Launch) (D : va_G) (dA : Nat → ClassId) {z sz : Nat} {N : Nat} {μ : q_M} {xo : Int} (h : f_M_orphansNow N μ = some xo) : Met l yX11_orphansNow (q_wc yX11_orphansNow cX11_orphansNow 3 (some .int)) ({ frames := 3, cells := 0, slots := 0, locals := 66 } : Room) (va_Pc [.ref (z + 0)] (q_B (q_P D dA q_kdM q_rhoM 22 z sz μ) D dA)) (q_Q (some (.int (q_I xo))) (q_R xo) (q_P D dA q_kdM q_rhoM 22 z sz μ) (q_A z 22)) 0 0 (q_A z 22) := by
  refine Met.ofW (cc := cX11_orphansNow) (maxL := 3) (ret := (some .int)) (by decide) rfl ?_
  intro p e s m args below meth c s₁ B hml hv
  obtain ⟨hargs, hP, hK⟩ := hv
  have hx := B.exec
  have hb := B.bytes
  have hr := B.returns
  have hts : ∀ w ∈ q_W, w.before args s = true := fun w hw => atoms_spec (ws := q_wc yX11_orphansNow cX11_orphansNow 3 (some .int)) B.pre w (List.mem_cons_of_mem _ hw)
  have hown : s.vm.findClass RX11 = some m.cls := findClass_of_methodNamed B.named
  have hlocks := B.notSynchronized
  have hS : va_S (q_A z 22) s.heap s.heap [] := va_S.rf
  have hA : ∀ k, k < 22 → q_A z 22 (z + k) := fun k hk => ⟨Nat.le_add_right z k, Nat.add_lt_add_left hk z⟩
  have hl := lv_entry [.ref (z + 0)] (n := 3) (Nat.le_of_ble_eq_true rfl)
  refine W.eq (by rw [hargs, lg_entry_eq]) ?_
  generalize (lg_sl [.ref (z + 0)] ++ List.replicate (3 - (lg_sl [.ref (z + 0)]).length) Slot.unset).toArray = ls at hl ⊢
  have hl : lv_has ls 3 [(0, .ref (z + 0))] := hl
  generalize hQ : MQ below _ args s 0 0 _ = Qf
  change W p l e ({ frames := 3, cells := 0, slots := 0, locals := 66 } : Room) s m args below meth c s.heap [] 0 0 Qf (F0 m 0 ls [])
  unfold f_M_orphansNow at h
  refine lv_iconst (v := q_I 0) hx hb dX11_orphansNow_0 rfl ?_
  refine lv_istore_n (lv' := [(1, .int (q_I 0)), (0, .ref (z + 0))]) hx hb dX11_orphansNow_1 rfl hl (by decide) rfl ?_
  clear hl; intro ls hl
  refine lv_iconst (v := q_I 0) hx hb dX11_orphansNow_2 rfl ?_
  refine lv_istore_n (lv' := [(2, .int (q_I 0)), (1, .int (q_I 0)), (0, .ref (z + 0))]) hx hb dX11_orphansNow_3 rfl hl (by decide) rfl ?_
  clear hl; intro ls hl
  have L4 : ∀ (k37 : Int → Option Int), (∀ (x3 : Int) (H : Heap) (locs : List Loc) (ls : Array Slot), q_R x3 → q_P D dA q_kdM q_rhoM 22 z sz μ H → va_S (q_A z 22) s.heap H locs → lv_has ls 3 [(1, .int (q_I x3))] → k37 x3 = some xo → W p l e ({ frames := 3, cells := 0, slots := 0, locals := 66 } : Room) s m args below meth c H locs 0 0 Qf (F0 m 37 ls [])) → ∀ (nf4 : Nat) (x1 : Int) (x2 : Int) (H : Heap) (locs : List Loc) (ls : Array Slot), q_R x1 → q_R x2 → q_P D dA q_kdM q_rhoM 22 z sz μ H → va_S (q_A z 22) s.heap H locs → lv_has ls 3 [(0, .ref (z + 0)), (1, .int (q_I x1)), (2, .int (q_I x2))] → f_M_orphansNow_L4 μ k37 nf4 x1 x2 = some xo → W p l e ({ frames := 3, cells := 0, slots := 0, locals := 66 } : Room) s m args below meth c H locs 0 0 Qf (F0 m 4 ls []) := by
    clear h hl hP hS
    intro k37 hk37 nf4
    induction nf4 with
    | zero =>
      intro x1 x2 H locs ls r1 r2 hP hS hl h
      rw [f_M_orphansNow_L4] at h
      cases h
    | succ nf4 ih4 =>
      intro x1 x2 H locs ls r1 r2 hP hS hl h
      rw [f_M_orphansNow_L4] at h
      refine lv_iload_n hx hb dX11_orphansNow_4 rfl (lv_at hl 2 rfl) ?_
      refine lv_aload_n hx hb dX11_orphansNow_5 rfl (lv_at hl 0 rfl) ?_
      refine q_getR hx hb hts hown hK hP fd_RX11_7 (Nat.le_of_ble_eq_true rfl) q_kdM_0 rfl q_rhM_0_1 dX11_orphansNow_6 ?_
      refine lv_bipush (v := q_I 37) hx hb dX11_orphansNow_9 (by decide) ?_
      refine q_iald hx hb hK hP (Nat.le_of_ble_eq_true rfl) q_kdM_1 (q_r 37 rfl) dX11_orphansNow_11 h ?_
      clear h; intro x4 r4 h
      refine q_cge hx hb r2 r4 (tgt := 37) dX11_orphansNow_12 (by decide) h ?_ ?_
      · clear h; intro g11 h
        exact hk37 x1 _ _ _ r1 hP hS (lv_sub hl [1] rfl) h
      · clear h; intro g11 h
        refine lv_iload_n hx hb dX11_orphansNow_15 rfl (lv_at hl 1 rfl) ?_
        refine lv_aload_n hx hb dX11_orphansNow_16 rfl (lv_at hl 0 rfl) ?_
        refine lv_iload_n hx hb dX11_orphansNow_17 rfl (lv_at hl 2 rfl) ?_
        obtain ⟨x6, hv5, h⟩ := q_b_some h
        refine q_callV hx hb hml hts hown hK hP hS (As := [.int (q_I x2)]) (rest := [.int (q_I x1)]) (st1 := [.int (q_I x6), .int (q_I x1)]) cv_RX11_175 (c_M_isOrphan l D dA r2 hv5) (Nat.le_of_ble_eq_true rfl) q_kdM_0 rfl ⟨rfl, rfl, Nat.le_of_ble_eq_true rfl, Nat.le_of_ble_eq_true rfl⟩ ⟨Nat.le_refl _, Nat.le_refl _⟩ rfl hl.1 rfl (Nat.le_of_ble_eq_true rfl) rfl (fun _ g => g) dX11_orphansNow_18 ?_
        clear hP hS hv5; intro H locs r6 hP hS _
        refine q_jn_in h (fun J => ∀ (x7 : Int) (H : Heap) (locs : List Loc) (ls : Array Slot), q_R x7 → q_P D dA q_kdM q_rhoM 22 z sz μ H → va_S (q_A z 22) s.heap H locs → lv_has ls 3 [(0, .ref (z + 0)), (2, .int (q_I x2))] → J x7 = some xo → W p l e ({ frames := 3, cells := 0, slots := 0, locals := 66 } : Room) s m args below meth c H locs 0 0 Qf (F0 m 29 ls [.int (q_I x7), .int (q_I x1)])) ?_ ?_
        · clear h hl hP hS; intro x7 H locs ls r7 hP hS hl h
          refine q_iadd hx hb dX11_orphansNow_29 h ?_
          clear h; intro x8 r8 h
          refine lv_istore_n (lv' := [(1, .int (q_I x8)), (0, .ref (z + 0)), (2, .int (q_I x2))]) hx hb dX11_orphansNow_30 rfl hl (by decide) rfl ?_
          clear hl; intro ls hl
          refine q_iinc (k := 2) (lv' := fun t => [(2, .int (q_I t)), (1, .int (q_I x8)), (0, .ref (z + 0))]) hx hb dX11_orphansNow_31 hl rfl (by decide) (fun _ => rfl) h ?_
          clear h hl; intro x9 ls r9 hl h
          refine lv_goto (tgt := 4) hx hb dX11_orphansNow_34 (by decide) ?_
          exact ih4 x8 x9 _ _ _ r8 r9 hP hS (lv_sub hl [2, 1, 0] rfl) h
        · clear h; intro j29 hj29 h
          refine q_zeq hx hb r6 (tgt := 28) dX11_orphansNow_21 (by decide) h ?_ ?_
          · clear h; intro g10 h
            refine lv_iconst (v := q_I 0) hx hb dX11_orphansNow_28 rfl ?_
            exact hj29 0 _ _ _ (q_r 0 rfl) hP hS (lv_sub hl [0, 2] rfl) h
          · clear h; intro g10 h
            refine lv_iconst (v := q_I 1) hx hb dX11_orphansNow_24 rfl ?_
            refine lv_goto (tgt := 29) hx hb dX11_orphansNow_25 (by decide) ?_
            exact hj29 1 _ _ _ (q_r 1 rfl) hP hS (lv_sub hl [0, 2] rfl) h
  refine L4 _ ?_  _ 0 0 _ _ _ (q_r 0 rfl) (q_r 0 rfl) hP hS (lv_sub hl [2, 1, 0] rfl) h
  · clear h hl hP hS; intro x3 H locs ls r3 hP hS hl h
    refine lv_iload_n hx hb dX11_orphansNow_37 rfl (lv_at hl 0 rfl) ?_
    rw [← hQ]
    exact q_ret1 hx hb hr hlocks hP hS r3 h dX11_orphansNow_38
set_option maxHeartbeats 4000000 in
set_option maxRecDepth 100000 in
theorem c_M_orphans (l : Launch) (D : va_G) (dA : Nat → ClassId) {z sz : Nat} {N : Nat} {μ : q_M} {xo : Int} (h : f_M_orphans N μ = some xo) : Met l yX11_orphans (q_wc yX11_orphans cX11_orphans 1 (some .int)) ({ frames := 4, cells := 0, slots := 0, locals := 88 } : Room) (va_Pc [.ref (z + 0)] (q_B (q_P D dA q_kdM q_rhoM 22 z sz μ) D dA)) (q_Q (some (.int (q_I xo))) (q_R xo) (q_P D dA q_kdM q_rhoM 22 z sz μ) (q_A z 22)) 0 0 (q_A z 22) := by
  refine Met.ofW (cc := cX11_orphans) (maxL := 1) (ret := (some .int)) (by decide) rfl ?_
  intro p e s m args below meth c s₁ B hml hv
  obtain ⟨hargs, hP, hK⟩ := hv
  have hx := B.exec
  have hb := B.bytes
  have hr := B.returns
  have hts : ∀ w ∈ q_W, w.before args s = true := fun w hw => atoms_spec (ws := q_wc yX11_orphans cX11_orphans 1 (some .int)) B.pre w (List.mem_cons_of_mem _ hw)
  have hown : s.vm.findClass RX11 = some m.cls := findClass_of_methodNamed B.named
  have hlocks := B.notSynchronized
  have hS : va_S (q_A z 22) s.heap s.heap [] := va_S.rf
  have hA : ∀ k, k < 22 → q_A z 22 (z + k) := fun k hk => ⟨Nat.le_add_right z k, Nat.add_lt_add_left hk z⟩
  have hl := lv_entry [.ref (z + 0)] (n := 1) (Nat.le_of_ble_eq_true rfl)
  refine W.eq (by rw [hargs, lg_entry_eq]) ?_
  generalize (lg_sl [.ref (z + 0)] ++ List.replicate (1 - (lg_sl [.ref (z + 0)]).length) Slot.unset).toArray = ls at hl ⊢
  have hl : lv_has ls 1 [(0, .ref (z + 0))] := hl
  generalize hQ : MQ below _ args s 0 0 _ = Qf
  change W p l e ({ frames := 4, cells := 0, slots := 0, locals := 88 } : Room) s m args below meth c s.heap [] 0 0 Qf (F0 m 0 ls [])
  unfold f_M_orphans at h
  refine lv_aload_n hx hb dX11_orphans_0 rfl (lv_at hl 0 rfl) ?_
  obtain ⟨x2, hv1, h⟩ := q_b_some h
  refine q_callV hx hb hml hts hown hK hP hS (As := []) (rest := []) (st1 := [.int (q_I x2)]) cv_RX11_178 (c_M_orphansNow l D dA hv1) (Nat.le_of_ble_eq_true rfl) q_kdM_0 rfl ⟨rfl, rfl, Nat.le_of_ble_eq_true rfl, Nat.le_of_ble_eq_true rfl⟩ ⟨Nat.le_refl _, Nat.le_refl _⟩ rfl hl.1 rfl (Nat.le_of_ble_eq_true rfl) rfl (fun _ g => g) dX11_orphans_1 ?_
  clear hP hS hv1; intro H locs r2 hP hS _
  rw [← hQ]
  exact q_ret1 hx hb hr hlocks hP hS r2 h dX11_orphans_4
set_option maxHeartbeats 4000000 in
set_option maxRecDepth 100000 in
theorem c_M_lowerCut (l : Launch) (D : va_G) (dA : Nat → ClassId) {z sz : Nat} {N : Nat} {μ : q_M} {xo : Int} {μo : q_M} (h : f_M_lowerCut N μ = some (xo, μo)) : Met l yX11_lowerCut (q_wc yX11_lowerCut cX11_lowerCut 4 (some .int)) ({ frames := 4, cells := 0, slots := 0, locals := 88 } : Room) (va_Pc [.ref (z + 0)] (q_B (q_P D dA q_kdM q_rhoM 22 z sz μ) D dA)) (q_Q (some (.int (q_I xo))) (q_R xo) (q_P D dA q_kdM q_rhoM 22 z sz μo) (q_A z 22)) 0 0 (q_A z 22) := by
  refine Met.ofW (cc := cX11_lowerCut) (maxL := 4) (ret := (some .int)) (by decide) rfl ?_
  intro p e s m args below meth c s₁ B hml hv
  obtain ⟨hargs, hP, hK⟩ := hv
  have hx := B.exec
  have hb := B.bytes
  have hr := B.returns
  have hts : ∀ w ∈ q_W, w.before args s = true := fun w hw => atoms_spec (ws := q_wc yX11_lowerCut cX11_lowerCut 4 (some .int)) B.pre w (List.mem_cons_of_mem _ hw)
  have hown : s.vm.findClass RX11 = some m.cls := findClass_of_methodNamed B.named
  have hlocks := B.notSynchronized
  have hS : va_S (q_A z 22) s.heap s.heap [] := va_S.rf
  have hA : ∀ k, k < 22 → q_A z 22 (z + k) := fun k hk => ⟨Nat.le_add_right z k, Nat.add_lt_add_left hk z⟩
  have hl := lv_entry [.ref (z + 0)] (n := 4) (Nat.le_of_ble_eq_true rfl)
  refine W.eq (by rw [hargs, lg_entry_eq]) ?_
  generalize (lg_sl [.ref (z + 0)] ++ List.replicate (4 - (lg_sl [.ref (z + 0)]).length) Slot.unset).toArray = ls at hl ⊢
  have hl : lv_has ls 4 [(0, .ref (z + 0))] := hl
  generalize hQ : MQ below _ args s 0 0 _ = Qf
  change W p l e ({ frames := 4, cells := 0, slots := 0, locals := 88 } : Room) s m args below meth c s.heap [] 0 0 Qf (F0 m 0 ls [])
  unfold f_M_lowerCut at h
  refine lv_aload_n hx hb dX11_lowerCut_0 rfl (lv_at hl 0 rfl) ?_
  obtain ⟨x2, hv1, h⟩ := q_b_some h
  refine q_callV hx hb hml hts hown hK hP hS (As := []) (rest := []) (st1 := [.int (q_I x2)]) cv_RX11_169 (c_M_cutSize l D dA hv1) (Nat.le_of_ble_eq_true rfl) q_kdM_0 rfl ⟨rfl, rfl, Nat.le_of_ble_eq_true rfl, Nat.le_of_ble_eq_true rfl⟩ ⟨Nat.le_refl _, Nat.le_refl _⟩ rfl hl.1 rfl (Nat.le_of_ble_eq_true rfl) rfl (fun _ g => g) dX11_lowerCut_1 ?_
  clear hP hS hv1; intro H locs r2 hP hS _
  refine lv_istore_n (lv' := [(1, .int (q_I x2)), (0, .ref (z + 0))]) hx hb dX11_lowerCut_4 rfl hl (by decide) rfl ?_
  clear hl; intro ls hl
  have L5 : ∀ (k70 : q_M → Option (Int × q_M)), (∀ (μ4 : q_M) (H : Heap) (locs : List Loc) (ls : Array Slot), q_P D dA q_kdM q_rhoM 22 z sz μ4 H → va_S (q_A z 22) s.heap H locs → lv_has ls 4 [(0, .ref (z + 0)), (1, .int (q_I x2))] → k70 μ4 = some (xo, μo) → W p l e ({ frames := 4, cells := 0, slots := 0, locals := 88 } : Room) s m args below meth c H locs 0 0 Qf (F0 m 70 ls [])) → ∀ (nf5 : Nat) (μ3 : q_M) (H : Heap) (locs : List Loc) (ls : Array Slot), q_P D dA q_kdM q_rhoM 22 z sz μ3 H → va_S (q_A z 22) s.heap H locs → lv_has ls 4 [(0, .ref (z + 0)), (1, .int (q_I x2))] → f_M_lowerCut_L5 N k70 nf5 μ3 = some (xo, μo) → W p l e ({ frames := 4, cells := 0, slots := 0, locals := 88 } : Room) s m args below meth c H locs 0 0 Qf (F0 m 5 ls []) := by
    clear h hl hP hS
    intro k70 hk70 nf5
    induction nf5 with
    | zero =>
      intro μ3 H locs ls  hP hS hl h
      rw [f_M_lowerCut_L5] at h
      cases h
    | succ nf5 ih5 =>
      intro μ3 H locs ls  hP hS hl h
      rw [f_M_lowerCut_L5] at h
      refine lv_aload_n hx hb dX11_lowerCut_5 rfl (lv_at hl 0 rfl) ?_
      obtain ⟨x6, hv5, h⟩ := q_b_some h
      refine q_callV hx hb hml hts hown hK hP hS (As := []) (rest := []) (st1 := [.int (q_I x6)]) cv_RX11_178 (c_M_orphansNow l D dA hv5) (Nat.le_of_ble_eq_true rfl) q_kdM_0 rfl ⟨rfl, rfl, Nat.le_of_ble_eq_true rfl, Nat.le_of_ble_eq_true rfl⟩ ⟨Nat.le_refl _, Nat.le_refl _⟩ rfl hl.1 rfl (Nat.le_of_ble_eq_true rfl) rfl (fun _ g => g) dX11_lowerCut_6 ?_
      clear hP hS hv5; intro H locs r6 hP hS _
      refine q_zle hx hb r6 (tgt := 70) dX11_lowerCut_9 (by decide) h ?_ ?_
      · clear h; intro g25 h
        exact hk70 μ3 _ _ _ hP hS (lv_sub hl [0, 1] rfl) h
      · clear h; intro g25 h
        refine lv_iconst (v := q_I 0) hx hb dX11_lowerCut_12 rfl ?_
        refine lv_istore_n (lv' := [(2, .int (q_I 0)), (0, .ref (z + 0)), (1, .int (q_I x2))]) hx hb dX11_lowerCut_13 rfl hl (by decide) rfl ?_
        clear hl; intro ls hl
        have L14 : ∀ (k67 : q_M → Option (Int × q_M)), (∀ (μ9 : q_M) (H : Heap) (locs : List Loc) (ls : Array Slot), q_P D dA q_kdM q_rhoM 22 z sz μ9 H → va_S (q_A z 22) s.heap H locs → lv_has ls 4 [(0, .ref (z + 0)), (1, .int (q_I x2))] → k67 μ9 = some (xo, μo) → W p l e ({ frames := 4, cells := 0, slots := 0, locals := 88 } : Room) s m args below meth c H locs 0 0 Qf (F0 m 67 ls [])) → ∀ (nf14 : Nat) (x7 : Int) (μ8 : q_M) (H : Heap) (locs : List Loc) (ls : Array Slot), q_R x7 → q_P D dA q_kdM q_rhoM 22 z sz μ8 H → va_S (q_A z 22) s.heap H locs → lv_has ls 4 [(0, .ref (z + 0)), (1, .int (q_I x2)), (2, .int (q_I x7))] → f_M_lowerCut_L14  k67 nf14 x7 μ8 = some (xo, μo) → W p l e ({ frames := 4, cells := 0, slots := 0, locals := 88 } : Room) s m args below meth c H locs 0 0 Qf (F0 m 14 ls []) := by
          clear h hl hP hS
          intro k67 hk67 nf14
          induction nf14 with
          | zero =>
            intro x7 μ8 H locs ls r7 hP hS hl h
            rw [f_M_lowerCut_L14] at h
            cases h
          | succ nf14 ih14 =>
            intro x7 μ8 H locs ls r7 hP hS hl h
            rw [f_M_lowerCut_L14] at h
            refine lv_iload_n hx hb dX11_lowerCut_14 rfl (lv_at hl 2 rfl) ?_
            refine lv_aload_n hx hb dX11_lowerCut_15 rfl (lv_at hl 0 rfl) ?_
            refine q_getR hx hb hts hown hK hP fd_RX11_7 (Nat.le_of_ble_eq_true rfl) q_kdM_0 rfl q_rhM_0_1 dX11_lowerCut_16 ?_
            refine lv_bipush (v := q_I 37) hx hb dX11_lowerCut_19 (by decide) ?_
            refine q_iald hx hb hK hP (Nat.le_of_ble_eq_true rfl) q_kdM_1 (q_r 37 rfl) dX11_lowerCut_21 h ?_
            clear h; intro x10 r10 h
            refine q_cge hx hb r7 r10 (tgt := 67) dX11_lowerCut_22 (by decide) h ?_ ?_
            · clear h; intro g24 h
              exact hk67 μ8 _ _ _ hP hS (lv_sub hl [0, 1] rfl) h
            · clear h; intro g24 h
              refine lv_aload_n hx hb dX11_lowerCut_25 rfl (lv_at hl 0 rfl) ?_
              refine lv_iload_n hx hb dX11_lowerCut_26 rfl (lv_at hl 2 rfl) ?_
              obtain ⟨x12, hv11, h⟩ := q_b_some h
              refine q_callV hx hb hml hts hown hK hP hS (As := [.int (q_I x7)]) (rest := []) (st1 := [.int (q_I x12)]) cv_RX11_175 (c_M_isOrphan l D dA r7 hv11) (Nat.le_of_ble_eq_true rfl) q_kdM_0 rfl ⟨rfl, rfl, Nat.le_of_ble_eq_true rfl, Nat.le_of_ble_eq_true rfl⟩ ⟨Nat.le_refl _, Nat.le_refl _⟩ rfl hl.1 rfl (Nat.le_of_ble_eq_true rfl) rfl (fun _ g => g) dX11_lowerCut_27 ?_
              clear hP hS hv11; intro H locs r12 hP hS _
              refine q_jn_in h (fun J => ∀ (μ13 : q_M) (H : Heap) (locs : List Loc) (ls : Array Slot), q_P D dA q_kdM q_rhoM 22 z sz μ13 H → va_S (q_A z 22) s.heap H locs → lv_has ls 4 [(0, .ref (z + 0)), (1, .int (q_I x2)), (2, .int (q_I x7))] → J μ13 = some (xo, μo) → W p l e ({ frames := 4, cells := 0, slots := 0, locals := 88 } : Room) s m args below meth c H locs 0 0 Qf (F0 m 61 ls [])) ?_ ?_
              · clear h hl hP hS; intro μ13 H locs ls  hP hS hl h
                refine q_iinc (k := 2) (lv' := fun t => [(2, .int (q_I t)), (0, .ref (z + 0)), (1, .int (q_I x2))]) hx hb dX11_lowerCut_61 hl rfl (by decide) (fun _ => rfl) h ?_
                clear h hl; intro x14 ls r14 hl h
                refine lv_goto (tgt := 14) hx hb dX11_lowerCut_64 (by decide) ?_
                exact ih14 x14 μ13 _ _ _ r14 hP hS (lv_sub hl [1, 2, 0] rfl) h
              · clear h; intro j61 hj61 h
                refine q_zeq hx hb r12 (tgt := 61) dX11_lowerCut_30 (by decide) h ?_ ?_
                · clear h; intro g23 h
                  exact hj61 μ8 _ _ _ hP hS (lv_sub hl [0, 1, 2] rfl) h
                · clear h; intro g23 h
                  refine lv_aload_n hx hb dX11_lowerCut_33 rfl (lv_at hl 0 rfl) ?_
                  refine lv_iload_n hx hb dX11_lowerCut_34 rfl (lv_at hl 2 rfl) ?_
                  refine lv_iconst (v := q_I 5) hx hb dX11_lowerCut_35 rfl ?_
                  obtain ⟨x16, hv15, h⟩ := q_b_some h
                  refine q_callV hx hb hml hts hown hK hP hS (As := [.int (q_I x7), .int (q_I 5)]) (rest := []) (st1 := [.int (q_I x16)]) cv_RX11_114 (c_M_ofMessage l D dA r7 (q_r 5 rfl) hv15) (Nat.le_of_ble_eq_true rfl) q_kdM_0 rfl ⟨rfl, rfl, Nat.le_of_ble_eq_true rfl, Nat.le_of_ble_eq_true rfl⟩ ⟨Nat.le_refl _, Nat.le_refl _⟩ rfl hl.1 rfl (Nat.le_of_ble_eq_true rfl) rfl (fun _ g => g) dX11_lowerCut_36 ?_
                  clear hP hS hv15; intro H locs r16 hP hS _
                  refine lv_istore_n (lv' := [(3, .int (q_I x16)), (0, .ref (z + 0)), (1, .int (q_I x2)), (2, .int (q_I x7))]) hx hb dX11_lowerCut_39 rfl hl (by decide) rfl ?_
                  clear hl; intro ls hl
                  refine lv_aload_n hx hb dX11_lowerCut_40 rfl (lv_at hl 1 rfl) ?_
                  refine q_getR hx hb hts hown hK hP fd_RX11_7 (Nat.le_of_ble_eq_true rfl) q_kdM_0 rfl q_rhM_0_1 dX11_lowerCut_41 ?_
                  refine lv_bipush (v := q_I 20) hx hb dX11_lowerCut_44 (by decide) ?_
                  refine lv_aload_n hx hb dX11_lowerCut_46 rfl (lv_at hl 1 rfl) ?_
                  refine lv_iload_n hx hb dX11_lowerCut_47 rfl (lv_at hl 0 rfl) ?_
                  refine lv_iconst (v := q_I 0) hx hb dX11_lowerCut_48 rfl ?_
                  obtain ⟨x18, hv17, h⟩ := q_b_some h
                  refine q_callV hx hb hml hts hown hK hP hS (As := [.int (q_I x16), .int (q_I 0)]) (rest := [.int (q_I 20), .ref (z + 1)]) (st1 := [.int (q_I x18), .int (q_I 20), .ref (z + 1)]) cv_RX11_122 (c_M_ofEvent l D dA r16 (q_r 0 rfl) hv17) (Nat.le_of_ble_eq_true rfl) q_kdM_0 rfl ⟨rfl, rfl, Nat.le_of_ble_eq_true rfl, Nat.le_of_ble_eq_true rfl⟩ ⟨Nat.le_refl _, Nat.le_refl _⟩ rfl hl.1 rfl (Nat.le_of_ble_eq_true rfl) rfl (fun _ g => g) dX11_lowerCut_49 ?_
                  clear hP hS hv17; intro H locs r18 hP hS _
                  refine q_iadd hx hb dX11_lowerCut_52 h ?_
                  clear h; intro x19 r19 h
                  refine lv_aload_n hx hb dX11_lowerCut_53 rfl (lv_at hl 1 rfl) ?_
                  refine lv_iload_n hx hb dX11_lowerCut_54 rfl (lv_at hl 0 rfl) ?_
                  refine lv_bipush (v := q_I 6) hx hb dX11_lowerCut_55 (by decide) ?_
                  obtain ⟨x21, hv20, h⟩ := q_b_some h
                  refine q_callV hx hb hml hts hown hK hP hS (As := [.int (q_I x16), .int (q_I 6)]) (rest := [.int (q_I x19), .ref (z + 1)]) (st1 := [.int (q_I x21), .int (q_I x19), .ref (z + 1)]) cv_RX11_122 (c_M_ofEvent l D dA r16 (q_r 6 rfl) hv20) (Nat.le_of_ble_eq_true rfl) q_kdM_0 rfl ⟨rfl, rfl, Nat.le_of_ble_eq_true rfl, Nat.le_of_ble_eq_true rfl⟩ ⟨Nat.le_refl _, Nat.le_refl _⟩ rfl hl.1 rfl (Nat.le_of_ble_eq_true rfl) rfl (fun _ g => g) dX11_lowerCut_57 ?_
                  clear hP hS hv20; intro H locs r21 hP hS _
                  refine q_iast hx hb hK hP hS hA (Nat.le_of_ble_eq_true rfl) q_kdM_1 r19 r21 dX11_lowerCut_60 h ?_
                  clear h hP hS; intro μ22 H locs hP hS h
                  exact hj61 μ22 _ _ _ hP hS (lv_sub hl [1, 2, 3] rfl) h
        refine L14 _ ?_  _ 0 μ3 _ _ _ (q_r 0 rfl) hP hS (lv_sub hl [1, 2, 0] rfl) h
        · clear h hl hP hS; intro μ9 H locs ls  hP hS hl h
          refine lv_goto (tgt := 5) hx hb dX11_lowerCut_67 (by decide) ?_
          exact ih5 μ9 _ _ _ hP hS (lv_sub hl [0, 1] rfl) h
  refine L5 _ ?_  _ μ _ _ _ hP hS (lv_sub hl [1, 0] rfl) h
  · clear h hl hP hS; intro μ4 H locs ls  hP hS hl h
    refine lv_iload_n hx hb dX11_lowerCut_70 rfl (lv_at hl 1 rfl) ?_
    refine lv_aload_n hx hb dX11_lowerCut_71 rfl (lv_at hl 0 rfl) ?_
    obtain ⟨x27, hv26, h⟩ := q_b_some h
    refine q_callV hx hb hml hts hown hK hP hS (As := []) (rest := [.int (q_I x2)]) (st1 := [.int (q_I x27), .int (q_I x2)]) cv_RX11_169 (c_M_cutSize l D dA hv26) (Nat.le_of_ble_eq_true rfl) q_kdM_0 rfl ⟨rfl, rfl, Nat.le_of_ble_eq_true rfl, Nat.le_of_ble_eq_true rfl⟩ ⟨Nat.le_refl _, Nat.le_refl _⟩ rfl hl.1 rfl (Nat.le_of_ble_eq_true rfl) rfl (fun _ g => g) dX11_lowerCut_72 ?_
    clear hP hS hv26; intro H locs r27 hP hS _
    refine q_isub hx hb dX11_lowerCut_75 h ?_
    clear h; intro x28 r28 h
    rw [← hQ]
    exact q_ret2 hx hb hr hlocks hP hS r28 h dX11_lowerCut_76
set_option maxHeartbeats 4000000 in
set_option maxRecDepth 100000 in
theorem c_M_raiseCut (l : Launch) (D : va_G) (dA : Nat → ClassId) {z sz : Nat} {N : Nat} {μ : q_M} {xo : Int} {μo : q_M} (h : f_M_raiseCut N μ = some (xo, μo)) : Met l yX11_raiseCut (q_wc yX11_raiseCut cX11_raiseCut 4 (some .int)) ({ frames := 4, cells := 0, slots := 0, locals := 88 } : Room) (va_Pc [.ref (z + 0)] (q_B (q_P D dA q_kdM q_rhoM 22 z sz μ) D dA)) (q_Q (some (.int (q_I xo))) (q_R xo) (q_P D dA q_kdM q_rhoM 22 z sz μo) (q_A z 22)) 0 0 (q_A z 22) := by
  refine Met.ofW (cc := cX11_raiseCut) (maxL := 4) (ret := (some .int)) (by decide) rfl ?_
  intro p e s m args below meth c s₁ B hml hv
  obtain ⟨hargs, hP, hK⟩ := hv
  have hx := B.exec
  have hb := B.bytes
  have hr := B.returns
  have hts : ∀ w ∈ q_W, w.before args s = true := fun w hw => atoms_spec (ws := q_wc yX11_raiseCut cX11_raiseCut 4 (some .int)) B.pre w (List.mem_cons_of_mem _ hw)
  have hown : s.vm.findClass RX11 = some m.cls := findClass_of_methodNamed B.named
  have hlocks := B.notSynchronized
  have hS : va_S (q_A z 22) s.heap s.heap [] := va_S.rf
  have hA : ∀ k, k < 22 → q_A z 22 (z + k) := fun k hk => ⟨Nat.le_add_right z k, Nat.add_lt_add_left hk z⟩
  have hl := lv_entry [.ref (z + 0)] (n := 4) (Nat.le_of_ble_eq_true rfl)
  refine W.eq (by rw [hargs, lg_entry_eq]) ?_
  generalize (lg_sl [.ref (z + 0)] ++ List.replicate (4 - (lg_sl [.ref (z + 0)]).length) Slot.unset).toArray = ls at hl ⊢
  have hl : lv_has ls 4 [(0, .ref (z + 0))] := hl
  generalize hQ : MQ below _ args s 0 0 _ = Qf
  change W p l e ({ frames := 4, cells := 0, slots := 0, locals := 88 } : Room) s m args below meth c s.heap [] 0 0 Qf (F0 m 0 ls [])
  unfold f_M_raiseCut at h
  refine lv_aload_n hx hb dX11_raiseCut_0 rfl (lv_at hl 0 rfl) ?_
  obtain ⟨x2, hv1, h⟩ := q_b_some h
  refine q_callV hx hb hml hts hown hK hP hS (As := []) (rest := []) (st1 := [.int (q_I x2)]) cv_RX11_169 (c_M_cutSize l D dA hv1) (Nat.le_of_ble_eq_true rfl) q_kdM_0 rfl ⟨rfl, rfl, Nat.le_of_ble_eq_true rfl, Nat.le_of_ble_eq_true rfl⟩ ⟨Nat.le_refl _, Nat.le_refl _⟩ rfl hl.1 rfl (Nat.le_of_ble_eq_true rfl) rfl (fun _ g => g) dX11_raiseCut_1 ?_
  clear hP hS hv1; intro H locs r2 hP hS _
  refine lv_istore_n (lv' := [(1, .int (q_I x2)), (0, .ref (z + 0))]) hx hb dX11_raiseCut_4 rfl hl (by decide) rfl ?_
  clear hl; intro ls hl
  have L5 : ∀ (k72 : q_M → Option (Int × q_M)), (∀ (μ4 : q_M) (H : Heap) (locs : List Loc) (ls : Array Slot), q_P D dA q_kdM q_rhoM 22 z sz μ4 H → va_S (q_A z 22) s.heap H locs → lv_has ls 4 [(0, .ref (z + 0)), (1, .int (q_I x2))] → k72 μ4 = some (xo, μo) → W p l e ({ frames := 4, cells := 0, slots := 0, locals := 88 } : Room) s m args below meth c H locs 0 0 Qf (F0 m 72 ls [])) → ∀ (nf5 : Nat) (μ3 : q_M) (H : Heap) (locs : List Loc) (ls : Array Slot), q_P D dA q_kdM q_rhoM 22 z sz μ3 H → va_S (q_A z 22) s.heap H locs → lv_has ls 4 [(0, .ref (z + 0)), (1, .int (q_I x2))] → f_M_raiseCut_L5 N k72 nf5 μ3 = some (xo, μo) → W p l e ({ frames := 4, cells := 0, slots := 0, locals := 88 } : Room) s m args below meth c H locs 0 0 Qf (F0 m 5 ls []) := by
    clear h hl hP hS
    intro k72 hk72 nf5
    induction nf5 with
    | zero =>
      intro μ3 H locs ls  hP hS hl h
      rw [f_M_raiseCut_L5] at h
      cases h
    | succ nf5 ih5 =>
      intro μ3 H locs ls  hP hS hl h
      rw [f_M_raiseCut_L5] at h
      refine lv_aload_n hx hb dX11_raiseCut_5 rfl (lv_at hl 0 rfl) ?_
      obtain ⟨x6, hv5, h⟩ := q_b_some h
      refine q_callV hx hb hml hts hown hK hP hS (As := []) (rest := []) (st1 := [.int (q_I x6)]) cv_RX11_178 (c_M_orphansNow l D dA hv5) (Nat.le_of_ble_eq_true rfl) q_kdM_0 rfl ⟨rfl, rfl, Nat.le_of_ble_eq_true rfl, Nat.le_of_ble_eq_true rfl⟩ ⟨Nat.le_refl _, Nat.le_refl _⟩ rfl hl.1 rfl (Nat.le_of_ble_eq_true rfl) rfl (fun _ g => g) dX11_raiseCut_6 ?_
      clear hP hS hv5; intro H locs r6 hP hS _
      refine q_zle hx hb r6 (tgt := 72) dX11_raiseCut_9 (by decide) h ?_ ?_
      · clear h; intro g26 h
        exact hk72 μ3 _ _ _ hP hS (lv_sub hl [0, 1] rfl) h
      · clear h; intro g26 h
        refine lv_iconst (v := q_I 0) hx hb dX11_raiseCut_12 rfl ?_
        refine lv_istore_n (lv' := [(2, .int (q_I 0)), (0, .ref (z + 0)), (1, .int (q_I x2))]) hx hb dX11_raiseCut_13 rfl hl (by decide) rfl ?_
        clear hl; intro ls hl
        have L14 : ∀ (k69 : q_M → Option (Int × q_M)), (∀ (μ9 : q_M) (H : Heap) (locs : List Loc) (ls : Array Slot), q_P D dA q_kdM q_rhoM 22 z sz μ9 H → va_S (q_A z 22) s.heap H locs → lv_has ls 4 [(0, .ref (z + 0)), (1, .int (q_I x2))] → k69 μ9 = some (xo, μo) → W p l e ({ frames := 4, cells := 0, slots := 0, locals := 88 } : Room) s m args below meth c H locs 0 0 Qf (F0 m 69 ls [])) → ∀ (nf14 : Nat) (x7 : Int) (μ8 : q_M) (H : Heap) (locs : List Loc) (ls : Array Slot), q_R x7 → q_P D dA q_kdM q_rhoM 22 z sz μ8 H → va_S (q_A z 22) s.heap H locs → lv_has ls 4 [(0, .ref (z + 0)), (1, .int (q_I x2)), (2, .int (q_I x7))] → f_M_raiseCut_L14  k69 nf14 x7 μ8 = some (xo, μo) → W p l e ({ frames := 4, cells := 0, slots := 0, locals := 88 } : Room) s m args below meth c H locs 0 0 Qf (F0 m 14 ls []) := by
          clear h hl hP hS
          intro k69 hk69 nf14
          induction nf14 with
          | zero =>
            intro x7 μ8 H locs ls r7 hP hS hl h
            rw [f_M_raiseCut_L14] at h
            cases h
          | succ nf14 ih14 =>
            intro x7 μ8 H locs ls r7 hP hS hl h
            rw [f_M_raiseCut_L14] at h
            refine lv_iload_n hx hb dX11_raiseCut_14 rfl (lv_at hl 2 rfl) ?_
            refine lv_aload_n hx hb dX11_raiseCut_15 rfl (lv_at hl 0 rfl) ?_
            refine q_getR hx hb hts hown hK hP fd_RX11_7 (Nat.le_of_ble_eq_true rfl) q_kdM_0 rfl q_rhM_0_1 dX11_raiseCut_16 ?_
            refine lv_bipush (v := q_I 37) hx hb dX11_raiseCut_19 (by decide) ?_
            refine q_iald hx hb hK hP (Nat.le_of_ble_eq_true rfl) q_kdM_1 (q_r 37 rfl) dX11_raiseCut_21 h ?_
            clear h; intro x10 r10 h
            refine q_cge hx hb r7 r10 (tgt := 69) dX11_raiseCut_22 (by decide) h ?_ ?_
            · clear h; intro g25 h
              exact hk69 μ8 _ _ _ hP hS (lv_sub hl [0, 1] rfl) h
            · clear h; intro g25 h
              refine lv_aload_n hx hb dX11_raiseCut_25 rfl (lv_at hl 0 rfl) ?_
              refine lv_iload_n hx hb dX11_raiseCut_26 rfl (lv_at hl 2 rfl) ?_
              obtain ⟨x12, hv11, h⟩ := q_b_some h
              refine q_callV hx hb hml hts hown hK hP hS (As := [.int (q_I x7)]) (rest := []) (st1 := [.int (q_I x12)]) cv_RX11_175 (c_M_isOrphan l D dA r7 hv11) (Nat.le_of_ble_eq_true rfl) q_kdM_0 rfl ⟨rfl, rfl, Nat.le_of_ble_eq_true rfl, Nat.le_of_ble_eq_true rfl⟩ ⟨Nat.le_refl _, Nat.le_refl _⟩ rfl hl.1 rfl (Nat.le_of_ble_eq_true rfl) rfl (fun _ g => g) dX11_raiseCut_27 ?_
              clear hP hS hv11; intro H locs r12 hP hS _
              refine q_jn_in h (fun J => ∀ (μ13 : q_M) (H : Heap) (locs : List Loc) (ls : Array Slot), q_P D dA q_kdM q_rhoM 22 z sz μ13 H → va_S (q_A z 22) s.heap H locs → lv_has ls 4 [(0, .ref (z + 0)), (1, .int (q_I x2)), (2, .int (q_I x7))] → J μ13 = some (xo, μo) → W p l e ({ frames := 4, cells := 0, slots := 0, locals := 88 } : Room) s m args below meth c H locs 0 0 Qf (F0 m 63 ls [])) ?_ ?_
              · clear h hl hP hS; intro μ13 H locs ls  hP hS hl h
                refine q_iinc (k := 2) (lv' := fun t => [(2, .int (q_I t)), (0, .ref (z + 0)), (1, .int (q_I x2))]) hx hb dX11_raiseCut_63 hl rfl (by decide) (fun _ => rfl) h ?_
                clear h hl; intro x14 ls r14 hl h
                refine lv_goto (tgt := 14) hx hb dX11_raiseCut_66 (by decide) ?_
                exact ih14 x14 μ13 _ _ _ r14 hP hS (lv_sub hl [1, 2, 0] rfl) h
              · clear h; intro j63 hj63 h
                refine q_zeq hx hb r12 (tgt := 63) dX11_raiseCut_30 (by decide) h ?_ ?_
                · clear h; intro g24 h
                  exact hj63 μ8 _ _ _ hP hS (lv_sub hl [0, 1, 2] rfl) h
                · clear h; intro g24 h
                  refine lv_aload_n hx hb dX11_raiseCut_33 rfl (lv_at hl 0 rfl) ?_
                  refine lv_iload_n hx hb dX11_raiseCut_34 rfl (lv_at hl 2 rfl) ?_
                  refine lv_iconst (v := q_I 4) hx hb dX11_raiseCut_35 rfl ?_
                  obtain ⟨x16, hv15, h⟩ := q_b_some h
                  refine q_callV hx hb hml hts hown hK hP hS (As := [.int (q_I x7), .int (q_I 4)]) (rest := []) (st1 := [.int (q_I x16)]) cv_RX11_114 (c_M_ofMessage l D dA r7 (q_r 4 rfl) hv15) (Nat.le_of_ble_eq_true rfl) q_kdM_0 rfl ⟨rfl, rfl, Nat.le_of_ble_eq_true rfl, Nat.le_of_ble_eq_true rfl⟩ ⟨Nat.le_refl _, Nat.le_refl _⟩ rfl hl.1 rfl (Nat.le_of_ble_eq_true rfl) rfl (fun _ g => g) dX11_raiseCut_36 ?_
                  clear hP hS hv15; intro H locs r16 hP hS _
                  refine lv_istore_n (lv' := [(3, .int (q_I x16)), (0, .ref (z + 0)), (1, .int (q_I x2)), (2, .int (q_I x7))]) hx hb dX11_raiseCut_39 rfl hl (by decide) rfl ?_
                  clear hl; intro ls hl
                  refine lv_aload_n hx hb dX11_raiseCut_40 rfl (lv_at hl 1 rfl) ?_
                  refine q_getR hx hb hts hown hK hP fd_RX11_7 (Nat.le_of_ble_eq_true rfl) q_kdM_0 rfl q_rhM_0_1 dX11_raiseCut_41 ?_
                  refine lv_bipush (v := q_I 20) hx hb dX11_raiseCut_44 (by decide) ?_
                  refine lv_aload_n hx hb dX11_raiseCut_46 rfl (lv_at hl 1 rfl) ?_
                  refine lv_iload_n hx hb dX11_raiseCut_47 rfl (lv_at hl 0 rfl) ?_
                  refine lv_iconst (v := q_I 0) hx hb dX11_raiseCut_48 rfl ?_
                  obtain ⟨x18, hv17, h⟩ := q_b_some h
                  refine q_callV hx hb hml hts hown hK hP hS (As := [.int (q_I x16), .int (q_I 0)]) (rest := [.int (q_I 20), .ref (z + 1)]) (st1 := [.int (q_I x18), .int (q_I 20), .ref (z + 1)]) cv_RX11_122 (c_M_ofEvent l D dA r16 (q_r 0 rfl) hv17) (Nat.le_of_ble_eq_true rfl) q_kdM_0 rfl ⟨rfl, rfl, Nat.le_of_ble_eq_true rfl, Nat.le_of_ble_eq_true rfl⟩ ⟨Nat.le_refl _, Nat.le_refl _⟩ rfl hl.1 rfl (Nat.le_of_ble_eq_true rfl) rfl (fun _ g => g) dX11_raiseCut_49 ?_
                  clear hP hS hv17; intro H locs r18 hP hS _
                  refine q_iadd hx hb dX11_raiseCut_52 h ?_
                  clear h; intro x19 r19 h
                  refine lv_aload_n hx hb dX11_raiseCut_53 rfl (lv_at hl 1 rfl) ?_
                  refine lv_iload_n hx hb dX11_raiseCut_54 rfl (lv_at hl 0 rfl) ?_
                  refine lv_bipush (v := q_I 6) hx hb dX11_raiseCut_55 (by decide) ?_
                  obtain ⟨x21, hv20, h⟩ := q_b_some h
                  refine q_callV hx hb hml hts hown hK hP hS (As := [.int (q_I x16), .int (q_I 6)]) (rest := [.int (q_I x19), .ref (z + 1)]) (st1 := [.int (q_I x21), .int (q_I x19), .ref (z + 1)]) cv_RX11_122 (c_M_ofEvent l D dA r16 (q_r 6 rfl) hv20) (Nat.le_of_ble_eq_true rfl) q_kdM_0 rfl ⟨rfl, rfl, Nat.le_of_ble_eq_true rfl, Nat.le_of_ble_eq_true rfl⟩ ⟨Nat.le_refl _, Nat.le_refl _⟩ rfl hl.1 rfl (Nat.le_of_ble_eq_true rfl) rfl (fun _ g => g) dX11_raiseCut_57 ?_
                  clear hP hS hv20; intro H locs r21 hP hS _
                  refine lv_iconst (v := q_I 1) hx hb dX11_raiseCut_60 rfl ?_
                  refine q_iadd hx hb dX11_raiseCut_61 h ?_
                  clear h; intro x22 r22 h
                  refine q_iast hx hb hK hP hS hA (Nat.le_of_ble_eq_true rfl) q_kdM_1 r19 r22 dX11_raiseCut_62 h ?_
                  clear h hP hS; intro μ23 H locs hP hS h
                  exact hj63 μ23 _ _ _ hP hS (lv_sub hl [1, 2, 3] rfl) h
        refine L14 _ ?_  _ 0 μ3 _ _ _ (q_r 0 rfl) hP hS (lv_sub hl [1, 2, 0] rfl) h
        · clear h hl hP hS; intro μ9 H locs ls  hP hS hl h
          refine lv_goto (tgt := 5) hx hb dX11_raiseCut_69 (by decide) ?_
          exact ih5 μ9 _ _ _ hP hS (lv_sub hl [0, 1] rfl) h
  refine L5 _ ?_  _ μ _ _ _ hP hS (lv_sub hl [1, 0] rfl) h
  · clear h hl hP hS; intro μ4 H locs ls  hP hS hl h
    refine lv_aload_n hx hb dX11_raiseCut_72 rfl (lv_at hl 0 rfl) ?_
    obtain ⟨x28, hv27, h⟩ := q_b_some h
    refine q_callV hx hb hml hts hown hK hP hS (As := []) (rest := []) (st1 := [.int (q_I x28)]) cv_RX11_169 (c_M_cutSize l D dA hv27) (Nat.le_of_ble_eq_true rfl) q_kdM_0 rfl ⟨rfl, rfl, Nat.le_of_ble_eq_true rfl, Nat.le_of_ble_eq_true rfl⟩ ⟨Nat.le_refl _, Nat.le_refl _⟩ rfl hl.1 rfl (Nat.le_of_ble_eq_true rfl) rfl (fun _ g => g) dX11_raiseCut_73 ?_
    clear hP hS hv27; intro H locs r28 hP hS _
    refine lv_iload_n hx hb dX11_raiseCut_76 rfl (lv_at hl 1 rfl) ?_
    refine q_isub hx hb dX11_raiseCut_77 h ?_
    clear h; intro x29 r29 h
    rw [← hQ]
    exact q_ret2 hx hb hr hlocks hP hS r29 h dX11_raiseCut_78
set_option maxHeartbeats 4000000 in
set_option maxRecDepth 100000 in
theorem c_M_stockThen (l : Launch) (D : va_G) (dA : Nat → ClassId) {z sz : Nat} {N : Nat} {a0 : Int} (ra0 : q_R a0) {a1 : Int} (ra1 : q_R a1) {μ : q_M} {xo : Int} (h : f_M_stockThen N a0 a1 μ = some xo) : Met l yX11_stockThen (q_wc yX11_stockThen cX11_stockThen 6 (some .int)) ({ frames := 2, cells := 0, slots := 0, locals := 43 } : Room) (va_Pc [.ref (z + 0), .int (q_I a0), .int (q_I a1)] (q_B (q_P D dA q_kdM q_rhoM 22 z sz μ) D dA)) (q_Q (some (.int (q_I xo))) (q_R xo) (q_P D dA q_kdM q_rhoM 22 z sz μ) (q_A z 22)) 0 0 (q_A z 22) := by
  refine Met.ofW (cc := cX11_stockThen) (maxL := 6) (ret := (some .int)) (by decide) rfl ?_
  intro p e s m args below meth c s₁ B hml hv
  obtain ⟨hargs, hP, hK⟩ := hv
  have hx := B.exec
  have hb := B.bytes
  have hr := B.returns
  have hts : ∀ w ∈ q_W, w.before args s = true := fun w hw => atoms_spec (ws := q_wc yX11_stockThen cX11_stockThen 6 (some .int)) B.pre w (List.mem_cons_of_mem _ hw)
  have hown : s.vm.findClass RX11 = some m.cls := findClass_of_methodNamed B.named
  have hlocks := B.notSynchronized
  have hS : va_S (q_A z 22) s.heap s.heap [] := va_S.rf
  have hA : ∀ k, k < 22 → q_A z 22 (z + k) := fun k hk => ⟨Nat.le_add_right z k, Nat.add_lt_add_left hk z⟩
  have hl := lv_entry [.ref (z + 0), .int (q_I a0), .int (q_I a1)] (n := 6) (Nat.le_of_ble_eq_true rfl)
  refine W.eq (by rw [hargs, lg_entry_eq]) ?_
  generalize (lg_sl [.ref (z + 0), .int (q_I a0), .int (q_I a1)] ++ List.replicate (6 - (lg_sl [.ref (z + 0), .int (q_I a0), .int (q_I a1)]).length) Slot.unset).toArray = ls at hl ⊢
  have hl : lv_has ls 6 [(0, .ref (z + 0)), (1, .int (q_I a0)), (2, .int (q_I a1))] := hl
  generalize hQ : MQ below _ args s 0 0 _ = Qf
  change W p l e ({ frames := 2, cells := 0, slots := 0, locals := 43 } : Room) s m args below meth c s.heap [] 0 0 Qf (F0 m 0 ls [])
  unfold f_M_stockThen at h
  refine lv_aload_n hx hb dX11_stockThen_0 rfl (lv_at hl 0 rfl) ?_
  refine q_getR hx hb hts hown hK hP fd_RX11_7 (Nat.le_of_ble_eq_true rfl) q_kdM_0 rfl q_rhM_0_1 dX11_stockThen_1 ?_
  refine lv_bipush (v := q_I 10) hx hb dX11_stockThen_4 (by decide) ?_
  refine lv_iconst (v := q_I 2) hx hb dX11_stockThen_6 rfl ?_
  refine lv_iload_n hx hb dX11_stockThen_7 rfl (lv_at hl 1 rfl) ?_
  refine q_imul hx hb dX11_stockThen_8 h ?_
  clear h; intro x1 r1 h
  refine q_iadd hx hb dX11_stockThen_9 h ?_
  clear h; intro x2 r2 h
  refine lv_iload_n hx hb dX11_stockThen_10 rfl (lv_at hl 2 rfl) ?_
  refine q_iadd hx hb dX11_stockThen_11 h ?_
  clear h; intro x3 r3 h
  refine q_iald hx hb hK hP (Nat.le_of_ble_eq_true rfl) q_kdM_1 r3 dX11_stockThen_12 h ?_
  clear h; intro x4 r4 h
  refine lv_istore_n (lv' := [(3, .int (q_I x4)), (0, .ref (z + 0)), (1, .int (q_I a0)), (2, .int (q_I a1))]) hx hb dX11_stockThen_13 rfl hl (by decide) rfl ?_
  clear hl; intro ls hl
  refine lv_iconst (v := q_I 0) hx hb dX11_stockThen_14 rfl ?_
  refine lv_istore (lv' := [(4, .int (q_I 0)), (3, .int (q_I x4)), (0, .ref (z + 0)), (1, .int (q_I a0)), (2, .int (q_I a1))]) hx hb dX11_stockThen_15 hl (by decide) rfl ?_
  clear hl; intro ls hl
  have L17 : ∀ (k114 : Int → Option Int), (∀ (x7 : Int) (H : Heap) (locs : List Loc) (ls : Array Slot), q_R x7 → q_P D dA q_kdM q_rhoM 22 z sz μ H → va_S (q_A z 22) s.heap H locs → lv_has ls 6 [(3, .int (q_I x7))] → k114 x7 = some xo → W p l e ({ frames := 2, cells := 0, slots := 0, locals := 43 } : Room) s m args below meth c H locs 0 0 Qf (F0 m 114 ls [])) → ∀ (nf17 : Nat) (x5 : Int) (x6 : Int) (H : Heap) (locs : List Loc) (ls : Array Slot), q_R x5 → q_R x6 → q_P D dA q_kdM q_rhoM 22 z sz μ H → va_S (q_A z 22) s.heap H locs → lv_has ls 6 [(0, .ref (z + 0)), (1, .int (q_I a0)), (2, .int (q_I a1)), (3, .int (q_I x5)), (4, .int (q_I x6))] → f_M_stockThen_L17 a0 a1 μ k114 nf17 x5 x6 = some xo → W p l e ({ frames := 2, cells := 0, slots := 0, locals := 43 } : Room) s m args below meth c H locs 0 0 Qf (F0 m 17 ls []) := by
    clear h hl hP hS
    intro k114 hk114 nf17
    induction nf17 with
    | zero =>
      intro x5 x6 H locs ls r5 r6 hP hS hl h
      rw [f_M_stockThen_L17] at h
      cases h
    | succ nf17 ih17 =>
      intro x5 x6 H locs ls r5 r6 hP hS hl h
      rw [f_M_stockThen_L17] at h
      refine lv_iload hx hb dX11_stockThen_17 (lv_at hl 4 rfl) ?_
      refine lv_aload_n hx hb dX11_stockThen_19 rfl (lv_at hl 0 rfl) ?_
      refine q_getR hx hb hts hown hK hP fd_RX11_7 (Nat.le_of_ble_eq_true rfl) q_kdM_0 rfl q_rhM_0_1 dX11_stockThen_20 ?_
      refine lv_bipush (v := q_I 36) hx hb dX11_stockThen_23 (by decide) ?_
      refine q_iald hx hb hK hP (Nat.le_of_ble_eq_true rfl) q_kdM_1 (q_r 36 rfl) dX11_stockThen_25 h ?_
      clear h; intro x8 r8 h
      refine q_cge hx hb r6 r8 (tgt := 114) dX11_stockThen_26 (by decide) h ?_ ?_
      · clear h; intro g31 h
        exact hk114 x5 _ _ _ r5 hP hS (lv_sub hl [3] rfl) h
      · clear h; intro g31 h
        refine lv_aload_n hx hb dX11_stockThen_29 rfl (lv_at hl 0 rfl) ?_
        refine lv_iload hx hb dX11_stockThen_30 (lv_at hl 4 rfl) ?_
        refine lv_iconst (v := q_I 0) hx hb dX11_stockThen_32 rfl ?_
        obtain ⟨x10, hv9, h⟩ := q_b_some h
        refine q_callV hx hb hml hts hown hK hP hS (As := [.int (q_I x6), .int (q_I 0)]) (rest := []) (st1 := [.int (q_I x10)]) cv_RX11_122 (c_M_ofEvent l D dA r6 (q_r 0 rfl) hv9) (Nat.le_of_ble_eq_true rfl) q_kdM_0 rfl ⟨rfl, rfl, Nat.le_of_ble_eq_true rfl, Nat.le_of_ble_eq_true rfl⟩ ⟨Nat.le_refl _, Nat.le_refl _⟩ rfl hl.1 rfl (Nat.le_of_ble_eq_true rfl) rfl (fun _ g => g) dX11_stockThen_33 ?_
        clear hP hS hv9; intro H locs r10 hP hS _
        refine lv_iload_n hx hb dX11_stockThen_36 rfl (lv_at hl 1 rfl) ?_
        refine q_jn_in h (fun J => ∀ (x11 : Int) (H : Heap) (locs : List Loc) (ls : Array Slot), q_R x11 → q_P D dA q_kdM q_rhoM 22 z sz μ H → va_S (q_A z 22) s.heap H locs → lv_has ls 6 [(0, .ref (z + 0)), (1, .int (q_I a0)), (2, .int (q_I a1)), (3, .int (q_I x5)), (4, .int (q_I x6))] → J x11 = some xo → W p l e ({ frames := 2, cells := 0, slots := 0, locals := 43 } : Room) s m args below meth c H locs 0 0 Qf (F0 m 65 ls [.int (q_I x11)])) ?_ ?_
        · clear h hl hP hS; intro x11 H locs ls r11 hP hS hl h
          refine lv_istore (lv' := [(5, .int (q_I x11)), (0, .ref (z + 0)), (1, .int (q_I a0)), (2, .int (q_I a1)), (3, .int (q_I x5)), (4, .int (q_I x6))]) hx hb dX11_stockThen_65 hl (by decide) rfl ?_
          clear hl; intro ls hl
          refine lv_iload_n hx hb dX11_stockThen_67 rfl (lv_at hl 4 rfl) ?_
          refine lv_iload hx hb dX11_stockThen_68 (lv_at hl 0 rfl) ?_
          refine q_jn_in h (fun J => ∀ (x12 : Int) (H : Heap) (locs : List Loc) (ls : Array Slot), q_R x12 → q_P D dA q_kdM q_rhoM 22 z sz μ H → va_S (q_A z 22) s.heap H locs → lv_has ls 6 [(0, .ref (z + 0)), (1, .int (q_I a0)), (2, .int (q_I a1)), (4, .int (q_I x6))] → J x12 = some xo → W p l e ({ frames := 2, cells := 0, slots := 0, locals := 43 } : Room) s m args below meth c H locs 0 0 Qf (F0 m 106 ls [.int (q_I x12), .int (q_I x5)])) ?_ ?_
          · clear h hl hP hS; intro x12 H locs ls r12 hP hS hl h
            refine q_iadd hx hb dX11_stockThen_106 h ?_
            clear h; intro x13 r13 h
            refine lv_istore_n (lv' := [(3, .int (q_I x13)), (0, .ref (z + 0)), (1, .int (q_I a0)), (2, .int (q_I a1)), (4, .int (q_I x6))]) hx hb dX11_stockThen_107 rfl hl (by decide) rfl ?_
            clear hl; intro ls hl
            refine q_iinc (k := 4) (lv' := fun t => [(4, .int (q_I t)), (3, .int (q_I x13)), (0, .ref (z + 0)), (1, .int (q_I a0)), (2, .int (q_I a1))]) hx hb dX11_stockThen_108 hl rfl (by decide) (fun _ => rfl) h ?_
            clear h hl; intro x14 ls r14 hl h
            refine lv_goto (tgt := 17) hx hb dX11_stockThen_111 (by decide) ?_
            exact ih17 x13 x14 _ _ _ r13 r14 hP hS (lv_sub hl [2, 3, 4, 1, 0] rfl) h
          · clear h; intro j106 hj106 h
            refine q_zne hx hb r11 (tgt := 77) dX11_stockThen_70 (by decide) h ?_ ?_
            · clear h; intro g23 h
              refine lv_iconst (v := q_I 0) hx hb dX11_stockThen_73 rfl ?_
              refine lv_goto (tgt := 106) hx hb dX11_stockThen_74 (by decide) ?_
              exact hj106 0 _ _ _ (q_r 0 rfl) hP hS (lv_sub hl [1, 2, 3, 5] rfl) h
            · clear h; intro g23 h
              refine lv_aload_n hx hb dX11_stockThen_77 rfl (lv_at hl 1 rfl) ?_
              refine lv_iload hx hb dX11_stockThen_78 (lv_at hl 5 rfl) ?_
              refine lv_iconst (v := q_I 1) hx hb dX11_stockThen_80 rfl ?_
              obtain ⟨x16, hv15, h⟩ := q_b_some h
              refine q_callV hx hb hml hts hown hK hP hS (As := [.int (q_I x6), .int (q_I 1)]) (rest := [.int (q_I x5)]) (st1 := [.int (q_I x16), .int (q_I x5)]) cv_RX11_122 (c_M_ofEvent l D dA r6 (q_r 1 rfl) hv15) (Nat.le_of_ble_eq_true rfl) q_kdM_0 rfl ⟨rfl, rfl, Nat.le_of_ble_eq_true rfl, Nat.le_of_ble_eq_true rfl⟩ ⟨Nat.le_refl _, Nat.le_refl _⟩ rfl hl.1 rfl (Nat.le_of_ble_eq_true rfl) rfl (fun _ g => g) dX11_stockThen_81 ?_
              clear hP hS hv15; intro H locs r16 hP hS _
              refine lv_iconst (v := q_I 1) hx hb dX11_stockThen_84 rfl ?_
              refine q_cne hx hb r16 (q_r 1 rfl) (tgt := 99) dX11_stockThen_85 (by decide) h ?_ ?_
              · clear h; intro g22 h
                refine lv_aload_n hx hb dX11_stockThen_88 rfl (lv_at hl 1 rfl) ?_
                refine lv_iload hx hb dX11_stockThen_89 (lv_at hl 5 rfl) ?_
                refine lv_iconst (v := q_I 3) hx hb dX11_stockThen_91 rfl ?_
                obtain ⟨x20, hv19, h⟩ := q_b_some h
                refine q_callV hx hb hml hts hown hK hP hS (As := [.int (q_I x6), .int (q_I 3)]) (rest := [.int (q_I x5)]) (st1 := [.int (q_I x20), .int (q_I x5)]) cv_RX11_122 (c_M_ofEvent l D dA r6 (q_r 3 rfl) hv19) (Nat.le_of_ble_eq_true rfl) q_kdM_0 rfl ⟨rfl, rfl, Nat.le_of_ble_eq_true rfl, Nat.le_of_ble_eq_true rfl⟩ ⟨Nat.le_refl _, Nat.le_refl _⟩ rfl hl.1 rfl (Nat.le_of_ble_eq_true rfl) rfl (fun _ g => g) dX11_stockThen_92 ?_
                clear hP hS hv19; intro H locs r20 hP hS _
                refine q_ineg hx hb dX11_stockThen_95 h ?_
                clear h; intro x21 r21 h
                refine lv_goto (tgt := 106) hx hb dX11_stockThen_96 (by decide) ?_
                exact hj106 x21 _ _ _ r21 hP hS (lv_sub hl [1, 2, 3, 5] rfl) h
              · clear h; intro g22 h
                refine lv_aload_n hx hb dX11_stockThen_99 rfl (lv_at hl 1 rfl) ?_
                refine lv_iload hx hb dX11_stockThen_100 (lv_at hl 5 rfl) ?_
                refine lv_iconst (v := q_I 3) hx hb dX11_stockThen_102 rfl ?_
                obtain ⟨x18, hv17, h⟩ := q_b_some h
                refine q_callV hx hb hml hts hown hK hP hS (As := [.int (q_I x6), .int (q_I 3)]) (rest := [.int (q_I x5)]) (st1 := [.int (q_I x18), .int (q_I x5)]) cv_RX11_122 (c_M_ofEvent l D dA r6 (q_r 3 rfl) hv17) (Nat.le_of_ble_eq_true rfl) q_kdM_0 rfl ⟨rfl, rfl, Nat.le_of_ble_eq_true rfl, Nat.le_of_ble_eq_true rfl⟩ ⟨Nat.le_refl _, Nat.le_refl _⟩ rfl hl.1 rfl (Nat.le_of_ble_eq_true rfl) rfl (fun _ g => g) dX11_stockThen_103 ?_
                clear hP hS hv17; intro H locs r18 hP hS _
                exact hj106 x18 _ _ _ r18 hP hS (lv_sub hl [1, 2, 3, 5] rfl) h
        · clear h; intro j65 hj65 h
          refine q_jn_in h (fun J => ∀ (H : Heap) (locs : List Loc) (ls : Array Slot), q_P D dA q_kdM q_rhoM 22 z sz μ H → va_S (q_A z 22) s.heap H locs → lv_has ls 6 [(0, .ref (z + 0)), (1, .int (q_I a0)), (2, .int (q_I a1)), (3, .int (q_I x5)), (4, .int (q_I x6))] → J = some xo → W p l e ({ frames := 2, cells := 0, slots := 0, locals := 43 } : Room) s m args below meth c H locs 0 0 Qf (F0 m 64 ls [])) ?_ ?_
          · clear h hl hP hS; intro  H locs ls  hP hS hl h
            refine lv_iconst (v := q_I 0) hx hb dX11_stockThen_64 rfl ?_
            exact hj65 0 _ _ _ (q_r 0 rfl) hP hS (lv_sub hl [0, 1, 2, 3, 4] rfl) h
          · clear h; intro j64 hj64 h
            refine q_cne hx hb r10 ra0 (tgt := 64) dX11_stockThen_37 (by decide) h ?_ ?_
            · clear h; intro g30 h
              refine lv_aload_n hx hb dX11_stockThen_40 rfl (lv_at hl 0 rfl) ?_
              refine lv_iload hx hb dX11_stockThen_41 (lv_at hl 4 rfl) ?_
              refine lv_iconst (v := q_I 2) hx hb dX11_stockThen_43 rfl ?_
              obtain ⟨x25, hv24, h⟩ := q_b_some h
              refine q_callV hx hb hml hts hown hK hP hS (As := [.int (q_I x6), .int (q_I 2)]) (rest := []) (st1 := [.int (q_I x25)]) cv_RX11_122 (c_M_ofEvent l D dA r6 (q_r 2 rfl) hv24) (Nat.le_of_ble_eq_true rfl) q_kdM_0 rfl ⟨rfl, rfl, Nat.le_of_ble_eq_true rfl, Nat.le_of_ble_eq_true rfl⟩ ⟨Nat.le_refl _, Nat.le_refl _⟩ rfl hl.1 rfl (Nat.le_of_ble_eq_true rfl) rfl (fun _ g => g) dX11_stockThen_44 ?_
              clear hP hS hv24; intro H locs r25 hP hS _
              refine lv_iload_n hx hb dX11_stockThen_47 rfl (lv_at hl 2 rfl) ?_
              refine q_cne hx hb r25 ra1 (tgt := 64) dX11_stockThen_48 (by decide) h ?_ ?_
              · clear h; intro g29 h
                refine lv_aload_n hx hb dX11_stockThen_51 rfl (lv_at hl 0 rfl) ?_
                refine lv_iload hx hb dX11_stockThen_52 (lv_at hl 4 rfl) ?_
                obtain ⟨x27, hv26, h⟩ := q_b_some h
                refine q_callV hx hb hml hts hown hK hP hS (As := [.int (q_I x6)]) (rest := []) (st1 := [.int (q_I x27)]) cv_RX11_172 (c_M_isCut l D dA r6 hv26) (Nat.le_of_ble_eq_true rfl) q_kdM_0 rfl ⟨rfl, rfl, Nat.le_of_ble_eq_true rfl, Nat.le_of_ble_eq_true rfl⟩ ⟨Nat.le_refl _, Nat.le_refl _⟩ rfl hl.1 rfl (Nat.le_of_ble_eq_true rfl) rfl (fun _ g => g) dX11_stockThen_54 ?_
                clear hP hS hv26; intro H locs r27 hP hS _
                refine q_zeq hx hb r27 (tgt := 64) dX11_stockThen_57 (by decide) h ?_ ?_
                · clear h; intro g28 h
                  exact hj64  _ _ _ hP hS (lv_sub hl [0, 1, 2, 3, 4] rfl) h
                · clear h; intro g28 h
                  refine lv_iconst (v := q_I 1) hx hb dX11_stockThen_60 rfl ?_
                  refine lv_goto (tgt := 65) hx hb dX11_stockThen_61 (by decide) ?_
                  exact hj65 1 _ _ _ (q_r 1 rfl) hP hS (lv_sub hl [0, 1, 2, 3, 4] rfl) h
              · clear h; intro g29 h
                exact hj64  _ _ _ hP hS (lv_sub hl [0, 1, 2, 3, 4] rfl) h
            · clear h; intro g30 h
              exact hj64  _ _ _ hP hS (lv_sub hl [0, 1, 2, 3, 4] rfl) h
  refine L17 _ ?_  _ x4 0 _ _ _ r4 (q_r 0 rfl) hP hS (lv_sub hl [2, 3, 4, 1, 0] rfl) h
  · clear h hl hP hS; intro x7 H locs ls r7 hP hS hl h
    refine lv_iload_n hx hb dX11_stockThen_114 rfl (lv_at hl 0 rfl) ?_
    rw [← hQ]
    exact q_ret1 hx hb hr hlocks hP hS r7 h dX11_stockThen_115
set_option maxHeartbeats 4000000 in
set_option maxRecDepth 100000 in
theorem c_M_stockAtCut (l : Launch) (D : va_G) (dA : Nat → ClassId) {z sz : Nat} {N : Nat} {a0 : Int} (ra0 : q_R a0) {a1 : Int} (ra1 : q_R a1) {μ : q_M} {xo : Int} (h : f_M_stockAtCut N a0 a1 μ = some xo) : Met l yX11_stockAtCut (q_wc yX11_stockAtCut cX11_stockAtCut 3 (some .int)) ({ frames := 3, cells := 0, slots := 0, locals := 68 } : Room) (va_Pc [.ref (z + 0), .int (q_I a0), .int (q_I a1)] (q_B (q_P D dA q_kdM q_rhoM 22 z sz μ) D dA)) (q_Q (some (.int (q_I xo))) (q_R xo) (q_P D dA q_kdM q_rhoM 22 z sz μ) (q_A z 22)) 0 0 (q_A z 22) := by
  refine Met.ofW (cc := cX11_stockAtCut) (maxL := 3) (ret := (some .int)) (by decide) rfl ?_
  intro p e s m args below meth c s₁ B hml hv
  obtain ⟨hargs, hP, hK⟩ := hv
  have hx := B.exec
  have hb := B.bytes
  have hr := B.returns
  have hts : ∀ w ∈ q_W, w.before args s = true := fun w hw => atoms_spec (ws := q_wc yX11_stockAtCut cX11_stockAtCut 3 (some .int)) B.pre w (List.mem_cons_of_mem _ hw)
  have hown : s.vm.findClass RX11 = some m.cls := findClass_of_methodNamed B.named
  have hlocks := B.notSynchronized
  have hS : va_S (q_A z 22) s.heap s.heap [] := va_S.rf
  have hA : ∀ k, k < 22 → q_A z 22 (z + k) := fun k hk => ⟨Nat.le_add_right z k, Nat.add_lt_add_left hk z⟩
  have hl := lv_entry [.ref (z + 0), .int (q_I a0), .int (q_I a1)] (n := 3) (Nat.le_of_ble_eq_true rfl)
  refine W.eq (by rw [hargs, lg_entry_eq]) ?_
  generalize (lg_sl [.ref (z + 0), .int (q_I a0), .int (q_I a1)] ++ List.replicate (3 - (lg_sl [.ref (z + 0), .int (q_I a0), .int (q_I a1)]).length) Slot.unset).toArray = ls at hl ⊢
  have hl : lv_has ls 3 [(0, .ref (z + 0)), (1, .int (q_I a0)), (2, .int (q_I a1))] := hl
  generalize hQ : MQ below _ args s 0 0 _ = Qf
  change W p l e ({ frames := 3, cells := 0, slots := 0, locals := 68 } : Room) s m args below meth c s.heap [] 0 0 Qf (F0 m 0 ls [])
  unfold f_M_stockAtCut at h
  refine lv_aload_n hx hb dX11_stockAtCut_0 rfl (lv_at hl 0 rfl) ?_
  refine lv_iload_n hx hb dX11_stockAtCut_1 rfl (lv_at hl 1 rfl) ?_
  refine lv_iload_n hx hb dX11_stockAtCut_2 rfl (lv_at hl 2 rfl) ?_
  obtain ⟨x2, hv1, h⟩ := q_b_some h
  refine q_callV hx hb hml hts hown hK hP hS (As := [.int (q_I a0), .int (q_I a1)]) (rest := []) (st1 := [.int (q_I x2)]) cv_RX11_108 (c_M_noStock l D dA ra0 ra1 hv1) (Nat.le_of_ble_eq_true rfl) q_kdM_0 rfl ⟨rfl, rfl, Nat.le_of_ble_eq_true rfl, Nat.le_of_ble_eq_true rfl⟩ ⟨Nat.le_refl _, Nat.le_refl _⟩ rfl hl.1 rfl (Nat.le_of_ble_eq_true rfl) rfl (fun _ g => g) dX11_stockAtCut_3 ?_
  clear hP hS hv1; intro H locs r2 hP hS _
  refine q_jn_in h (fun J => ∀ (x3 : Int) (H : Heap) (locs : List Loc) (ls : Array Slot), q_R x3 → q_P D dA q_kdM q_rhoM 22 z sz μ H → va_S (q_A z 22) s.heap H locs → lv_has ls 3 [] → J x3 = some xo → W p l e ({ frames := 3, cells := 0, slots := 0, locals := 68 } : Room) s m args below meth c H locs 0 0 Qf (F0 m 20 ls [.int (q_I x3)])) ?_ ?_
  · clear h hl hP hS; intro x3 H locs ls r3 hP hS hl h
    rw [← hQ]
    exact q_ret1 hx hb hr hlocks hP hS r3 h dX11_stockAtCut_20
  · clear h; intro j20 hj20 h
    refine q_zeq hx hb r2 (tgt := 14) dX11_stockAtCut_6 (by decide) h ?_ ?_
    · clear h; intro g6 h
      refine lv_aload_n hx hb dX11_stockAtCut_14 rfl (lv_at hl 0 rfl) ?_
      refine lv_iload_n hx hb dX11_stockAtCut_15 rfl (lv_at hl 1 rfl) ?_
      refine lv_iload_n hx hb dX11_stockAtCut_16 rfl (lv_at hl 2 rfl) ?_
      obtain ⟨x5, hv4, h⟩ := q_b_some h
      refine q_callV hx hb hml hts hown hK hP hS (As := [.int (q_I a0), .int (q_I a1)]) (rest := []) (st1 := [.int (q_I x5)]) cv_RX11_181 (c_M_stockThen l D dA ra0 ra1 hv4) (Nat.le_of_ble_eq_true rfl) q_kdM_0 rfl ⟨rfl, rfl, Nat.le_of_ble_eq_true rfl, Nat.le_of_ble_eq_true rfl⟩ ⟨Nat.le_refl _, Nat.le_refl _⟩ rfl hl.1 rfl (Nat.le_of_ble_eq_true rfl) rfl (fun _ g => g) dX11_stockAtCut_17 ?_
      clear hP hS hv4; intro H locs r5 hP hS _
      exact hj20 x5 _ _ _ r5 hP hS (lv_sub hl [] rfl) h
    · clear h; intro g6 h
      refine lv_ldc hx hb hown (hts _ ck_RX11_112) dX11_stockAtCut_9 ?_
      refine lv_goto (tgt := 20) hx hb dX11_stockAtCut_11 (by decide) ?_
      exact hj20 ((-100001)) _ _ _ (q_r (-100001) rfl) hP hS (lv_sub hl [] rfl) h
set_option maxHeartbeats 4000000 in
set_option maxRecDepth 100000 in
theorem c_M_isInTransit (l : Launch) (D : va_G) (dA : Nat → ClassId) {z sz : Nat} {a0 : Int} (ra0 : q_R a0) {μ : q_M} {xo : Int} (h : f_M_isInTransit a0 μ = some xo) : Met l yX11_isInTransit (q_wc yX11_isInTransit cX11_isInTransit 4 (some .boolean)) ({ frames := 2, cells := 0, slots := 0, locals := 43 } : Room) (va_Pc [.ref (z + 0), .int (q_I a0)] (q_B (q_P D dA q_kdM q_rhoM 22 z sz μ) D dA)) (q_Q (some (.int (q_I xo))) (q_R xo) (q_P D dA q_kdM q_rhoM 22 z sz μ) (q_A z 22)) 0 0 (q_A z 22) := by
  refine Met.ofW (cc := cX11_isInTransit) (maxL := 4) (ret := (some .boolean)) (by decide) rfl ?_
  intro p e s m args below meth c s₁ B hml hv
  obtain ⟨hargs, hP, hK⟩ := hv
  have hx := B.exec
  have hb := B.bytes
  have hr := B.returns
  have hts : ∀ w ∈ q_W, w.before args s = true := fun w hw => atoms_spec (ws := q_wc yX11_isInTransit cX11_isInTransit 4 (some .boolean)) B.pre w (List.mem_cons_of_mem _ hw)
  have hown : s.vm.findClass RX11 = some m.cls := findClass_of_methodNamed B.named
  have hlocks := B.notSynchronized
  have hS : va_S (q_A z 22) s.heap s.heap [] := va_S.rf
  have hA : ∀ k, k < 22 → q_A z 22 (z + k) := fun k hk => ⟨Nat.le_add_right z k, Nat.add_lt_add_left hk z⟩
  have hl := lv_entry [.ref (z + 0), .int (q_I a0)] (n := 4) (Nat.le_of_ble_eq_true rfl)
  refine W.eq (by rw [hargs, lg_entry_eq]) ?_
  generalize (lg_sl [.ref (z + 0), .int (q_I a0)] ++ List.replicate (4 - (lg_sl [.ref (z + 0), .int (q_I a0)]).length) Slot.unset).toArray = ls at hl ⊢
  have hl : lv_has ls 4 [(0, .ref (z + 0)), (1, .int (q_I a0))] := hl
  generalize hQ : MQ below _ args s 0 0 _ = Qf
  change W p l e ({ frames := 2, cells := 0, slots := 0, locals := 43 } : Room) s m args below meth c s.heap [] 0 0 Qf (F0 m 0 ls [])
  unfold f_M_isInTransit at h
  refine lv_aload_n hx hb dX11_isInTransit_0 rfl (lv_at hl 0 rfl) ?_
  refine lv_iload_n hx hb dX11_isInTransit_1 rfl (lv_at hl 1 rfl) ?_
  refine lv_iconst (v := q_I 4) hx hb dX11_isInTransit_2 rfl ?_
  obtain ⟨x2, hv1, h⟩ := q_b_some h
  refine q_callV hx hb hml hts hown hK hP hS (As := [.int (q_I a0), .int (q_I 4)]) (rest := []) (st1 := [.int (q_I x2)]) cv_RX11_114 (c_M_ofMessage l D dA ra0 (q_r 4 rfl) hv1) (Nat.le_of_ble_eq_true rfl) q_kdM_0 rfl ⟨rfl, rfl, Nat.le_of_ble_eq_true rfl, Nat.le_of_ble_eq_true rfl⟩ ⟨Nat.le_refl _, Nat.le_refl _⟩ rfl hl.1 rfl (Nat.le_of_ble_eq_true rfl) rfl (fun _ g => g) dX11_isInTransit_3 ?_
  clear hP hS hv1; intro H locs r2 hP hS _
  refine lv_istore_n (lv' := [(2, .int (q_I x2)), (0, .ref (z + 0)), (1, .int (q_I a0))]) hx hb dX11_isInTransit_6 rfl hl (by decide) rfl ?_
  clear hl; intro ls hl
  refine lv_aload_n hx hb dX11_isInTransit_7 rfl (lv_at hl 1 rfl) ?_
  refine lv_iload_n hx hb dX11_isInTransit_8 rfl (lv_at hl 2 rfl) ?_
  refine lv_iconst (v := q_I 5) hx hb dX11_isInTransit_9 rfl ?_
  obtain ⟨x4, hv3, h⟩ := q_b_some h
  refine q_callV hx hb hml hts hown hK hP hS (As := [.int (q_I a0), .int (q_I 5)]) (rest := []) (st1 := [.int (q_I x4)]) cv_RX11_114 (c_M_ofMessage l D dA ra0 (q_r 5 rfl) hv3) (Nat.le_of_ble_eq_true rfl) q_kdM_0 rfl ⟨rfl, rfl, Nat.le_of_ble_eq_true rfl, Nat.le_of_ble_eq_true rfl⟩ ⟨Nat.le_refl _, Nat.le_refl _⟩ rfl hl.1 rfl (Nat.le_of_ble_eq_true rfl) rfl (fun _ g => g) dX11_isInTransit_10 ?_
  clear hP hS hv3; intro H locs r4 hP hS _
  refine lv_istore_n (lv' := [(3, .int (q_I x4)), (2, .int (q_I x2)), (0, .ref (z + 0)), (1, .int (q_I a0))]) hx hb dX11_isInTransit_13 rfl hl (by decide) rfl ?_
  clear hl; intro ls hl
  refine lv_iload_n hx hb dX11_isInTransit_14 rfl (lv_at hl 1 rfl) ?_
  refine q_jn_in h (fun J => ∀ (x5 : Int) (H : Heap) (locs : List Loc) (ls : Array Slot), q_R x5 → q_P D dA q_kdM q_rhoM 22 z sz μ H → va_S (q_A z 22) s.heap H locs → lv_has ls 4 [] → J x5 = some xo → W p l e ({ frames := 2, cells := 0, slots := 0, locals := 43 } : Room) s m args below meth c H locs 0 0 Qf (F0 m 43 ls [.int (q_I x5)])) ?_ ?_
  · clear h hl hP hS; intro x5 H locs ls r5 hP hS hl h
    rw [← hQ]
    obtain ⟨hz, h⟩ := q_rz_some h
    exact q_retz1 hx hb hr hlocks hP hS hz h dX11_isInTransit_43
  · clear h; intro j43 hj43 h
    refine q_jn_in h (fun J => ∀ (H : Heap) (locs : List Loc) (ls : Array Slot), q_P D dA q_kdM q_rhoM 22 z sz μ H → va_S (q_A z 22) s.heap H locs → lv_has ls 4 [] → J = some xo → W p l e ({ frames := 2, cells := 0, slots := 0, locals := 43 } : Room) s m args below meth c H locs 0 0 Qf (F0 m 42 ls [])) ?_ ?_
    · clear h hl hP hS; intro  H locs ls  hP hS hl h
      refine lv_iconst (v := q_I 0) hx hb dX11_isInTransit_42 rfl ?_
      exact hj43 0 _ _ _ (q_r 0 rfl) hP hS (lv_sub hl [] rfl) h
    · clear h; intro j42 hj42 h
      refine q_jn_in h (fun J => ∀ (H : Heap) (locs : List Loc) (ls : Array Slot), q_P D dA q_kdM q_rhoM 22 z sz μ H → va_S (q_A z 22) s.heap H locs → lv_has ls 4 [(0, .ref (z + 0)), (3, .int (q_I x4))] → J = some xo → W p l e ({ frames := 2, cells := 0, slots := 0, locals := 43 } : Room) s m args below meth c H locs 0 0 Qf (F0 m 26 ls [])) ?_ ?_
      · clear h hl hP hS; intro  H locs ls  hP hS hl h
        refine lv_iload_n hx hb dX11_isInTransit_26 rfl (lv_at hl 1 rfl) ?_
        refine q_jn_in h (fun J => ∀ (H : Heap) (locs : List Loc) (ls : Array Slot), q_P D dA q_kdM q_rhoM 22 z sz μ H → va_S (q_A z 22) s.heap H locs → lv_has ls 4 [] → J = some xo → W p l e ({ frames := 2, cells := 0, slots := 0, locals := 43 } : Room) s m args below meth c H locs 0 0 Qf (F0 m 38 ls [])) ?_ ?_
        · clear h hl hP hS; intro  H locs ls  hP hS hl h
          refine lv_iconst (v := q_I 1) hx hb dX11_isInTransit_38 rfl ?_
          refine lv_goto (tgt := 43) hx hb dX11_isInTransit_39 (by decide) ?_
          exact hj43 1 _ _ _ (q_r 1 rfl) hP hS (lv_sub hl [] rfl) h
        · clear h; intro j38 hj38 h
          refine q_zlt hx hb r4 (tgt := 38) dX11_isInTransit_27 (by decide) h ?_ ?_
          · clear h; intro g9 h
            exact hj38  _ _ _ hP hS (lv_sub hl [] rfl) h
          · clear h; intro g9 h
            refine lv_aload_n hx hb dX11_isInTransit_30 rfl (lv_at hl 0 rfl) ?_
            refine lv_iload_n hx hb dX11_isInTransit_31 rfl (lv_at hl 1 rfl) ?_
            obtain ⟨x7, hv6, h⟩ := q_b_some h
            refine q_callV hx hb hml hts hown hK hP hS (As := [.int (q_I x4)]) (rest := []) (st1 := [.int (q_I x7)]) cv_RX11_172 (c_M_isCut l D dA r4 hv6) (Nat.le_of_ble_eq_true rfl) q_kdM_0 rfl ⟨rfl, rfl, Nat.le_of_ble_eq_true rfl, Nat.le_of_ble_eq_true rfl⟩ ⟨Nat.le_refl _, Nat.le_refl _⟩ rfl hl.1 rfl (Nat.le_of_ble_eq_true rfl) rfl (fun _ g => g) dX11_isInTransit_32 ?_
            clear hP hS hv6; intro H locs r7 hP hS _
            refine q_zne hx hb r7 (tgt := 42) dX11_isInTransit_35 (by decide) h ?_ ?_
            · clear h; intro g8 h
              exact hj38  _ _ _ hP hS (lv_sub hl [] rfl) h
            · clear h; intro g8 h
              exact hj42  _ _ _ hP hS (lv_sub hl [] rfl) h
      · clear h; intro j26 hj26 h
        refine q_zlt hx hb r2 (tgt := 26) dX11_isInTransit_15 (by decide) h ?_ ?_
        · clear h; intro g13 h
          exact hj26  _ _ _ hP hS (lv_sub hl [2, 0] rfl) h
        · clear h; intro g13 h
          refine lv_aload_n hx hb dX11_isInTransit_18 rfl (lv_at hl 2 rfl) ?_
          refine lv_iload_n hx hb dX11_isInTransit_19 rfl (lv_at hl 1 rfl) ?_
          obtain ⟨x11, hv10, h⟩ := q_b_some h
          refine q_callV hx hb hml hts hown hK hP hS (As := [.int (q_I x2)]) (rest := []) (st1 := [.int (q_I x11)]) cv_RX11_172 (c_M_isCut l D dA r2 hv10) (Nat.le_of_ble_eq_true rfl) q_kdM_0 rfl ⟨rfl, rfl, Nat.le_of_ble_eq_true rfl, Nat.le_of_ble_eq_true rfl⟩ ⟨Nat.le_refl _, Nat.le_refl _⟩ rfl hl.1 rfl (Nat.le_of_ble_eq_true rfl) rfl (fun _ g => g) dX11_isInTransit_20 ?_
          clear hP hS hv10; intro H locs r11 hP hS _
          refine q_zeq hx hb r11 (tgt := 42) dX11_isInTransit_23 (by decide) h ?_ ?_
          · clear h; intro g12 h
            exact hj42  _ _ _ hP hS (lv_sub hl [] rfl) h
          · clear h; intro g12 h
            exact hj26  _ _ _ hP hS (lv_sub hl [2, 0] rfl) h
set_option maxHeartbeats 4000000 in
set_option maxRecDepth 100000 in
theorem c_M_inTransit (l : Launch) (D : va_G) (dA : Nat → ClassId) {z sz : Nat} {N : Nat} {a0 : Int} (ra0 : q_R a0) {a1 : Int} (ra1 : q_R a1) {a2 : Int} (ra2 : q_R a2) {a3 : Int} (ra3 : q_R a3) {μ : q_M} {xo : Int} (h : f_M_inTransit N a0 a1 a2 a3 μ = some xo) : Met l yX11_inTransit (q_wc yX11_inTransit cX11_inTransit 7 (some .int)) ({ frames := 4, cells := 0, slots := 0, locals := 88 } : Room) (va_Pc [.ref (z + 0), .int (q_I a0), .int (q_I a1), .int (q_I a2), .int (q_I a3)] (q_B (q_P D dA q_kdM q_rhoM 22 z sz μ) D dA)) (q_Q (some (.int (q_I xo))) (q_R xo) (q_P D dA q_kdM q_rhoM 22 z sz μ) (q_A z 22)) 0 0 (q_A z 22) := by
  refine Met.ofW (cc := cX11_inTransit) (maxL := 7) (ret := (some .int)) (by decide) rfl ?_
  intro p e s m args below meth c s₁ B hml hv
  obtain ⟨hargs, hP, hK⟩ := hv
  have hx := B.exec
  have hb := B.bytes
  have hr := B.returns
  have hts : ∀ w ∈ q_W, w.before args s = true := fun w hw => atoms_spec (ws := q_wc yX11_inTransit cX11_inTransit 7 (some .int)) B.pre w (List.mem_cons_of_mem _ hw)
  have hown : s.vm.findClass RX11 = some m.cls := findClass_of_methodNamed B.named
  have hlocks := B.notSynchronized
  have hS : va_S (q_A z 22) s.heap s.heap [] := va_S.rf
  have hA : ∀ k, k < 22 → q_A z 22 (z + k) := fun k hk => ⟨Nat.le_add_right z k, Nat.add_lt_add_left hk z⟩
  have hl := lv_entry [.ref (z + 0), .int (q_I a0), .int (q_I a1), .int (q_I a2), .int (q_I a3)] (n := 7) (Nat.le_of_ble_eq_true rfl)
  refine W.eq (by rw [hargs, lg_entry_eq]) ?_
  generalize (lg_sl [.ref (z + 0), .int (q_I a0), .int (q_I a1), .int (q_I a2), .int (q_I a3)] ++ List.replicate (7 - (lg_sl [.ref (z + 0), .int (q_I a0), .int (q_I a1), .int (q_I a2), .int (q_I a3)]).length) Slot.unset).toArray = ls at hl ⊢
  have hl : lv_has ls 7 [(0, .ref (z + 0)), (1, .int (q_I a0)), (2, .int (q_I a1)), (3, .int (q_I a2)), (4, .int (q_I a3))] := hl
  generalize hQ : MQ below _ args s 0 0 _ = Qf
  change W p l e ({ frames := 4, cells := 0, slots := 0, locals := 88 } : Room) s m args below meth c s.heap [] 0 0 Qf (F0 m 0 ls [])
  unfold f_M_inTransit at h
  refine lv_aload_n hx hb dX11_inTransit_0 rfl (lv_at hl 0 rfl) ?_
  refine lv_iload_n hx hb dX11_inTransit_1 rfl (lv_at hl 1 rfl) ?_
  refine lv_iload_n hx hb dX11_inTransit_2 rfl (lv_at hl 2 rfl) ?_
  obtain ⟨x2, hv1, h⟩ := q_b_some h
  refine q_callV hx hb hml hts hown hK hP hS (As := [.int (q_I a0), .int (q_I a1)]) (rest := []) (st1 := [.int (q_I x2)]) cv_RX11_142 (c_M_noChannel l D dA ra0 ra1 hv1) (Nat.le_of_ble_eq_true rfl) q_kdM_0 rfl ⟨rfl, rfl, Nat.le_of_ble_eq_true rfl, Nat.le_of_ble_eq_true rfl⟩ ⟨Nat.le_refl _, Nat.le_refl _⟩ rfl hl.1 rfl (Nat.le_of_ble_eq_true rfl) rfl (fun _ g => g) dX11_inTransit_3 ?_
  clear hP hS hv1; intro H locs r2 hP hS _
  refine q_zeq hx hb r2 (tgt := 12) dX11_inTransit_6 (by decide) h ?_ ?_
  · clear h; intro g34 h
    refine lv_iload_n hx hb dX11_inTransit_12 rfl (lv_at hl 3 rfl) ?_
    refine lv_iconst (v := q_I (-1)) hx hb dX11_inTransit_13 rfl ?_
    refine q_jn_in h (fun J => ∀ (H : Heap) (locs : List Loc) (ls : Array Slot), q_P D dA q_kdM q_rhoM 22 z sz μ H → va_S (q_A z 22) s.heap H locs → lv_has ls 7 [] → J = some xo → W p l e ({ frames := 4, cells := 0, slots := 0, locals := 88 } : Room) s m args below meth c H locs 0 0 Qf (F0 m 27 ls [])) ?_ ?_
    · clear h hl hP hS; intro  H locs ls  hP hS hl h
      refine lv_ldc hx hb hown (hts _ ck_RX11_103) dX11_inTransit_27 ?_
      rw [← hQ]
      exact q_ret1 hx hb hr hlocks hP hS (q_r (-100002) rfl) h dX11_inTransit_29
    · clear h; intro j27 hj27 h
      refine q_clt hx hb ra2 (q_r (-1) rfl) (tgt := 27) dX11_inTransit_14 (by decide) h ?_ ?_
      · clear h; intro g33 h
        exact hj27  _ _ _ hP hS (lv_sub hl [] rfl) h
      · clear h; intro g33 h
        refine lv_iload hx hb dX11_inTransit_17 (lv_at hl 4 rfl) ?_
        refine lv_iconst (v := q_I 0) hx hb dX11_inTransit_19 rfl ?_
        refine lv_iconst (v := q_I 1) hx hb dX11_inTransit_20 rfl ?_
        obtain ⟨x4, hv3, h⟩ := q_b_some h
        refine q_callS hx hb hml hts hown hK hP hS (As := [.int (q_I a3), .int (q_I 0), .int (q_I 1)]) (rest := []) (st1 := [.int (q_I x4)]) cs_RX11_99 (c_M_in l D dA ra3 (q_r 0 rfl) (q_r 1 rfl) hv3) ⟨rfl, rfl, Nat.le_of_ble_eq_true rfl, Nat.le_of_ble_eq_true rfl⟩ ⟨Nat.le_refl _, Nat.le_refl _⟩ rfl hl.1 rfl (Nat.le_of_ble_eq_true rfl) rfl (fun _ g => g) dX11_inTransit_21 ?_
        clear hP hS hv3; intro H locs r4 hP hS _
        refine q_zne hx hb r4 (tgt := 30) dX11_inTransit_24 (by decide) h ?_ ?_
        · clear h; intro g32 h
          exact hj27  _ _ _ hP hS (lv_sub hl [] rfl) h
        · clear h; intro g32 h
          refine lv_aload_n hx hb dX11_inTransit_30 rfl (lv_at hl 0 rfl) ?_
          obtain ⟨x6, hv5, h⟩ := q_b_some h
          refine q_callV hx hb hml hts hown hK hP hS (As := []) (rest := []) (st1 := [.int (q_I x6)]) cv_RX11_178 (c_M_orphansNow l D dA hv5) (Nat.le_of_ble_eq_true rfl) q_kdM_0 rfl ⟨rfl, rfl, Nat.le_of_ble_eq_true rfl, Nat.le_of_ble_eq_true rfl⟩ ⟨Nat.le_refl _, Nat.le_refl _⟩ rfl hl.1 rfl (Nat.le_of_ble_eq_true rfl) rfl (fun _ g => g) dX11_inTransit_31 ?_
          clear hP hS hv5; intro H locs r6 hP hS _
          refine q_zle hx hb r6 (tgt := 40) dX11_inTransit_34 (by decide) h ?_ ?_
          · clear h; intro g31 h
            refine lv_iconst (v := q_I 0) hx hb dX11_inTransit_40 rfl ?_
            refine lv_istore (lv' := [(5, .int (q_I 0)), (0, .ref (z + 0)), (1, .int (q_I a0)), (2, .int (q_I a1)), (3, .int (q_I a2)), (4, .int (q_I a3))]) hx hb dX11_inTransit_41 hl (by decide) rfl ?_
            clear hl; intro ls hl
            refine lv_iconst (v := q_I 0) hx hb dX11_inTransit_43 rfl ?_
            refine lv_istore (lv' := [(6, .int (q_I 0)), (5, .int (q_I 0)), (0, .ref (z + 0)), (1, .int (q_I a0)), (2, .int (q_I a1)), (3, .int (q_I a2)), (4, .int (q_I a3))]) hx hb dX11_inTransit_44 hl (by decide) rfl ?_
            clear hl; intro ls hl
            have L46 : ∀ (k95 : Int → Option Int) (k115 : Int → Option Int), (∀ (x9 : Int) (H : Heap) (locs : List Loc) (ls : Array Slot), q_R x9 → q_P D dA q_kdM q_rhoM 22 z sz μ H → va_S (q_A z 22) s.heap H locs → lv_has ls 7 [(0, .ref (z + 0)), (4, .int (q_I a3)), (6, .int (q_I x9))] → k95 x9 = some xo → W p l e ({ frames := 4, cells := 0, slots := 0, locals := 88 } : Room) s m args below meth c H locs 0 0 Qf (F0 m 95 ls [])) → (∀ (x10 : Int) (H : Heap) (locs : List Loc) (ls : Array Slot), q_R x10 → q_P D dA q_kdM q_rhoM 22 z sz μ H → va_S (q_A z 22) s.heap H locs → lv_has ls 7 [(3, .int (q_I a2)), (5, .int (q_I x10))] → k115 x10 = some xo → W p l e ({ frames := 4, cells := 0, slots := 0, locals := 88 } : Room) s m args below meth c H locs 0 0 Qf (F0 m 115 ls [])) → ∀ (nf46 : Nat) (x7 : Int) (x8 : Int) (H : Heap) (locs : List Loc) (ls : Array Slot), q_R x7 → q_R x8 → q_P D dA q_kdM q_rhoM 22 z sz μ H → va_S (q_A z 22) s.heap H locs → lv_has ls 7 [(0, .ref (z + 0)), (1, .int (q_I a0)), (2, .int (q_I a1)), (3, .int (q_I a2)), (4, .int (q_I a3)), (5, .int (q_I x7)), (6, .int (q_I x8))] → f_M_inTransit_L46 a0 a1 a2 μ k95 k115 nf46 x7 x8 = some xo → W p l e ({ frames := 4, cells := 0, slots := 0, locals := 88 } : Room) s m args below meth c H locs 0 0 Qf (F0 m 46 ls []) := by
              clear h hl hP hS
              intro k95 k115 hk95 hk115 nf46
              induction nf46 with
              | zero =>
                intro x7 x8 H locs ls r7 r8 hP hS hl h
                rw [f_M_inTransit_L46] at h
                cases h
              | succ nf46 ih46 =>
                intro x7 x8 H locs ls r7 r8 hP hS hl h
                rw [f_M_inTransit_L46] at h
                refine lv_iload hx hb dX11_inTransit_46 (lv_at hl 6 rfl) ?_
                refine lv_aload_n hx hb dX11_inTransit_48 rfl (lv_at hl 0 rfl) ?_
                refine q_getR hx hb hts hown hK hP fd_RX11_7 (Nat.le_of_ble_eq_true rfl) q_kdM_0 rfl q_rhM_0_1 dX11_inTransit_49 ?_
                refine lv_bipush (v := q_I 37) hx hb dX11_inTransit_52 (by decide) ?_
                refine q_iald hx hb hK hP (Nat.le_of_ble_eq_true rfl) q_kdM_1 (q_r 37 rfl) dX11_inTransit_54 h ?_
                clear h; intro x11 r11 h
                refine q_cge hx hb r8 r11 (tgt := 115) dX11_inTransit_55 (by decide) h ?_ ?_
                · clear h; intro g25 h
                  exact hk115 x7 _ _ _ r7 hP hS (lv_sub hl [3, 5] rfl) h
                · clear h; intro g25 h
                  refine lv_aload_n hx hb dX11_inTransit_58 rfl (lv_at hl 0 rfl) ?_
                  refine lv_iload hx hb dX11_inTransit_59 (lv_at hl 6 rfl) ?_
                  refine lv_iconst (v := q_I 0) hx hb dX11_inTransit_61 rfl ?_
                  obtain ⟨x13, hv12, h⟩ := q_b_some h
                  refine q_callV hx hb hml hts hown hK hP hS (As := [.int (q_I x8), .int (q_I 0)]) (rest := []) (st1 := [.int (q_I x13)]) cv_RX11_114 (c_M_ofMessage l D dA r8 (q_r 0 rfl) hv12) (Nat.le_of_ble_eq_true rfl) q_kdM_0 rfl ⟨rfl, rfl, Nat.le_of_ble_eq_true rfl, Nat.le_of_ble_eq_true rfl⟩ ⟨Nat.le_refl _, Nat.le_refl _⟩ rfl hl.1 rfl (Nat.le_of_ble_eq_true rfl) rfl (fun _ g => g) dX11_inTransit_62 ?_
                  clear hP hS hv12; intro H locs r13 hP hS _
                  refine lv_iload_n hx hb dX11_inTransit_65 rfl (lv_at hl 1 rfl) ?_
                  refine q_jn_in h (fun J => ∀ (x14 : Int) (H : Heap) (locs : List Loc) (ls : Array Slot), q_R x14 → q_P D dA q_kdM q_rhoM 22 z sz μ H → va_S (q_A z 22) s.heap H locs → lv_has ls 7 [(0, .ref (z + 0)), (1, .int (q_I a0)), (2, .int (q_I a1)), (3, .int (q_I a2)), (4, .int (q_I a3)), (5, .int (q_I x14)), (6, .int (q_I x8))] → J x14 = some xo → W p l e ({ frames := 4, cells := 0, slots := 0, locals := 88 } : Room) s m args below meth c H locs 0 0 Qf (F0 m 109 ls [])) ?_ ?_
                  · clear h hl hP hS; intro x14 H locs ls r14 hP hS hl h
                    refine q_iinc (k := 6) (lv' := fun t => [(6, .int (q_I t)), (0, .ref (z + 0)), (1, .int (q_I a0)), (2, .int (q_I a1)), (3, .int (q_I a2)), (4, .int (q_I a3)), (5, .int (q_I x14))]) hx hb dX11_inTransit_109 hl rfl (by decide) (fun _ => rfl) h ?_
                    clear h hl; intro x15 ls r15 hl h
                    refine lv_goto (tgt := 46) hx hb dX11_inTransit_112 (by decide) ?_
                    exact ih46 x14 x15 _ _ _ r14 r15 hP hS (lv_sub hl [1, 2, 3, 4, 5, 6, 0] rfl) h
                  · clear h; intro j109 hj109 h
                    refine q_cne hx hb r13 ra0 (tgt := 109) dX11_inTransit_66 (by decide) h ?_ ?_
                    · clear h; intro g24 h
                      refine lv_aload_n hx hb dX11_inTransit_69 rfl (lv_at hl 0 rfl) ?_
                      refine lv_iload hx hb dX11_inTransit_70 (lv_at hl 6 rfl) ?_
                      refine lv_iconst (v := q_I 1) hx hb dX11_inTransit_72 rfl ?_
                      obtain ⟨x17, hv16, h⟩ := q_b_some h
                      refine q_callV hx hb hml hts hown hK hP hS (As := [.int (q_I x8), .int (q_I 1)]) (rest := []) (st1 := [.int (q_I x17)]) cv_RX11_114 (c_M_ofMessage l D dA r8 (q_r 1 rfl) hv16) (Nat.le_of_ble_eq_true rfl) q_kdM_0 rfl ⟨rfl, rfl, Nat.le_of_ble_eq_true rfl, Nat.le_of_ble_eq_true rfl⟩ ⟨Nat.le_refl _, Nat.le_refl _⟩ rfl hl.1 rfl (Nat.le_of_ble_eq_true rfl) rfl (fun _ g => g) dX11_inTransit_73 ?_
                      clear hP hS hv16; intro H locs r17 hP hS _
                      refine lv_iload_n hx hb dX11_inTransit_76 rfl (lv_at hl 2 rfl) ?_
                      refine q_cne hx hb r17 ra1 (tgt := 109) dX11_inTransit_77 (by decide) h ?_ ?_
                      · clear h; intro g23 h
                        refine lv_aload_n hx hb dX11_inTransit_80 rfl (lv_at hl 0 rfl) ?_
                        refine lv_iload hx hb dX11_inTransit_81 (lv_at hl 6 rfl) ?_
                        obtain ⟨x19, hv18, h⟩ := q_b_some h
                        refine q_callV hx hb hml hts hown hK hP hS (As := [.int (q_I x8)]) (rest := []) (st1 := [.int (q_I x19)]) cv_RX11_184 (c_M_isInTransit l D dA r8 hv18) (Nat.le_of_ble_eq_true rfl) q_kdM_0 rfl ⟨rfl, rfl, Nat.le_of_ble_eq_true rfl, Nat.le_of_ble_eq_true rfl⟩ ⟨Nat.le_refl _, Nat.le_refl _⟩ rfl hl.1 rfl (Nat.le_of_ble_eq_true rfl) rfl (fun _ g => g) dX11_inTransit_83 ?_
                        clear hP hS hv18; intro H locs r19 hP hS _
                        refine q_zeq hx hb r19 (tgt := 109) dX11_inTransit_86 (by decide) h ?_ ?_
                        · clear h; intro g22 h
                          exact hj109 x7 _ _ _ r7 hP hS (lv_sub hl [0, 1, 2, 3, 4, 5, 6] rfl) h
                        · clear h; intro g22 h
                          refine lv_iload hx hb dX11_inTransit_89 (lv_at hl 5 rfl) ?_
                          refine lv_iload_n hx hb dX11_inTransit_91 rfl (lv_at hl 3 rfl) ?_
                          refine q_cne hx hb r7 ra2 (tgt := 106) dX11_inTransit_92 (by decide) h ?_ ?_
                          · clear h; intro g21 h
                            exact hk95 x8 _ _ _ r8 hP hS (lv_sub hl [0, 4, 6] rfl) h
                          · clear h; intro g21 h
                            refine q_iinc (k := 5) (lv' := fun t => [(5, .int (q_I t)), (0, .ref (z + 0)), (1, .int (q_I a0)), (2, .int (q_I a1)), (3, .int (q_I a2)), (4, .int (q_I a3)), (6, .int (q_I x8))]) hx hb dX11_inTransit_106 hl rfl (by decide) (fun _ => rfl) h ?_
                            clear h hl; intro x20 ls r20 hl h
                            exact hj109 x20 _ _ _ r20 hP hS (lv_sub hl [1, 2, 3, 4, 5, 0, 6] rfl) h
                      · clear h; intro g23 h
                        exact hj109 x7 _ _ _ r7 hP hS (lv_sub hl [0, 1, 2, 3, 4, 5, 6] rfl) h
                    · clear h; intro g24 h
                      exact hj109 x7 _ _ _ r7 hP hS (lv_sub hl [0, 1, 2, 3, 4, 5, 6] rfl) h
            refine L46 _ _ ?_ ?_  _ 0 0 _ _ _ (q_r 0 rfl) (q_r 0 rfl) hP hS (lv_sub hl [2, 3, 4, 5, 6, 1, 0] rfl) h
            · clear h hl hP hS; intro x9 H locs ls r9 hP hS hl h
              refine lv_aload_n hx hb dX11_inTransit_95 rfl (lv_at hl 0 rfl) ?_
              refine lv_iload hx hb dX11_inTransit_96 (lv_at hl 2 rfl) ?_
              refine lv_iconst (v := q_I 2) hx hb dX11_inTransit_98 rfl ?_
              refine lv_iload hx hb dX11_inTransit_99 (lv_at hl 1 rfl) ?_
              refine q_iadd hx hb dX11_inTransit_101 h ?_
              clear h; intro x26 r26 h
              obtain ⟨x28, hv27, h⟩ := q_b_some h
              refine q_callV hx hb hml hts hown hK hP hS (As := [.int (q_I x9), .int (q_I x26)]) (rest := []) (st1 := [.int (q_I x28)]) cv_RX11_114 (c_M_ofMessage l D dA r9 r26 hv27) (Nat.le_of_ble_eq_true rfl) q_kdM_0 rfl ⟨rfl, rfl, Nat.le_of_ble_eq_true rfl, Nat.le_of_ble_eq_true rfl⟩ ⟨Nat.le_refl _, Nat.le_refl _⟩ rfl hl.1 rfl (Nat.le_of_ble_eq_true rfl) rfl (fun _ g => g) dX11_inTransit_102 ?_
              clear hP hS hv27; intro H locs r28 hP hS _
              rw [← hQ]
              exact q_ret1 hx hb hr hlocks hP hS r28 h dX11_inTransit_105
            · clear h hl hP hS; intro x10 H locs ls r10 hP hS hl h
              refine lv_iload_n hx hb dX11_inTransit_115 rfl (lv_at hl 0 rfl) ?_
              refine q_jn_in h (fun J => ∀ (x29 : Int) (H : Heap) (locs : List Loc) (ls : Array Slot), q_R x29 → q_P D dA q_kdM q_rhoM 22 z sz μ H → va_S (q_A z 22) s.heap H locs → lv_has ls 7 [] → J x29 = some xo → W p l e ({ frames := 4, cells := 0, slots := 0, locals := 88 } : Room) s m args below meth c H locs 0 0 Qf (F0 m 126 ls [.int (q_I x29)])) ?_ ?_
              · clear h hl hP hS; intro x29 H locs ls r29 hP hS hl h
                rw [← hQ]
                exact q_ret1 hx hb hr hlocks hP hS r29 h dX11_inTransit_126
              · clear h; intro j126 hj126 h
                refine q_zge hx hb ra2 (tgt := 124) dX11_inTransit_116 (by decide) h ?_ ?_
                · clear h; intro g30 h
                  refine lv_ldc hx hb hown (hts _ ck_RX11_127) dX11_inTransit_124 ?_
                  exact hj126 ((-100006)) _ _ _ (q_r (-100006) rfl) hP hS (lv_sub hl [] rfl) h
                · clear h; intro g30 h
                  refine lv_iload hx hb dX11_inTransit_119 (lv_at hl 1 rfl) ?_
                  refine lv_goto (tgt := 126) hx hb dX11_inTransit_121 (by decide) ?_
                  exact hj126 x10 _ _ _ r10 hP hS (lv_sub hl [] rfl) h
          · clear h; intro g31 h
            refine lv_ldc hx hb hown (hts _ ck_RX11_125) dX11_inTransit_37 ?_
            rw [← hQ]
            exact q_ret1 hx hb hr hlocks hP hS (q_r (-100004) rfl) h dX11_inTransit_39
  · clear h; intro g34 h
    refine lv_ldc hx hb hown (hts _ ck_RX11_112) dX11_inTransit_9 ?_
    rw [← hQ]
    exact q_ret1 hx hb hr hlocks hP hS (q_r (-100001) rfl) h dX11_inTransit_11
