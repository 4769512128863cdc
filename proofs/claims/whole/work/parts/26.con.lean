set_option maxHeartbeats 4000000 in
set_option maxRecDepth 100000 in
theorem c_M_isCheaper (l : Launch) (D : va_G) (dA : Nat → ClassId) {z sz : Nat} {N : Nat} {a0 : Int} (ra0 : q_R a0) {a1 : Int} (ra1 : q_R a1) {μ : q_M} {xo : Int} (h : f_M_isCheaper N a0 a1 μ = some xo) : Met l yX11_isCheaper (q_wc yX11_isCheaper cX11_isCheaper 4 (some .boolean)) ({ frames := 0, cells := 0, slots := 0, locals := 0 } : Room) (va_Pc [.ref (z + 0), .int (q_I a0), .int (q_I a1)] (q_B (q_P D dA q_kdM q_rhoM 22 z sz μ) D dA)) (q_Q (some (.int (q_I xo))) (q_R xo) (q_P D dA q_kdM q_rhoM 22 z sz μ) (q_A z 22)) 0 0 (q_A z 22) := by
  refine Met.ofW (cc := cX11_isCheaper) (maxL := 4) (ret := (some .boolean)) (by decide) rfl ?_
  intro p e s m args below meth c s₁ B hml hv
  obtain ⟨hargs, hP, hK⟩ := hv
  have hx := B.exec
  have hb := B.bytes
  have hr := B.returns
  have hts : ∀ w ∈ q_W, w.before args s = true := fun w hw => atoms_spec (ws := q_wc yX11_isCheaper cX11_isCheaper 4 (some .boolean)) B.pre w (List.mem_cons_of_mem _ hw)
  have hown : s.vm.findClass RX11 = some m.cls := findClass_of_methodNamed B.named
  have hlocks := B.notSynchronized
  have hS : va_S (q_A z 22) s.heap s.heap [] := va_S.rf
  have hA : ∀ k, k < 22 → q_A z 22 (z + k) := fun k hk => ⟨Nat.le_add_right z k, Nat.add_lt_add_left hk z⟩
  have hl := lv_entry [.ref (z + 0), .int (q_I a0), .int (q_I a1)] (n := 4) (Nat.le_of_ble_eq_true rfl)
  refine W.eq (by rw [hargs, lg_entry_eq]) ?_
  generalize (lg_sl [.ref (z + 0), .int (q_I a0), .int (q_I a1)] ++ List.replicate (4 - (lg_sl [.ref (z + 0), .int (q_I a0), .int (q_I a1)]).length) Slot.unset).toArray = ls at hl ⊢
  have hl : lv_has ls 4 [(0, .ref (z + 0)), (1, .int (q_I a0)), (2, .int (q_I a1))] := hl
  generalize hQ : MQ below _ args s 0 0 _ = Qf
  change W p l e ({ frames := 0, cells := 0, slots := 0, locals := 0 } : Room) s m args below meth c s.heap [] 0 0 Qf (F0 m 0 ls [])
  unfold f_M_isCheaper at h
  refine lv_iconst (v := q_I 0) hx hb dX11_isCheaper_0 rfl ?_
  refine lv_istore_n (lv' := [(3, .int (q_I 0)), (0, .ref (z + 0)), (1, .int (q_I a0)), (2, .int (q_I a1))]) hx hb dX11_isCheaper_1 rfl hl (by decide) rfl ?_
  clear hl; intro ls hl
  have L2 : ∀ (k33 : Int → Option Int) (k70 : Option Int), (∀ (x2 : Int) (H : Heap) (locs : List Loc) (ls : Array Slot), q_R x2 → q_P D dA q_kdM q_rhoM 22 z sz μ H → va_S (q_A z 22) s.heap H locs → lv_has ls 4 [(0, .ref (z + 0)), (1, .int (q_I a0)), (2, .int (q_I a1)), (3, .int (q_I x2))] → k33 x2 = some xo → W p l e ({ frames := 0, cells := 0, slots := 0, locals := 0 } : Room) s m args below meth c H locs 0 0 Qf (F0 m 33 ls [])) → (∀ (H : Heap) (locs : List Loc) (ls : Array Slot), q_P D dA q_kdM q_rhoM 22 z sz μ H → va_S (q_A z 22) s.heap H locs → lv_has ls 4 [] → k70 = some xo → W p l e ({ frames := 0, cells := 0, slots := 0, locals := 0 } : Room) s m args below meth c H locs 0 0 Qf (F0 m 70 ls [])) → ∀ (nf2 : Nat) (x1 : Int) (H : Heap) (locs : List Loc) (ls : Array Slot), q_R x1 → q_P D dA q_kdM q_rhoM 22 z sz μ H → va_S (q_A z 22) s.heap H locs → lv_has ls 4 [(0, .ref (z + 0)), (1, .int (q_I a0)), (2, .int (q_I a1)), (3, .int (q_I x1))] → f_M_isCheaper_L2 a0 a1 μ k33 k70 nf2 x1 = some xo → W p l e ({ frames := 0, cells := 0, slots := 0, locals := 0 } : Room) s m args below meth c H locs 0 0 Qf (F0 m 2 ls []) := by
    clear h hl hP hS
    intro k33 k70 hk33 hk70 nf2
    induction nf2 with
    | zero =>
      intro x1 H locs ls r1 hP hS hl h
      rw [f_M_isCheaper_L2] at h
      cases h
    | succ nf2 ih2 =>
      intro x1 H locs ls r1 hP hS hl h
      rw [f_M_isCheaper_L2] at h
      refine lv_iload_n hx hb dX11_isCheaper_2 rfl (lv_at hl 3 rfl) ?_
      refine lv_bipush (v := q_I 31) hx hb dX11_isCheaper_3 (by decide) ?_
      refine q_cge hx hb r1 (q_r 31 rfl) (tgt := 70) dX11_isCheaper_5 (by decide) h ?_ ?_
      · clear h; intro g11 h
        exact hk70  _ _ _ hP hS (lv_sub hl [] rfl) h
      · clear h; intro g11 h
        refine lv_aload_n hx hb dX11_isCheaper_8 rfl (lv_at hl 0 rfl) ?_
        refine q_getR hx hb hts hown hK hP fd_RX11_63 (Nat.le_of_ble_eq_true rfl) q_kdM_0 rfl q_rhM_0_26 dX11_isCheaper_9 ?_
        refine lv_bipush (v := q_I 31) hx hb dX11_isCheaper_12 (by decide) ?_
        refine lv_iload_n hx hb dX11_isCheaper_14 rfl (lv_at hl 1 rfl) ?_
        refine q_imul hx hb dX11_isCheaper_15 h ?_
        clear h; intro x3 r3 h
        refine lv_iload_n hx hb dX11_isCheaper_16 rfl (lv_at hl 3 rfl) ?_
        refine q_iadd hx hb dX11_isCheaper_17 h ?_
        clear h; intro x4 r4 h
        refine q_iald hx hb hK hP (Nat.le_of_ble_eq_true rfl) q_kdM_18 r4 dX11_isCheaper_18 h ?_
        clear h; intro x5 r5 h
        refine lv_aload_n hx hb dX11_isCheaper_19 rfl (lv_at hl 0 rfl) ?_
        refine q_getR hx hb hts hown hK hP fd_RX11_63 (Nat.le_of_ble_eq_true rfl) q_kdM_0 rfl q_rhM_0_26 dX11_isCheaper_20 ?_
        refine lv_bipush (v := q_I 31) hx hb dX11_isCheaper_23 (by decide) ?_
        refine lv_iload_n hx hb dX11_isCheaper_25 rfl (lv_at hl 2 rfl) ?_
        refine q_imul hx hb dX11_isCheaper_26 h ?_
        clear h; intro x6 r6 h
        refine lv_iload_n hx hb dX11_isCheaper_27 rfl (lv_at hl 3 rfl) ?_
        refine q_iadd hx hb dX11_isCheaper_28 h ?_
        clear h; intro x7 r7 h
        refine q_iald hx hb hK hP (Nat.le_of_ble_eq_true rfl) q_kdM_18 r7 dX11_isCheaper_29 h ?_
        clear h; intro x8 r8 h
        refine q_ceq hx hb r5 r8 (tgt := 64) dX11_isCheaper_30 (by decide) h ?_ ?_
        · clear h; intro g10 h
          refine q_iinc (k := 3) (lv' := fun t => [(3, .int (q_I t)), (0, .ref (z + 0)), (1, .int (q_I a0)), (2, .int (q_I a1))]) hx hb dX11_isCheaper_64 hl rfl (by decide) (fun _ => rfl) h ?_
          clear h hl; intro x9 ls r9 hl h
          refine lv_goto (tgt := 2) hx hb dX11_isCheaper_67 (by decide) ?_
          exact ih2 x9 _ _ _ r9 hP hS (lv_sub hl [1, 2, 3, 0] rfl) h
        · clear h; intro g10 h
          exact hk33 x1 _ _ _ r1 hP hS (lv_sub hl [0, 1, 2, 3] rfl) h
  refine L2 _ _ ?_ ?_  _ 0 _ _ _ (q_r 0 rfl) hP hS (lv_sub hl [1, 2, 3, 0] rfl) h
  · clear h hl hP hS; intro x2 H locs ls r2 hP hS hl h
    refine lv_aload_n hx hb dX11_isCheaper_33 rfl (lv_at hl 0 rfl) ?_
    refine q_getR hx hb hts hown hK hP fd_RX11_63 (Nat.le_of_ble_eq_true rfl) q_kdM_0 rfl q_rhM_0_26 dX11_isCheaper_34 ?_
    refine lv_bipush (v := q_I 31) hx hb dX11_isCheaper_37 (by decide) ?_
    refine lv_iload_n hx hb dX11_isCheaper_39 rfl (lv_at hl 1 rfl) ?_
    refine q_imul hx hb dX11_isCheaper_40 h ?_
    clear h; intro x12 r12 h
    refine lv_iload_n hx hb dX11_isCheaper_41 rfl (lv_at hl 3 rfl) ?_
    refine q_iadd hx hb dX11_isCheaper_42 h ?_
    clear h; intro x13 r13 h
    refine q_iald hx hb hK hP (Nat.le_of_ble_eq_true rfl) q_kdM_18 r13 dX11_isCheaper_43 h ?_
    clear h; intro x14 r14 h
    refine lv_aload_n hx hb dX11_isCheaper_44 rfl (lv_at hl 0 rfl) ?_
    refine q_getR hx hb hts hown hK hP fd_RX11_63 (Nat.le_of_ble_eq_true rfl) q_kdM_0 rfl q_rhM_0_26 dX11_isCheaper_45 ?_
    refine lv_bipush (v := q_I 31) hx hb dX11_isCheaper_48 (by decide) ?_
    refine lv_iload_n hx hb dX11_isCheaper_50 rfl (lv_at hl 2 rfl) ?_
    refine q_imul hx hb dX11_isCheaper_51 h ?_
    clear h; intro x15 r15 h
    refine lv_iload_n hx hb dX11_isCheaper_52 rfl (lv_at hl 3 rfl) ?_
    refine q_iadd hx hb dX11_isCheaper_53 h ?_
    clear h; intro x16 r16 h
    refine q_iald hx hb hK hP (Nat.le_of_ble_eq_true rfl) q_kdM_18 r16 dX11_isCheaper_54 h ?_
    clear h; intro x17 r17 h
    refine q_jn_in h (fun J => ∀ (x18 : Int) (H : Heap) (locs : List Loc) (ls : Array Slot), q_R x18 → q_P D dA q_kdM q_rhoM 22 z sz μ H → va_S (q_A z 22) s.heap H locs → lv_has ls 4 [] → J x18 = some xo → W p l e ({ frames := 0, cells := 0, slots := 0, locals := 0 } : Room) s m args below meth c H locs 0 0 Qf (F0 m 63 ls [.int (q_I x18)])) ?_ ?_
    · clear h hl hP hS; intro x18 H locs ls r18 hP hS hl h
      rw [← hQ]
      obtain ⟨hz, h⟩ := q_rz_some h
      exact q_retz1 hx hb hr hlocks hP hS hz h dX11_isCheaper_63
    · clear h; intro j63 hj63 h
      refine q_cge hx hb r14 r17 (tgt := 62) dX11_isCheaper_55 (by decide) h ?_ ?_
      · clear h; intro g19 h
        refine lv_iconst (v := q_I 0) hx hb dX11_isCheaper_62 rfl ?_
        exact hj63 0 _ _ _ (q_r 0 rfl) hP hS (lv_sub hl [] rfl) h
      · clear h; intro g19 h
        refine lv_iconst (v := q_I 1) hx hb dX11_isCheaper_58 rfl ?_
        refine lv_goto (tgt := 63) hx hb dX11_isCheaper_59 (by decide) ?_
        exact hj63 1 _ _ _ (q_r 1 rfl) hP hS (lv_sub hl [] rfl) h
  · clear h hl hP hS; intro  H locs ls  hP hS hl h
    refine lv_iconst (v := q_I 0) hx hb dX11_isCheaper_70 rfl ?_
    rw [← hQ]
    exact q_retz1 hx hb hr hlocks hP hS (Or.inl rfl) h dX11_isCheaper_71
set_option maxHeartbeats 4000000 in
set_option maxRecDepth 100000 in
theorem c_M_sendOn (l : Launch) (D : va_G) (dA : Nat → ClassId) {z sz : Nat} {N : Nat} {μ : q_M} {xo : Int} {μo : q_M} (h : f_M_sendOn N μ = some (xo, μo)) : Met l yX11_sendOn (q_wc yX11_sendOn cX11_sendOn 5 (some .boolean)) ({ frames := 2, cells := 0, slots := 0, locals := 51 } : Room) (va_Pc [.ref (z + 0)] (q_B (q_P D dA q_kdM q_rhoM 22 z sz μ) D dA)) (q_Q (some (.int (q_I xo))) (q_R xo) (q_P D dA q_kdM q_rhoM 22 z sz μo) (q_A z 22)) 0 0 (q_A z 22) := by
  refine Met.ofW (cc := cX11_sendOn) (maxL := 5) (ret := (some .boolean)) (by decide) rfl ?_
  intro p e s m args below meth c s₁ B hml hv
  obtain ⟨hargs, hP, hK⟩ := hv
  have hx := B.exec
  have hb := B.bytes
  have hr := B.returns
  have hts : ∀ w ∈ q_W, w.before args s = true := fun w hw => atoms_spec (ws := q_wc yX11_sendOn cX11_sendOn 5 (some .boolean)) B.pre w (List.mem_cons_of_mem _ hw)
  have hown : s.vm.findClass RX11 = some m.cls := findClass_of_methodNamed B.named
  have hlocks := B.notSynchronized
  have hS : va_S (q_A z 22) s.heap s.heap [] := va_S.rf
  have hA : ∀ k, k < 22 → q_A z 22 (z + k) := fun k hk => ⟨Nat.le_add_right z k, Nat.add_lt_add_left hk z⟩
  have hl := lv_entry [.ref (z + 0)] (n := 5) (Nat.le_of_ble_eq_true rfl)
  refine W.eq (by rw [hargs, lg_entry_eq]) ?_
  generalize (lg_sl [.ref (z + 0)] ++ List.replicate (5 - (lg_sl [.ref (z + 0)]).length) Slot.unset).toArray = ls at hl ⊢
  have hl : lv_has ls 5 [(0, .ref (z + 0))] := hl
  generalize hQ : MQ below _ args s 0 0 _ = Qf
  change W p l e ({ frames := 2, cells := 0, slots := 0, locals := 51 } : Room) s m args below meth c s.heap [] 0 0 Qf (F0 m 0 ls [])
  unfold f_M_sendOn at h
  refine lv_aload_n hx hb dX11_sendOn_0 rfl (lv_at hl 0 rfl) ?_
  obtain ⟨μ2, hv1, h⟩ := q_b_some h
  refine q_callV hx hb hml hts hown hK hP hS (As := []) (rest := []) (st1 := []) cv_RX11_239 (c_M_findWays l D dA hv1) (Nat.le_of_ble_eq_true rfl) q_kdM_0 rfl ⟨rfl, rfl, Nat.le_of_ble_eq_true rfl, Nat.le_of_ble_eq_true rfl⟩ ⟨Nat.le_refl _, Nat.le_refl _⟩ rfl hl.1 rfl (Nat.le_of_ble_eq_true rfl) rfl (fun _ g => g) dX11_sendOn_1 ?_
  clear hP hS hv1; intro H locs _ hP hS _
  refine lv_iconst (v := q_I (-1)) hx hb dX11_sendOn_4 rfl ?_
  refine lv_istore_n (lv' := [(1, .int (q_I ((-1)))), (0, .ref (z + 0))]) hx hb dX11_sendOn_5 rfl hl (by decide) rfl ?_
  clear hl; intro ls hl
  refine lv_iconst (v := q_I 0) hx hb dX11_sendOn_6 rfl ?_
  refine lv_istore_n (lv' := [(2, .int (q_I 0)), (1, .int (q_I ((-1)))), (0, .ref (z + 0))]) hx hb dX11_sendOn_7 rfl hl (by decide) rfl ?_
  clear hl; intro ls hl
  have L8 : ∀ (k57 : Int → Option (Int × q_M)), (∀ (x5 : Int) (H : Heap) (locs : List Loc) (ls : Array Slot), q_R x5 → q_P D dA q_kdM q_rhoM 22 z sz μ2 H → va_S (q_A z 22) s.heap H locs → lv_has ls 5 [(0, .ref (z + 0)), (1, .int (q_I x5))] → k57 x5 = some (xo, μo) → W p l e ({ frames := 2, cells := 0, slots := 0, locals := 51 } : Room) s m args below meth c H locs 0 0 Qf (F0 m 57 ls [])) → ∀ (nf8 : Nat) (x3 : Int) (x4 : Int) (H : Heap) (locs : List Loc) (ls : Array Slot), q_R x3 → q_R x4 → q_P D dA q_kdM q_rhoM 22 z sz μ2 H → va_S (q_A z 22) s.heap H locs → lv_has ls 5 [(0, .ref (z + 0)), (1, .int (q_I x3)), (2, .int (q_I x4))] → f_M_sendOn_L8 N μ2 k57 nf8 x3 x4 = some (xo, μo) → W p l e ({ frames := 2, cells := 0, slots := 0, locals := 51 } : Room) s m args below meth c H locs 0 0 Qf (F0 m 8 ls []) := by
    clear h hl hP hS
    intro k57 hk57 nf8
    induction nf8 with
    | zero =>
      intro x3 x4 H locs ls r3 r4 hP hS hl h
      rw [f_M_sendOn_L8] at h
      cases h
    | succ nf8 ih8 =>
      intro x3 x4 H locs ls r3 r4 hP hS hl h
      rw [f_M_sendOn_L8] at h
      refine lv_iload_n hx hb dX11_sendOn_8 rfl (lv_at hl 2 rfl) ?_
      refine lv_bipush (v := q_I 7) hx hb dX11_sendOn_9 (by decide) ?_
      refine q_cge hx hb r4 (q_r 7 rfl) (tgt := 57) dX11_sendOn_11 (by decide) h ?_ ?_
      · clear h; intro g16 h
        exact hk57 x3 _ _ _ r3 hP hS (lv_sub hl [0, 1] rfl) h
      · clear h; intro g16 h
        refine lv_aload_n hx hb dX11_sendOn_14 rfl (lv_at hl 0 rfl) ?_
        refine q_getR hx hb hts hown hK hP fd_RX11_56 (Nat.le_of_ble_eq_true rfl) q_kdM_0 rfl q_rhM_0_22 dX11_sendOn_15 ?_
        refine lv_iload_n hx hb dX11_sendOn_18 rfl (lv_at hl 2 rfl) ?_
        refine q_iald hx hb hK hP (Nat.le_of_ble_eq_true rfl) q_kdM_16 r4 dX11_sendOn_19 h ?_
        clear h; intro x6 r6 h
        refine q_jn_in h (fun J => ∀ (x7 : Int) (H : Heap) (locs : List Loc) (ls : Array Slot), q_R x7 → q_P D dA q_kdM q_rhoM 22 z sz μ2 H → va_S (q_A z 22) s.heap H locs → lv_has ls 5 [(0, .ref (z + 0)), (2, .int (q_I x4))] → J x7 = some (xo, μo) → W p l e ({ frames := 2, cells := 0, slots := 0, locals := 51 } : Room) s m args below meth c H locs 0 0 Qf (F0 m 50 ls [.int (q_I x7)])) ?_ ?_
        · clear h hl hP hS; intro x7 H locs ls r7 hP hS hl h
          refine lv_istore_n (lv' := [(1, .int (q_I x7)), (0, .ref (z + 0)), (2, .int (q_I x4))]) hx hb dX11_sendOn_50 rfl hl (by decide) rfl ?_
          clear hl; intro ls hl
          refine q_iinc (k := 2) (lv' := fun t => [(2, .int (q_I t)), (1, .int (q_I x7)), (0, .ref (z + 0))]) hx hb dX11_sendOn_51 hl rfl (by decide) (fun _ => rfl) h ?_
          clear h hl; intro x8 ls r8 hl h
          refine lv_goto (tgt := 8) hx hb dX11_sendOn_54 (by decide) ?_
          exact ih8 x7 x8 _ _ _ r7 r8 hP hS (lv_sub hl [2, 1, 0] rfl) h
        · clear h; intro j50 hj50 h
          refine q_jn_in h (fun J => ∀ (H : Heap) (locs : List Loc) (ls : Array Slot), q_P D dA q_kdM q_rhoM 22 z sz μ2 H → va_S (q_A z 22) s.heap H locs → lv_has ls 5 [(0, .ref (z + 0)), (1, .int (q_I x3)), (2, .int (q_I x4))] → J = some (xo, μo) → W p l e ({ frames := 2, cells := 0, slots := 0, locals := 51 } : Room) s m args below meth c H locs 0 0 Qf (F0 m 49 ls [])) ?_ ?_
          · clear h hl hP hS; intro  H locs ls  hP hS hl h
            refine lv_iload_n hx hb dX11_sendOn_49 rfl (lv_at hl 1 rfl) ?_
            exact hj50 x3 _ _ _ r3 hP hS (lv_sub hl [0, 2] rfl) h
          · clear h; intro j49 hj49 h
            refine q_zge hx hb r6 (tgt := 49) dX11_sendOn_20 (by decide) h ?_ ?_
            · clear h; intro g15 h
              exact hj49  _ _ _ hP hS (lv_sub hl [0, 1, 2] rfl) h
            · clear h; intro g15 h
              refine lv_aload_n hx hb dX11_sendOn_23 rfl (lv_at hl 0 rfl) ?_
              refine q_getR hx hb hts hown hK hP fd_RX11_59 (Nat.le_of_ble_eq_true rfl) q_kdM_0 rfl q_rhM_0_25 dX11_sendOn_24 ?_
              refine lv_iload_n hx hb dX11_sendOn_27 rfl (lv_at hl 2 rfl) ?_
              refine q_zald hx hb hK hP (Nat.le_of_ble_eq_true rfl) q_kdM_17 r4 dX11_sendOn_28 h ?_
              clear h; intro x9 r9 h
              refine q_zeq hx hb r9 (tgt := 49) dX11_sendOn_29 (by decide) h ?_ ?_
              · clear h; intro g14 h
                exact hj49  _ _ _ hP hS (lv_sub hl [0, 1, 2] rfl) h
              · clear h; intro g14 h
                refine lv_iload_n hx hb dX11_sendOn_32 rfl (lv_at hl 1 rfl) ?_
                refine q_jn_in h (fun J => ∀ (H : Heap) (locs : List Loc) (ls : Array Slot), q_P D dA q_kdM q_rhoM 22 z sz μ2 H → va_S (q_A z 22) s.heap H locs → lv_has ls 5 [(0, .ref (z + 0)), (2, .int (q_I x4))] → J = some (xo, μo) → W p l e ({ frames := 2, cells := 0, slots := 0, locals := 51 } : Room) s m args below meth c H locs 0 0 Qf (F0 m 45 ls [])) ?_ ?_
                · clear h hl hP hS; intro  H locs ls  hP hS hl h
                  refine lv_iload_n hx hb dX11_sendOn_45 rfl (lv_at hl 1 rfl) ?_
                  refine lv_goto (tgt := 50) hx hb dX11_sendOn_46 (by decide) ?_
                  exact hj50 x4 _ _ _ r4 hP hS (lv_sub hl [0, 1] rfl) h
                · clear h; intro j45 hj45 h
                  refine q_zlt hx hb r3 (tgt := 45) dX11_sendOn_33 (by decide) h ?_ ?_
                  · clear h; intro g13 h
                    exact hj45  _ _ _ hP hS (lv_sub hl [0, 2] rfl) h
                  · clear h; intro g13 h
                    refine lv_aload_n hx hb dX11_sendOn_36 rfl (lv_at hl 0 rfl) ?_
                    refine lv_iload_n hx hb dX11_sendOn_37 rfl (lv_at hl 2 rfl) ?_
                    refine lv_iload_n hx hb dX11_sendOn_38 rfl (lv_at hl 1 rfl) ?_
                    obtain ⟨x11, hv10, h⟩ := q_b_some h
                    refine q_callV hx hb hml hts hown hK hP hS (As := [.int (q_I x4), .int (q_I x3)]) (rest := []) (st1 := [.int (q_I x11)]) cv_RX11_242 (c_M_isCheaper l D dA r4 r3 hv10) (Nat.le_of_ble_eq_true rfl) q_kdM_0 rfl ⟨rfl, rfl, Nat.le_of_ble_eq_true rfl, Nat.le_of_ble_eq_true rfl⟩ ⟨Nat.le_refl _, Nat.le_refl _⟩ rfl hl.1 rfl (Nat.le_of_ble_eq_true rfl) rfl (fun _ g => g) dX11_sendOn_39 ?_
                    clear hP hS hv10; intro H locs r11 hP hS _
                    refine q_zeq hx hb r11 (tgt := 49) dX11_sendOn_42 (by decide) h ?_ ?_
                    · clear h; intro g12 h
                      exact hj49  _ _ _ hP hS (lv_sub hl [0, 1, 2] rfl) h
                    · clear h; intro g12 h
                      exact hj45  _ _ _ hP hS (lv_sub hl [0, 2] rfl) h
  refine L8 _ ?_  _ ((-1)) 0 _ _ _ (q_r (-1) rfl) (q_r 0 rfl) hP hS (lv_sub hl [2, 1, 0] rfl) h
  · clear h hl hP hS; intro x5 H locs ls r5 hP hS hl h
    refine lv_iload_n hx hb dX11_sendOn_57 rfl (lv_at hl 1 rfl) ?_
    refine q_zge hx hb r5 (tgt := 63) dX11_sendOn_58 (by decide) h ?_ ?_
    · clear h; intro g70 h
      refine lv_aload_n hx hb dX11_sendOn_63 rfl (lv_at hl 0 rfl) ?_
      refine q_getR hx hb hts hown hK hP fd_RX11_56 (Nat.le_of_ble_eq_true rfl) q_kdM_0 rfl q_rhM_0_22 dX11_sendOn_64 ?_
      refine lv_iload_n hx hb dX11_sendOn_67 rfl (lv_at hl 1 rfl) ?_
      refine q_iald hx hb hK hP (Nat.le_of_ble_eq_true rfl) q_kdM_16 r5 dX11_sendOn_68 h ?_
      clear h; intro x17 r17 h
      refine q_ineg hx hb dX11_sendOn_69 h ?_
      clear h; intro x18 r18 h
      refine lv_istore_n (lv' := [(2, .int (q_I x18)), (0, .ref (z + 0)), (1, .int (q_I x5))]) hx hb dX11_sendOn_70 rfl hl (by decide) rfl ?_
      clear hl; intro ls hl
      refine lv_iload_n hx hb dX11_sendOn_71 rfl (lv_at hl 2 rfl) ?_
      refine lv_istore_n (lv' := [(3, .int (q_I x5)), (2, .int (q_I x18)), (0, .ref (z + 0)), (1, .int (q_I x5))]) hx hb dX11_sendOn_72 rfl hl (by decide) rfl ?_
      clear hl; intro ls hl
      have L73 : ∀ (k154 : Int → Int → Option (Int × q_M)), (∀ (x21 : Int) (x22 : Int) (H : Heap) (locs : List Loc) (ls : Array Slot), q_R x21 → q_R x22 → q_P D dA q_kdM q_rhoM 22 z sz μ2 H → va_S (q_A z 22) s.heap H locs → lv_has ls 5 [(0, .ref (z + 0)), (1, .int (q_I x5)), (2, .int (q_I x21)), (3, .int (q_I x22))] → k154 x21 x22 = some (xo, μo) → W p l e ({ frames := 2, cells := 0, slots := 0, locals := 51 } : Room) s m args below meth c H locs 0 0 Qf (F0 m 154 ls [])) → ∀ (nf73 : Nat) (x19 : Int) (x20 : Int) (H : Heap) (locs : List Loc) (ls : Array Slot), q_R x19 → q_R x20 → q_P D dA q_kdM q_rhoM 22 z sz μ2 H → va_S (q_A z 22) s.heap H locs → lv_has ls 5 [(0, .ref (z + 0)), (1, .int (q_I x5)), (2, .int (q_I x19)), (3, .int (q_I x20))] → f_M_sendOn_L73 μ2 k154 nf73 x19 x20 = some (xo, μo) → W p l e ({ frames := 2, cells := 0, slots := 0, locals := 51 } : Room) s m args below meth c H locs 0 0 Qf (F0 m 73 ls []) := by
        clear h hl hP hS
        intro k154 hk154 nf73
        induction nf73 with
        | zero =>
          intro x19 x20 H locs ls r19 r20 hP hS hl h
          rw [f_M_sendOn_L73] at h
          cases h
        | succ nf73 ih73 =>
          intro x19 x20 H locs ls r19 r20 hP hS hl h
          rw [f_M_sendOn_L73] at h
          refine lv_aload_n hx hb dX11_sendOn_73 rfl (lv_at hl 0 rfl) ?_
          refine q_getR hx hb hts hown hK hP fd_RX11_66 (Nat.le_of_ble_eq_true rfl) q_kdM_0 rfl q_rhM_0_27 dX11_sendOn_74 ?_
          refine lv_iload_n hx hb dX11_sendOn_77 rfl (lv_at hl 3 rfl) ?_
          refine q_iald hx hb hK hP (Nat.le_of_ble_eq_true rfl) q_kdM_19 r20 dX11_sendOn_78 h ?_
          clear h; intro x23 r23 h
          refine q_zlt hx hb r23 (tgt := 154) dX11_sendOn_79 (by decide) h ?_ ?_
          · clear h; intro g40 h
            exact hk154 x19 x20 _ _ _ r19 r20 hP hS (lv_sub hl [0, 1, 2, 3] rfl) h
          · clear h; intro g40 h
            refine lv_aload_n hx hb dX11_sendOn_82 rfl (lv_at hl 0 rfl) ?_
            refine lv_aload_n hx hb dX11_sendOn_83 rfl (lv_at hl 0 rfl) ?_
            refine q_getR hx hb hts hown hK hP fd_RX11_66 (Nat.le_of_ble_eq_true rfl) q_kdM_0 rfl q_rhM_0_27 dX11_sendOn_84 ?_
            refine lv_iload_n hx hb dX11_sendOn_87 rfl (lv_at hl 3 rfl) ?_
            refine q_iald hx hb hK hP (Nat.le_of_ble_eq_true rfl) q_kdM_19 r20 dX11_sendOn_88 h ?_
            clear h; intro x24 r24 h
            obtain ⟨x26, hv25, h⟩ := q_b_some h
            refine q_callV hx hb hml hts hown hK hP hS (As := [.int (q_I x24)]) (rest := []) (st1 := [.int (q_I x26)]) cv_RX11_232 (c_M_room l D dA r24 hv25) (Nat.le_of_ble_eq_true rfl) q_kdM_0 rfl ⟨rfl, rfl, Nat.le_of_ble_eq_true rfl, Nat.le_of_ble_eq_true rfl⟩ ⟨Nat.le_refl _, Nat.le_refl _⟩ rfl hl.1 rfl (Nat.le_of_ble_eq_true rfl) rfl (fun _ g => g) dX11_sendOn_89 ?_
            clear hP hS hv25; intro H locs r26 hP hS _
            refine lv_iload_n hx hb dX11_sendOn_92 rfl (lv_at hl 2 rfl) ?_
            refine q_jn_in h (fun J => ∀ (x27 : Int) (H : Heap) (locs : List Loc) (ls : Array Slot), q_R x27 → q_P D dA q_kdM q_rhoM 22 z sz μ2 H → va_S (q_A z 22) s.heap H locs → lv_has ls 5 [(0, .ref (z + 0)), (1, .int (q_I x5)), (3, .int (q_I x20))] → J x27 = some (xo, μo) → W p l e ({ frames := 2, cells := 0, slots := 0, locals := 51 } : Room) s m args below meth c H locs 0 0 Qf (F0 m 110 ls [.int (q_I x27)])) ?_ ?_
            · clear h hl hP hS; intro x27 H locs ls r27 hP hS hl h
              refine lv_istore_n (lv' := [(2, .int (q_I x27)), (0, .ref (z + 0)), (1, .int (q_I x5)), (3, .int (q_I x20))]) hx hb dX11_sendOn_110 rfl hl (by decide) rfl ?_
              clear hl; intro ls hl
              refine lv_aload_n hx hb dX11_sendOn_111 rfl (lv_at hl 1 rfl) ?_
              refine q_getR hx hb hts hown hK hP fd_RX11_66 (Nat.le_of_ble_eq_true rfl) q_kdM_0 rfl q_rhM_0_27 dX11_sendOn_112 ?_
              refine lv_iload_n hx hb dX11_sendOn_115 rfl (lv_at hl 3 rfl) ?_
              refine q_iald hx hb hK hP (Nat.le_of_ble_eq_true rfl) q_kdM_19 r20 dX11_sendOn_116 h ?_
              clear h; intro x28 r28 h
              refine lv_bipush (v := q_I 100) hx hb dX11_sendOn_117 (by decide) ?_
              refine q_jn_in h (fun J => ∀ (x29 : Int) (H : Heap) (locs : List Loc) (ls : Array Slot), q_R x29 → q_P D dA q_kdM q_rhoM 22 z sz μ2 H → va_S (q_A z 22) s.heap H locs → lv_has ls 5 [(0, .ref (z + 0)), (1, .int (q_I x5)), (2, .int (q_I x27))] → J x29 = some (xo, μo) → W p l e ({ frames := 2, cells := 0, slots := 0, locals := 51 } : Room) s m args below meth c H locs 0 0 Qf (F0 m 150 ls [.int (q_I x29)])) ?_ ?_
              · clear h hl hP hS; intro x29 H locs ls r29 hP hS hl h
                refine lv_istore_n (lv' := [(3, .int (q_I x29)), (0, .ref (z + 0)), (1, .int (q_I x5)), (2, .int (q_I x27))]) hx hb dX11_sendOn_150 rfl hl (by decide) rfl ?_
                clear hl; intro ls hl
                refine lv_goto (tgt := 73) hx hb dX11_sendOn_151 (by decide) ?_
                exact ih73 x27 x29 _ _ _ r27 r29 hP hS (lv_sub hl [1, 2, 3, 0] rfl) h
              · clear h; intro j150 hj150 h
                refine q_cge hx hb r28 (q_r 100 rfl) (tgt := 136) dX11_sendOn_119 (by decide) h ?_ ?_
                · clear h; intro g35 h
                  refine lv_aload_n hx hb dX11_sendOn_136 rfl (lv_at hl 1 rfl) ?_
                  refine q_getR hx hb hts hown hK hP fd_RX11_38 (Nat.le_of_ble_eq_true rfl) q_kdM_0 rfl q_rhM_0_16 dX11_sendOn_137 ?_
                  refine lv_aload_n hx hb dX11_sendOn_140 rfl (lv_at hl 1 rfl) ?_
                  refine q_getR hx hb hts hown hK hP fd_RX11_66 (Nat.le_of_ble_eq_true rfl) q_kdM_0 rfl q_rhM_0_27 dX11_sendOn_141 ?_
                  refine lv_iload_n hx hb dX11_sendOn_144 rfl (lv_at hl 3 rfl) ?_
                  refine q_iald hx hb hK hP (Nat.le_of_ble_eq_true rfl) q_kdM_19 r20 dX11_sendOn_145 h ?_
                  clear h; intro x30 r30 h
                  refine lv_bipush (v := q_I 100) hx hb dX11_sendOn_146 (by decide) ?_
                  refine q_isub hx hb dX11_sendOn_148 h ?_
                  clear h; intro x31 r31 h
                  refine q_iald hx hb hK hP (Nat.le_of_ble_eq_true rfl) q_kdM_10 r31 dX11_sendOn_149 h ?_
                  clear h; intro x32 r32 h
                  exact hj150 x32 _ _ _ r32 hP hS (lv_sub hl [1, 2, 0] rfl) h
                · clear h; intro g35 h
                  refine lv_aload_n hx hb dX11_sendOn_122 rfl (lv_at hl 1 rfl) ?_
                  refine q_getR hx hb hts hown hK hP fd_RX11_35 (Nat.le_of_ble_eq_true rfl) q_kdM_0 rfl q_rhM_0_15 dX11_sendOn_123 ?_
                  refine lv_aload_n hx hb dX11_sendOn_126 rfl (lv_at hl 1 rfl) ?_
                  refine q_getR hx hb hts hown hK hP fd_RX11_66 (Nat.le_of_ble_eq_true rfl) q_kdM_0 rfl q_rhM_0_27 dX11_sendOn_127 ?_
                  refine lv_iload_n hx hb dX11_sendOn_130 rfl (lv_at hl 3 rfl) ?_
                  refine q_iald hx hb hK hP (Nat.le_of_ble_eq_true rfl) q_kdM_19 r20 dX11_sendOn_131 h ?_
                  clear h; intro x33 r33 h
                  refine q_iald hx hb hK hP (Nat.le_of_ble_eq_true rfl) q_kdM_9 r33 dX11_sendOn_132 h ?_
                  clear h; intro x34 r34 h
                  refine lv_goto (tgt := 150) hx hb dX11_sendOn_133 (by decide) ?_
                  exact hj150 x34 _ _ _ r34 hP hS (lv_sub hl [1, 2, 0] rfl) h
            · clear h; intro j110 hj110 h
              refine q_cge hx hb r26 r19 (tgt := 109) dX11_sendOn_93 (by decide) h ?_ ?_
              · clear h; intro g39 h
                refine lv_iload_n hx hb dX11_sendOn_109 rfl (lv_at hl 2 rfl) ?_
                exact hj110 x19 _ _ _ r19 hP hS (lv_sub hl [0, 1, 3] rfl) h
              · clear h; intro g39 h
                refine lv_aload_n hx hb dX11_sendOn_96 rfl (lv_at hl 0 rfl) ?_
                refine lv_aload_n hx hb dX11_sendOn_97 rfl (lv_at hl 0 rfl) ?_
                refine q_getR hx hb hts hown hK hP fd_RX11_66 (Nat.le_of_ble_eq_true rfl) q_kdM_0 rfl q_rhM_0_27 dX11_sendOn_98 ?_
                refine lv_iload_n hx hb dX11_sendOn_101 rfl (lv_at hl 3 rfl) ?_
                refine q_iald hx hb hK hP (Nat.le_of_ble_eq_true rfl) q_kdM_19 r20 dX11_sendOn_102 h ?_
                clear h; intro x36 r36 h
                obtain ⟨x38, hv37, h⟩ := q_b_some h
                refine q_callV hx hb hml hts hown hK hP hS (As := [.int (q_I x36)]) (rest := []) (st1 := [.int (q_I x38)]) cv_RX11_232 (c_M_room l D dA r36 hv37) (Nat.le_of_ble_eq_true rfl) q_kdM_0 rfl ⟨rfl, rfl, Nat.le_of_ble_eq_true rfl, Nat.le_of_ble_eq_true rfl⟩ ⟨Nat.le_refl _, Nat.le_refl _⟩ rfl hl.1 rfl (Nat.le_of_ble_eq_true rfl) rfl (fun _ g => g) dX11_sendOn_103 ?_
                clear hP hS hv37; intro H locs r38 hP hS _
                refine lv_goto (tgt := 110) hx hb dX11_sendOn_106 (by decide) ?_
                exact hj110 x38 _ _ _ r38 hP hS (lv_sub hl [0, 1, 3] rfl) h
      refine L73 _ ?_  _ x18 x5 _ _ _ r18 r5 hP hS (lv_sub hl [2, 3, 1, 0] rfl) h
      · clear h hl hP hS; intro x21 x22 H locs ls r21 r22 hP hS hl h
        refine lv_aload_n hx hb dX11_sendOn_154 rfl (lv_at hl 0 rfl) ?_
        refine q_getR hx hb hts hown hK hP fd_RX11_56 (Nat.le_of_ble_eq_true rfl) q_kdM_0 rfl q_rhM_0_22 dX11_sendOn_155 ?_
        refine lv_iload_n hx hb dX11_sendOn_158 rfl (lv_at hl 3 rfl) ?_
        refine q_iald hx hb hK hP (Nat.le_of_ble_eq_true rfl) q_kdM_16 r22 dX11_sendOn_159 h ?_
        clear h; intro x41 r41 h
        refine lv_iload_n hx hb dX11_sendOn_160 rfl (lv_at hl 2 rfl) ?_
        refine q_jn_in h (fun J => ∀ (x42 : Int) (H : Heap) (locs : List Loc) (ls : Array Slot), q_R x42 → q_P D dA q_kdM q_rhoM 22 z sz μ2 H → va_S (q_A z 22) s.heap H locs → lv_has ls 5 [(0, .ref (z + 0)), (1, .int (q_I x5)), (3, .int (q_I x22))] → J x42 = some (xo, μo) → W p l e ({ frames := 2, cells := 0, slots := 0, locals := 51 } : Room) s m args below meth c H locs 0 0 Qf (F0 m 174 ls [.int (q_I x42)])) ?_ ?_
        · clear h hl hP hS; intro x42 H locs ls r42 hP hS hl h
          refine lv_istore_n (lv' := [(2, .int (q_I x42)), (0, .ref (z + 0)), (1, .int (q_I x5)), (3, .int (q_I x22))]) hx hb dX11_sendOn_174 rfl hl (by decide) rfl ?_
          clear hl; intro ls hl
          refine lv_aload_n hx hb dX11_sendOn_175 rfl (lv_at hl 1 rfl) ?_
          refine q_getR hx hb hts hown hK hP fd_RX11_56 (Nat.le_of_ble_eq_true rfl) q_kdM_0 rfl q_rhM_0_22 dX11_sendOn_176 ?_
          refine lv_iload_n hx hb dX11_sendOn_179 rfl (lv_at hl 3 rfl) ?_
          refine lv_dup2_11 hx hb dX11_sendOn_180 rfl rfl ?_
          refine q_iald hx hb hK hP (Nat.le_of_ble_eq_true rfl) q_kdM_16 r22 dX11_sendOn_181 h ?_
          clear h; intro x43 r43 h
          refine lv_iload_n hx hb dX11_sendOn_182 rfl (lv_at hl 0 rfl) ?_
          refine q_isub hx hb dX11_sendOn_183 h ?_
          clear h; intro x44 r44 h
          refine q_iast hx hb hK hP hS hA (Nat.le_of_ble_eq_true rfl) q_kdM_16 r22 r44 dX11_sendOn_184 h ?_
          clear h hP hS; intro μ45 H locs hP hS h
          refine lv_aload_n hx hb dX11_sendOn_185 rfl (lv_at hl 1 rfl) ?_
          refine q_getR hx hb hts hown hK hP fd_RX11_56 (Nat.le_of_ble_eq_true rfl) q_kdM_0 rfl q_rhM_0_22 dX11_sendOn_186 ?_
          refine lv_iload_n hx hb dX11_sendOn_189 rfl (lv_at hl 2 rfl) ?_
          refine lv_dup2_11 hx hb dX11_sendOn_190 rfl rfl ?_
          refine q_iald hx hb hK hP (Nat.le_of_ble_eq_true rfl) q_kdM_16 r5 dX11_sendOn_191 h ?_
          clear h; intro x46 r46 h
          refine lv_iload_n hx hb dX11_sendOn_192 rfl (lv_at hl 0 rfl) ?_
          refine q_iadd hx hb dX11_sendOn_193 h ?_
          clear h; intro x47 r47 h
          refine q_iast hx hb hK hP hS hA (Nat.le_of_ble_eq_true rfl) q_kdM_16 r5 r47 dX11_sendOn_194 h ?_
          clear h hP hS; intro μ48 H locs hP hS h
          refine lv_iload_n hx hb dX11_sendOn_195 rfl (lv_at hl 2 rfl) ?_
          refine lv_istore_n (lv' := [(3, .int (q_I x5)), (2, .int (q_I x42)), (0, .ref (z + 0)), (1, .int (q_I x5))]) hx hb dX11_sendOn_196 rfl hl (by decide) rfl ?_
          clear hl; intro ls hl
          have L197 : ∀ (k276 : q_M → Option (Int × q_M)), (∀ (μ51 : q_M) (H : Heap) (locs : List Loc) (ls : Array Slot), q_P D dA q_kdM q_rhoM 22 z sz μ51 H → va_S (q_A z 22) s.heap H locs → lv_has ls 5 [] → k276 μ51 = some (xo, μo) → W p l e ({ frames := 2, cells := 0, slots := 0, locals := 51 } : Room) s m args below meth c H locs 0 0 Qf (F0 m 276 ls [])) → ∀ (nf197 : Nat) (x49 : Int) (μ50 : q_M) (H : Heap) (locs : List Loc) (ls : Array Slot), q_R x49 → q_P D dA q_kdM q_rhoM 22 z sz μ50 H → va_S (q_A z 22) s.heap H locs → lv_has ls 5 [(0, .ref (z + 0)), (2, .int (q_I x42)), (3, .int (q_I x49))] → f_M_sendOn_L197 x42 k276 nf197 x49 μ50 = some (xo, μo) → W p l e ({ frames := 2, cells := 0, slots := 0, locals := 51 } : Room) s m args below meth c H locs 0 0 Qf (F0 m 197 ls []) := by
            clear h hl hP hS
            intro k276 hk276 nf197
            induction nf197 with
            | zero =>
              intro x49 μ50 H locs ls r49 hP hS hl h
              rw [f_M_sendOn_L197] at h
              cases h
            | succ nf197 ih197 =>
              intro x49 μ50 H locs ls r49 hP hS hl h
              rw [f_M_sendOn_L197] at h
              refine lv_aload_n hx hb dX11_sendOn_197 rfl (lv_at hl 0 rfl) ?_
              refine q_getR hx hb hts hown hK hP fd_RX11_66 (Nat.le_of_ble_eq_true rfl) q_kdM_0 rfl q_rhM_0_27 dX11_sendOn_198 ?_
              refine lv_iload_n hx hb dX11_sendOn_201 rfl (lv_at hl 2 rfl) ?_
              refine q_iald hx hb hK hP (Nat.le_of_ble_eq_true rfl) q_kdM_19 r49 dX11_sendOn_202 h ?_
              clear h; intro x52 r52 h
              refine q_zlt hx hb r52 (tgt := 276) dX11_sendOn_203 (by decide) h ?_ ?_
              · clear h; intro g67 h
                exact hk276 μ50 _ _ _ hP hS (lv_sub hl [] rfl) h
              · clear h; intro g67 h
                refine lv_aload_n hx hb dX11_sendOn_206 rfl (lv_at hl 0 rfl) ?_
                refine q_getR hx hb hts hown hK hP fd_RX11_66 (Nat.le_of_ble_eq_true rfl) q_kdM_0 rfl q_rhM_0_27 dX11_sendOn_207 ?_
                refine lv_iload_n hx hb dX11_sendOn_210 rfl (lv_at hl 2 rfl) ?_
                refine q_iald hx hb hK hP (Nat.le_of_ble_eq_true rfl) q_kdM_19 r49 dX11_sendOn_211 h ?_
                clear h; intro x53 r53 h
                refine lv_bipush (v := q_I 100) hx hb dX11_sendOn_212 (by decide) ?_
                refine q_irem hx hb r53 (q_r 100 rfl) dX11_sendOn_214 h ?_
                clear h; intro x54 r54 h
                refine lv_istore (lv' := [(4, .int (q_I x54)), (0, .ref (z + 0)), (2, .int (q_I x42)), (3, .int (q_I x49))]) hx hb dX11_sendOn_215 hl (by decide) rfl ?_
                clear hl; intro ls hl
                refine lv_aload_n hx hb dX11_sendOn_217 rfl (lv_at hl 1 rfl) ?_
                refine q_getR hx hb hts hown hK hP fd_RX11_53 (Nat.le_of_ble_eq_true rfl) q_kdM_0 rfl q_rhM_0_21 dX11_sendOn_218 ?_
                refine lv_iload hx hb dX11_sendOn_221 (lv_at hl 0 rfl) ?_
                refine lv_dup2_11 hx hb dX11_sendOn_223 rfl rfl ?_
                refine q_iald hx hb hK hP (Nat.le_of_ble_eq_true rfl) q_kdM_15 r54 dX11_sendOn_224 h ?_
                clear h; intro x55 r55 h
                refine lv_aload_n hx hb dX11_sendOn_225 rfl (lv_at hl 1 rfl) ?_
                refine q_getR hx hb hts hown hK hP fd_RX11_66 (Nat.le_of_ble_eq_true rfl) q_kdM_0 rfl q_rhM_0_27 dX11_sendOn_226 ?_
                refine lv_iload_n hx hb dX11_sendOn_229 rfl (lv_at hl 3 rfl) ?_
                refine q_iald hx hb hK hP (Nat.le_of_ble_eq_true rfl) q_kdM_19 r49 dX11_sendOn_230 h ?_
                clear h; intro x56 r56 h
                refine lv_bipush (v := q_I 100) hx hb dX11_sendOn_231 (by decide) ?_
                refine q_jn_in h (fun J => ∀ (x57 : Int) (H : Heap) (locs : List Loc) (ls : Array Slot), q_R x57 → q_P D dA q_kdM q_rhoM 22 z sz μ50 H → va_S (q_A z 22) s.heap H locs → lv_has ls 5 [(0, .ref (z + 0)), (2, .int (q_I x42)), (3, .int (q_I x49)), (4, .int (q_I x54))] → J x57 = some (xo, μo) → W p l e ({ frames := 2, cells := 0, slots := 0, locals := 51 } : Room) s m args below meth c H locs 0 0 Qf (F0 m 242 ls [.int (q_I x57), .int (q_I x55), .int (q_I x54), .ref (z + 15)])) ?_ ?_
                · clear h hl hP hS; intro x57 H locs ls r57 hP hS hl h
                  refine q_iadd hx hb dX11_sendOn_242 h ?_
                  clear h; intro x58 r58 h
                  refine q_iast hx hb hK hP hS hA (Nat.le_of_ble_eq_true rfl) q_kdM_15 r54 r58 dX11_sendOn_243 h ?_
                  clear h hP hS; intro μ59 H locs hP hS h
                  refine lv_aload_n hx hb dX11_sendOn_244 rfl (lv_at hl 0 rfl) ?_
                  refine q_getR hx hb hts hown hK hP fd_RX11_66 (Nat.le_of_ble_eq_true rfl) q_kdM_0 rfl q_rhM_0_27 dX11_sendOn_245 ?_
                  refine lv_iload_n hx hb dX11_sendOn_248 rfl (lv_at hl 2 rfl) ?_
                  refine q_iald hx hb hK hP (Nat.le_of_ble_eq_true rfl) q_kdM_19 r49 dX11_sendOn_249 h ?_
                  clear h; intro x60 r60 h
                  refine lv_bipush (v := q_I 100) hx hb dX11_sendOn_250 (by decide) ?_
                  refine q_jn_in h (fun J => ∀ (x61 : Int) (H : Heap) (locs : List Loc) (ls : Array Slot), q_R x61 → q_P D dA q_kdM q_rhoM 22 z sz μ59 H → va_S (q_A z 22) s.heap H locs → lv_has ls 5 [(0, .ref (z + 0)), (2, .int (q_I x42))] → J x61 = some (xo, μo) → W p l e ({ frames := 2, cells := 0, slots := 0, locals := 51 } : Room) s m args below meth c H locs 0 0 Qf (F0 m 272 ls [.int (q_I x61)])) ?_ ?_
                  · clear h hl hP hS; intro x61 H locs ls r61 hP hS hl h
                    refine lv_istore_n (lv' := [(3, .int (q_I x61)), (0, .ref (z + 0)), (2, .int (q_I x42))]) hx hb dX11_sendOn_272 rfl hl (by decide) rfl ?_
                    clear hl; intro ls hl
                    refine lv_goto (tgt := 197) hx hb dX11_sendOn_273 (by decide) ?_
                    exact ih197 x61 μ59 _ _ _ r61 hP hS (lv_sub hl [1, 2, 0] rfl) h
                  · clear h; intro j272 hj272 h
                    refine q_cge hx hb r60 (q_r 100 rfl) (tgt := 265) dX11_sendOn_252 (by decide) h ?_ ?_
                    · clear h; intro g64 h
                      refine lv_aload_n hx hb dX11_sendOn_265 rfl (lv_at hl 0 rfl) ?_
                      refine q_getR hx hb hts hown hK hP fd_RX11_38 (Nat.le_of_ble_eq_true rfl) q_kdM_0 rfl q_rhM_0_16 dX11_sendOn_266 ?_
                      refine lv_iload hx hb dX11_sendOn_269 (lv_at hl 3 rfl) ?_
                      refine q_iald hx hb hK hP (Nat.le_of_ble_eq_true rfl) q_kdM_10 r54 dX11_sendOn_271 h ?_
                      clear h; intro x62 r62 h
                      exact hj272 x62 _ _ _ r62 hP hS (lv_sub hl [0, 1] rfl) h
                    · clear h; intro g64 h
                      refine lv_aload_n hx hb dX11_sendOn_255 rfl (lv_at hl 0 rfl) ?_
                      refine q_getR hx hb hts hown hK hP fd_RX11_35 (Nat.le_of_ble_eq_true rfl) q_kdM_0 rfl q_rhM_0_15 dX11_sendOn_256 ?_
                      refine lv_iload hx hb dX11_sendOn_259 (lv_at hl 3 rfl) ?_
                      refine q_iald hx hb hK hP (Nat.le_of_ble_eq_true rfl) q_kdM_9 r54 dX11_sendOn_261 h ?_
                      clear h; intro x63 r63 h
                      refine lv_goto (tgt := 272) hx hb dX11_sendOn_262 (by decide) ?_
                      exact hj272 x63 _ _ _ r63 hP hS (lv_sub hl [0, 1] rfl) h
                · clear h; intro j242 hj242 h
                  refine q_cge hx hb r56 (q_r 100 rfl) (tgt := 240) dX11_sendOn_233 (by decide) h ?_ ?_
                  · clear h; intro g66 h
                    refine lv_iload_n hx hb dX11_sendOn_240 rfl (lv_at hl 2 rfl) ?_
                    refine q_ineg hx hb dX11_sendOn_241 h ?_
                    clear h; intro x65 r65 h
                    exact hj242 x65 _ _ _ r65 hP hS (lv_sub hl [1, 2, 3, 0] rfl) h
                  · clear h; intro g66 h
                    refine lv_iload_n hx hb dX11_sendOn_236 rfl (lv_at hl 2 rfl) ?_
                    refine lv_goto (tgt := 242) hx hb dX11_sendOn_237 (by decide) ?_
                    exact hj242 x42 _ _ _ r42 hP hS (lv_sub hl [1, 2, 3, 0] rfl) h
          refine L197 _ ?_  _ x5 μ48 _ _ _ r5 hP hS (lv_sub hl [2, 1, 0] rfl) h
          · clear h hl hP hS; intro μ51 H locs ls  hP hS hl h
            refine lv_iconst (v := q_I 1) hx hb dX11_sendOn_276 rfl ?_
            rw [← hQ]
            exact q_retz2 hx hb hr hlocks hP hS (Or.inr rfl) h dX11_sendOn_277
        · clear h; intro j174 hj174 h
          refine q_cge hx hb r41 r21 (tgt := 173) dX11_sendOn_161 (by decide) h ?_ ?_
          · clear h; intro g69 h
            refine lv_iload_n hx hb dX11_sendOn_173 rfl (lv_at hl 2 rfl) ?_
            exact hj174 x21 _ _ _ r21 hP hS (lv_sub hl [0, 1, 3] rfl) h
          · clear h; intro g69 h
            refine lv_aload_n hx hb dX11_sendOn_164 rfl (lv_at hl 0 rfl) ?_
            refine q_getR hx hb hts hown hK hP fd_RX11_56 (Nat.le_of_ble_eq_true rfl) q_kdM_0 rfl q_rhM_0_22 dX11_sendOn_165 ?_
            refine lv_iload_n hx hb dX11_sendOn_168 rfl (lv_at hl 3 rfl) ?_
            refine q_iald hx hb hK hP (Nat.le_of_ble_eq_true rfl) q_kdM_16 r22 dX11_sendOn_169 h ?_
            clear h; intro x68 r68 h
            refine lv_goto (tgt := 174) hx hb dX11_sendOn_170 (by decide) ?_
            exact hj174 x68 _ _ _ r68 hP hS (lv_sub hl [0, 1, 3] rfl) h
    · clear h; intro g70 h
      refine lv_iconst (v := q_I 0) hx hb dX11_sendOn_61 rfl ?_
      rw [← hQ]
      exact q_retz2 hx hb hr hlocks hP hS (Or.inl rfl) h dX11_sendOn_62
set_option maxHeartbeats 4000000 in
set_option maxRecDepth 100000 in
theorem c_M_findFlow (l : Launch) (D : va_G) (dA : Nat → ClassId) {z sz : Nat} {N : Nat} {a0 : Int} (ra0 : q_R a0) {μ : q_M} {xo : Int} {μo : q_M} (h : f_M_findFlow N a0 μ = some (xo, μo)) : Met l yX11_findFlow (q_wc yX11_findFlow cX11_findFlow 5 (some .boolean)) ({ frames := 5, cells := 0, slots := 0, locals := 118 } : Room) (va_Pc [.ref (z + 0), .int (q_I a0)] (q_B (q_P D dA q_kdM q_rhoM 22 z sz μ) D dA)) (q_Q (some (.int (q_I xo))) (q_R xo) (q_P D dA q_kdM q_rhoM 22 z sz μo) (q_A z 22)) 0 0 (q_A z 22) := by
  refine Met.ofW (cc := cX11_findFlow) (maxL := 5) (ret := (some .boolean)) (by decide) rfl ?_
  intro p e s m args below meth c s₁ B hml hv
  obtain ⟨hargs, hP, hK⟩ := hv
  have hx := B.exec
  have hb := B.bytes
  have hr := B.returns
  have hts : ∀ w ∈ q_W, w.before args s = true := fun w hw => atoms_spec (ws := q_wc yX11_findFlow cX11_findFlow 5 (some .boolean)) B.pre w (List.mem_cons_of_mem _ hw)
  have hown : s.vm.findClass RX11 = some m.cls := findClass_of_methodNamed B.named
  have hlocks := B.notSynchronized
  have hS : va_S (q_A z 22) s.heap s.heap [] := va_S.rf
  have hA : ∀ k, k < 22 → q_A z 22 (z + k) := fun k hk => ⟨Nat.le_add_right z k, Nat.add_lt_add_left hk z⟩
  have hl := lv_entry [.ref (z + 0), .int (q_I a0)] (n := 5) (Nat.le_of_ble_eq_true rfl)
  refine W.eq (by rw [hargs, lg_entry_eq]) ?_
  generalize (lg_sl [.ref (z + 0), .int (q_I a0)] ++ List.replicate (5 - (lg_sl [.ref (z + 0), .int (q_I a0)]).length) Slot.unset).toArray = ls at hl ⊢
  have hl : lv_has ls 5 [(0, .ref (z + 0)), (1, .int (q_I a0))] := hl
  generalize hQ : MQ below _ args s 0 0 _ = Qf
  change W p l e ({ frames := 5, cells := 0, slots := 0, locals := 118 } : Room) s m args below meth c s.heap [] 0 0 Qf (F0 m 0 ls [])
  unfold f_M_findFlow at h
  refine lv_aload_n hx hb dX11_findFlow_0 rfl (lv_at hl 0 rfl) ?_
  refine lv_iload_n hx hb dX11_findFlow_1 rfl (lv_at hl 1 rfl) ?_
  obtain ⟨x2, μ3, hv1, h⟩ := q_b2_some h
  refine q_callV hx hb hml hts hown hK hP hS (As := [.int (q_I a0)]) (rest := []) (st1 := [.int (q_I x2)]) cv_RX11_245 (c_M_layEdges l D dA ra0 hv1) (Nat.le_of_ble_eq_true rfl) q_kdM_0 rfl ⟨rfl, rfl, Nat.le_of_ble_eq_true rfl, Nat.le_of_ble_eq_true rfl⟩ ⟨Nat.le_refl _, Nat.le_refl _⟩ rfl hl.1 rfl (Nat.le_of_ble_eq_true rfl) rfl (fun _ g => g) dX11_findFlow_2 ?_
  clear hP hS hv1; intro H locs r2 hP hS _
  refine q_zne hx hb r2 (tgt := 10) dX11_findFlow_5 (by decide) h ?_ ?_
  · clear h; intro g48 h
    refine lv_iconst (v := q_I 0) hx hb dX11_findFlow_8 rfl ?_
    rw [← hQ]
    exact q_retz2 hx hb hr hlocks hP hS (Or.inl rfl) h dX11_findFlow_9
  · clear h; intro g48 h
    refine lv_iconst (v := q_I 1) hx hb dX11_findFlow_10 rfl ?_
    refine lv_istore_n (lv' := [(2, .int (q_I 1)), (0, .ref (z + 0)), (1, .int (q_I a0))]) hx hb dX11_findFlow_11 rfl hl (by decide) rfl ?_
    clear hl; intro ls hl
    have L12 : ∀ (k24 : q_M → Option (Int × q_M)), (∀ (μ6 : q_M) (H : Heap) (locs : List Loc) (ls : Array Slot), q_P D dA q_kdM q_rhoM 22 z sz μ6 H → va_S (q_A z 22) s.heap H locs → lv_has ls 5 [(0, .ref (z + 0)), (1, .int (q_I a0))] → k24 μ6 = some (xo, μo) → W p l e ({ frames := 5, cells := 0, slots := 0, locals := 118 } : Room) s m args below meth c H locs 0 0 Qf (F0 m 24 ls [])) → ∀ (nf12 : Nat) (x4 : Int) (μ5 : q_M) (H : Heap) (locs : List Loc) (ls : Array Slot), q_R x4 → q_P D dA q_kdM q_rhoM 22 z sz μ5 H → va_S (q_A z 22) s.heap H locs → lv_has ls 5 [(0, .ref (z + 0)), (1, .int (q_I a0)), (2, .int (q_I x4))] → f_M_findFlow_L12 N k24 nf12 x4 μ5 = some (xo, μo) → W p l e ({ frames := 5, cells := 0, slots := 0, locals := 118 } : Room) s m args below meth c H locs 0 0 Qf (F0 m 12 ls []) := by
      clear h hl hP hS
      intro k24 hk24 nf12
      induction nf12 with
      | zero =>
        intro x4 μ5 H locs ls r4 hP hS hl h
        rw [f_M_findFlow_L12] at h
        cases h
      | succ nf12 ih12 =>
        intro x4 μ5 H locs ls r4 hP hS hl h
        rw [f_M_findFlow_L12] at h
        refine lv_iload_n hx hb dX11_findFlow_12 rfl (lv_at hl 2 rfl) ?_
        refine q_zeq hx hb r4 (tgt := 24) dX11_findFlow_13 (by decide) h ?_ ?_
        · clear h; intro g10 h
          exact hk24 μ5 _ _ _ hP hS (lv_sub hl [0, 1] rfl) h
        · clear h; intro g10 h
          refine lv_aload_n hx hb dX11_findFlow_16 rfl (lv_at hl 0 rfl) ?_
          obtain ⟨x8, μ9, hv7, h⟩ := q_b2_some h
          refine q_callV hx hb hml hts hown hK hP hS (As := []) (rest := []) (st1 := [.int (q_I x8)]) cv_RX11_248 (c_M_sendOn l D dA hv7) (Nat.le_of_ble_eq_true rfl) q_kdM_0 rfl ⟨rfl, rfl, Nat.le_of_ble_eq_true rfl, Nat.le_of_ble_eq_true rfl⟩ ⟨Nat.le_refl _, Nat.le_refl _⟩ rfl hl.1 rfl (Nat.le_of_ble_eq_true rfl) rfl (fun _ g => g) dX11_findFlow_17 ?_
          clear hP hS hv7; intro H locs r8 hP hS _
          refine lv_istore_n (lv' := [(2, .int (q_I x8)), (0, .ref (z + 0)), (1, .int (q_I a0))]) hx hb dX11_findFlow_20 rfl hl (by decide) rfl ?_
          clear hl; intro ls hl
          refine lv_goto (tgt := 12) hx hb dX11_findFlow_21 (by decide) ?_
          exact ih12 x8 μ9 _ _ _ r8 hP hS (lv_sub hl [1, 2, 0] rfl) h
    refine L12 _ ?_  _ 1 μ3 _ _ _ (q_r 1 rfl) hP hS (lv_sub hl [1, 2, 0] rfl) h
    · clear h hl hP hS; intro μ6 H locs ls  hP hS hl h
      refine lv_iconst (v := q_I 1) hx hb dX11_findFlow_24 rfl ?_
      refine lv_istore_n (lv' := [(3, .int (q_I 1)), (0, .ref (z + 0)), (1, .int (q_I a0))]) hx hb dX11_findFlow_25 rfl hl (by decide) rfl ?_
      clear hl; intro ls hl
      refine lv_iconst (v := q_I 0) hx hb dX11_findFlow_26 rfl ?_
      refine lv_istore (lv' := [(4, .int (q_I 0)), (3, .int (q_I 1)), (0, .ref (z + 0)), (1, .int (q_I a0))]) hx hb dX11_findFlow_27 hl (by decide) rfl ?_
      clear hl; intro ls hl
      have L29 : ∀ (k62 : Int → Option (Int × q_M)), (∀ (x13 : Int) (H : Heap) (locs : List Loc) (ls : Array Slot), q_R x13 → q_P D dA q_kdM q_rhoM 22 z sz μ6 H → va_S (q_A z 22) s.heap H locs → lv_has ls 5 [(0, .ref (z + 0)), (1, .int (q_I a0)), (3, .int (q_I x13))] → k62 x13 = some (xo, μo) → W p l e ({ frames := 5, cells := 0, slots := 0, locals := 118 } : Room) s m args below meth c H locs 0 0 Qf (F0 m 62 ls [])) → ∀ (nf29 : Nat) (x11 : Int) (x12 : Int) (H : Heap) (locs : List Loc) (ls : Array Slot), q_R x11 → q_R x12 → q_P D dA q_kdM q_rhoM 22 z sz μ6 H → va_S (q_A z 22) s.heap H locs → lv_has ls 5 [(0, .ref (z + 0)), (1, .int (q_I a0)), (3, .int (q_I x11)), (4, .int (q_I x12))] → f_M_findFlow_L29 μ6 k62 nf29 x11 x12 = some (xo, μo) → W p l e ({ frames := 5, cells := 0, slots := 0, locals := 118 } : Room) s m args below meth c H locs 0 0 Qf (F0 m 29 ls []) := by
        clear h hl hP hS
        intro k62 hk62 nf29
        induction nf29 with
        | zero =>
          intro x11 x12 H locs ls r11 r12 hP hS hl h
          rw [f_M_findFlow_L29] at h
          cases h
        | succ nf29 ih29 =>
          intro x11 x12 H locs ls r11 r12 hP hS hl h
          rw [f_M_findFlow_L29] at h
          refine lv_iload hx hb dX11_findFlow_29 (lv_at hl 3 rfl) ?_
          refine lv_bipush (v := q_I 7) hx hb dX11_findFlow_31 (by decide) ?_
          refine q_cge hx hb r12 (q_r 7 rfl) (tgt := 62) dX11_findFlow_33 (by decide) h ?_ ?_
          · clear h; intro g19 h
            exact hk62 x11 _ _ _ r11 hP hS (lv_sub hl [0, 1, 2] rfl) h
          · clear h; intro g19 h
            refine lv_iload_n hx hb dX11_findFlow_36 rfl (lv_at hl 2 rfl) ?_
            refine q_jn_in h (fun J => ∀ (x14 : Int) (H : Heap) (locs : List Loc) (ls : Array Slot), q_R x14 → q_P D dA q_kdM q_rhoM 22 z sz μ6 H → va_S (q_A z 22) s.heap H locs → lv_has ls 5 [(0, .ref (z + 0)), (1, .int (q_I a0)), (4, .int (q_I x12))] → J x14 = some (xo, μo) → W p l e ({ frames := 5, cells := 0, slots := 0, locals := 118 } : Room) s m args below meth c H locs 0 0 Qf (F0 m 55 ls [.int (q_I x14)])) ?_ ?_
            · clear h hl hP hS; intro x14 H locs ls r14 hP hS hl h
              refine lv_istore_n (lv' := [(3, .int (q_I x14)), (0, .ref (z + 0)), (1, .int (q_I a0)), (4, .int (q_I x12))]) hx hb dX11_findFlow_55 rfl hl (by decide) rfl ?_
              clear hl; intro ls hl
              refine q_iinc (k := 3) (lv' := fun t => [(4, .int (q_I t)), (3, .int (q_I x14)), (0, .ref (z + 0)), (1, .int (q_I a0))]) hx hb dX11_findFlow_56 hl rfl (by decide) (fun _ => rfl) h ?_
              clear h hl; intro x15 ls r15 hl h
              refine lv_goto (tgt := 29) hx hb dX11_findFlow_59 (by decide) ?_
              exact ih29 x14 x15 _ _ _ r14 r15 hP hS (lv_sub hl [2, 3, 1, 0] rfl) h
            · clear h; intro j55 hj55 h
              refine q_jn_in h (fun J => ∀ (H : Heap) (locs : List Loc) (ls : Array Slot), q_P D dA q_kdM q_rhoM 22 z sz μ6 H → va_S (q_A z 22) s.heap H locs → lv_has ls 5 [(0, .ref (z + 0)), (1, .int (q_I a0)), (4, .int (q_I x12))] → J = some (xo, μo) → W p l e ({ frames := 5, cells := 0, slots := 0, locals := 118 } : Room) s m args below meth c H locs 0 0 Qf (F0 m 54 ls [])) ?_ ?_
              · clear h hl hP hS; intro  H locs ls  hP hS hl h
                refine lv_iconst (v := q_I 0) hx hb dX11_findFlow_54 rfl ?_
                exact hj55 0 _ _ _ (q_r 0 rfl) hP hS (lv_sub hl [0, 1, 2] rfl) h
              · clear h; intro j54 hj54 h
                refine q_zeq hx hb r11 (tgt := 54) dX11_findFlow_37 (by decide) h ?_ ?_
                · clear h; intro g18 h
                  exact hj54  _ _ _ hP hS (lv_sub hl [0, 1, 3] rfl) h
                · clear h; intro g18 h
                  refine lv_aload_n hx hb dX11_findFlow_40 rfl (lv_at hl 0 rfl) ?_
                  refine q_getR hx hb hts hown hK hP fd_RX11_56 (Nat.le_of_ble_eq_true rfl) q_kdM_0 rfl q_rhM_0_22 dX11_findFlow_41 ?_
                  refine lv_iload hx hb dX11_findFlow_44 (lv_at hl 3 rfl) ?_
                  refine q_iald hx hb hK hP (Nat.le_of_ble_eq_true rfl) q_kdM_16 r12 dX11_findFlow_46 h ?_
                  clear h; intro x16 r16 h
                  refine q_zne hx hb r16 (tgt := 54) dX11_findFlow_47 (by decide) h ?_ ?_
                  · clear h; intro g17 h
                    refine lv_iconst (v := q_I 1) hx hb dX11_findFlow_50 rfl ?_
                    refine lv_goto (tgt := 55) hx hb dX11_findFlow_51 (by decide) ?_
                    exact hj55 1 _ _ _ (q_r 1 rfl) hP hS (lv_sub hl [0, 1, 3] rfl) h
                  · clear h; intro g17 h
                    exact hj54  _ _ _ hP hS (lv_sub hl [0, 1, 3] rfl) h
      refine L29 _ ?_  _ 1 0 _ _ _ (q_r 1 rfl) (q_r 0 rfl) hP hS (lv_sub hl [2, 3, 1, 0] rfl) h
      · clear h hl hP hS; intro x13 H locs ls r13 hP hS hl h
        refine lv_iconst (v := q_I 0) hx hb dX11_findFlow_62 rfl ?_
        refine lv_istore (lv' := [(4, .int (q_I 0)), (0, .ref (z + 0)), (1, .int (q_I a0)), (3, .int (q_I x13))]) hx hb dX11_findFlow_63 hl (by decide) rfl ?_
        clear hl; intro ls hl
        have L65 : ∀ (k172 : q_M → Option (Int × q_M)), (∀ (μ22 : q_M) (H : Heap) (locs : List Loc) (ls : Array Slot), q_P D dA q_kdM q_rhoM 22 z sz μ22 H → va_S (q_A z 22) s.heap H locs → lv_has ls 5 [(3, .int (q_I x13))] → k172 μ22 = some (xo, μo) → W p l e ({ frames := 5, cells := 0, slots := 0, locals := 118 } : Room) s m args below meth c H locs 0 0 Qf (F0 m 172 ls [])) → ∀ (nf65 : Nat) (x20 : Int) (μ21 : q_M) (H : Heap) (locs : List Loc) (ls : Array Slot), q_R x20 → q_P D dA q_kdM q_rhoM 22 z sz μ21 H → va_S (q_A z 22) s.heap H locs → lv_has ls 5 [(0, .ref (z + 0)), (1, .int (q_I a0)), (3, .int (q_I x13)), (4, .int (q_I x20))] → f_M_findFlow_L65 a0 k172 nf65 x20 μ21 = some (xo, μo) → W p l e ({ frames := 5, cells := 0, slots := 0, locals := 118 } : Room) s m args below meth c H locs 0 0 Qf (F0 m 65 ls []) := by
          clear h hl hP hS
          intro k172 hk172 nf65
          induction nf65 with
          | zero =>
            intro x20 μ21 H locs ls r20 hP hS hl h
            rw [f_M_findFlow_L65] at h
            cases h
          | succ nf65 ih65 =>
            intro x20 μ21 H locs ls r20 hP hS hl h
            rw [f_M_findFlow_L65] at h
            refine lv_iload hx hb dX11_findFlow_65 (lv_at hl 3 rfl) ?_
            refine lv_aload_n hx hb dX11_findFlow_67 rfl (lv_at hl 0 rfl) ?_
            refine q_getI hx hb hts hown hK hP fd_RX11_214 (Nat.le_of_ble_eq_true rfl) q_kdM_0 rfl dX11_findFlow_68 h ?_
            clear h; intro x23 r23 h
            refine q_cge hx hb r20 r23 (tgt := 172) dX11_findFlow_71 (by decide) h ?_ ?_
            · clear h; intro g47 h
              exact hk172 μ21 _ _ _ hP hS (lv_sub hl [2] rfl) h
            · clear h; intro g47 h
              refine lv_aload_n hx hb dX11_findFlow_74 rfl (lv_at hl 0 rfl) ?_
              refine lv_dup hx hb dX11_findFlow_75 rfl ?_
              refine q_getI hx hb hts hown hK hP fd_RX11_252 (Nat.le_of_ble_eq_true rfl) q_kdM_0 rfl dX11_findFlow_76 h ?_
              clear h; intro x24 r24 h
              refine lv_aload_n hx hb dX11_findFlow_79 rfl (lv_at hl 0 rfl) ?_
              refine q_getR hx hb hts hown hK hP fd_RX11_53 (Nat.le_of_ble_eq_true rfl) q_kdM_0 rfl q_rhM_0_21 dX11_findFlow_80 ?_
              refine lv_iload hx hb dX11_findFlow_83 (lv_at hl 3 rfl) ?_
              refine q_iald hx hb hK hP (Nat.le_of_ble_eq_true rfl) q_kdM_15 r20 dX11_findFlow_85 h ?_
              clear h; intro x25 r25 h
              refine lv_aload_n hx hb dX11_findFlow_86 rfl (lv_at hl 0 rfl) ?_
              refine q_getR hx hb hts hown hK hP fd_RX11_47 (Nat.le_of_ble_eq_true rfl) q_kdM_0 rfl q_rhM_0_19 dX11_findFlow_87 ?_
              refine lv_iload hx hb dX11_findFlow_90 (lv_at hl 3 rfl) ?_
              refine q_iald hx hb hK hP (Nat.le_of_ble_eq_true rfl) q_kdM_13 r20 dX11_findFlow_92 h ?_
              clear h; intro x26 r26 h
              refine q_imul hx hb dX11_findFlow_93 h ?_
              clear h; intro x27 r27 h
              refine q_iadd hx hb dX11_findFlow_94 h ?_
              clear h; intro x28 r28 h
              refine q_putI hx hb hts hown hK hP hS hA fd_RX11_252 (Nat.le_of_ble_eq_true rfl) q_kdM_0 rfl r28 dX11_findFlow_95 h ?_
              clear h hP hS; intro μ29 H locs hP hS h
              refine lv_aload_n hx hb dX11_findFlow_98 rfl (lv_at hl 0 rfl) ?_
              refine q_getR hx hb hts hown hK hP fd_RX11_50 (Nat.le_of_ble_eq_true rfl) q_kdM_0 rfl q_rhM_0_20 dX11_findFlow_99 ?_
              refine lv_iload hx hb dX11_findFlow_102 (lv_at hl 3 rfl) ?_
              refine q_iald hx hb hK hP (Nat.le_of_ble_eq_true rfl) q_kdM_14 r20 dX11_findFlow_104 h ?_
              clear h; intro x30 r30 h
              refine q_jn_in h (fun J => ∀ (μ31 : q_M) (H : Heap) (locs : List Loc) (ls : Array Slot), q_P D dA q_kdM q_rhoM 22 z sz μ31 H → va_S (q_A z 22) s.heap H locs → lv_has ls 5 [(0, .ref (z + 0)), (1, .int (q_I a0)), (3, .int (q_I x13)), (4, .int (q_I x20))] → J μ31 = some (xo, μo) → W p l e ({ frames := 5, cells := 0, slots := 0, locals := 118 } : Room) s m args below meth c H locs 0 0 Qf (F0 m 132 ls [])) ?_ ?_
              · clear h hl hP hS; intro μ31 H locs ls  hP hS hl h
                refine lv_aload_n hx hb dX11_findFlow_132 rfl (lv_at hl 0 rfl) ?_
                refine q_getR hx hb hts hown hK hP fd_RX11_38 (Nat.le_of_ble_eq_true rfl) q_kdM_0 rfl q_rhM_0_16 dX11_findFlow_133 ?_
                refine lv_iload hx hb dX11_findFlow_136 (lv_at hl 3 rfl) ?_
                refine q_iald hx hb hK hP (Nat.le_of_ble_eq_true rfl) q_kdM_10 r20 dX11_findFlow_138 h ?_
                clear h; intro x32 r32 h
                refine lv_iconst (v := q_I 5) hx hb dX11_findFlow_139 rfl ?_
                refine q_jn_in h (fun J => ∀ (μ33 : q_M) (H : Heap) (locs : List Loc) (ls : Array Slot), q_P D dA q_kdM q_rhoM 22 z sz μ33 H → va_S (q_A z 22) s.heap H locs → lv_has ls 5 [(0, .ref (z + 0)), (1, .int (q_I a0)), (3, .int (q_I x13)), (4, .int (q_I x20))] → J μ33 = some (xo, μo) → W p l e ({ frames := 5, cells := 0, slots := 0, locals := 118 } : Room) s m args below meth c H locs 0 0 Qf (F0 m 166 ls [])) ?_ ?_
                · clear h hl hP hS; intro μ33 H locs ls  hP hS hl h
                  refine q_iinc (k := 3) (lv' := fun t => [(4, .int (q_I t)), (0, .ref (z + 0)), (1, .int (q_I a0)), (3, .int (q_I x13))]) hx hb dX11_findFlow_166 hl rfl (by decide) (fun _ => rfl) h ?_
                  clear h hl; intro x34 ls r34 hl h
                  refine lv_goto (tgt := 65) hx hb dX11_findFlow_169 (by decide) ?_
                  exact ih65 x34 μ33 _ _ _ r34 hP hS (lv_sub hl [1, 2, 3, 0] rfl) h
                · clear h; intro j166 hj166 h
                  refine q_cne hx hb r32 (q_r 5 rfl) (tgt := 166) dX11_findFlow_140 (by decide) h ?_ ?_
                  · clear h; intro g40 h
                    refine lv_aload_n hx hb dX11_findFlow_143 rfl (lv_at hl 0 rfl) ?_
                    refine q_getR hx hb hts hown hK hP fd_RX11_72 (Nat.le_of_ble_eq_true rfl) q_kdM_0 rfl q_rhM_0_30 dX11_findFlow_144 ?_
                    refine lv_iconst (v := q_I 2) hx hb dX11_findFlow_147 rfl ?_
                    refine lv_aload_n hx hb dX11_findFlow_148 rfl (lv_at hl 0 rfl) ?_
                    refine q_getR hx hb hts hown hK hP fd_RX11_35 (Nat.le_of_ble_eq_true rfl) q_kdM_0 rfl q_rhM_0_15 dX11_findFlow_149 ?_
                    refine lv_iload hx hb dX11_findFlow_152 (lv_at hl 3 rfl) ?_
                    refine q_iald hx hb hK hP (Nat.le_of_ble_eq_true rfl) q_kdM_9 r20 dX11_findFlow_154 h ?_
                    clear h; intro x35 r35 h
                    refine q_imul hx hb dX11_findFlow_155 h ?_
                    clear h; intro x36 r36 h
                    refine lv_iload_n hx hb dX11_findFlow_156 rfl (lv_at hl 1 rfl) ?_
                    refine q_iadd hx hb dX11_findFlow_157 h ?_
                    clear h; intro x37 r37 h
                    refine lv_aload_n hx hb dX11_findFlow_158 rfl (lv_at hl 0 rfl) ?_
                    refine q_getR hx hb hts hown hK hP fd_RX11_53 (Nat.le_of_ble_eq_true rfl) q_kdM_0 rfl q_rhM_0_21 dX11_findFlow_159 ?_
                    refine lv_iload hx hb dX11_findFlow_162 (lv_at hl 3 rfl) ?_
                    refine q_iald hx hb hK hP (Nat.le_of_ble_eq_true rfl) q_kdM_15 r20 dX11_findFlow_164 h ?_
                    clear h; intro x38 r38 h
                    refine q_iast hx hb hK hP hS hA (Nat.le_of_ble_eq_true rfl) q_kdM_21 r37 r38 dX11_findFlow_165 h ?_
                    clear h hP hS; intro μ39 H locs hP hS h
                    exact hj166 μ39 _ _ _ hP hS (lv_sub hl [0, 1, 2, 3] rfl) h
                  · clear h; intro g40 h
                    exact hj166 μ31 _ _ _ hP hS (lv_sub hl [0, 1, 2, 3] rfl) h
              · clear h; intro j132 hj132 h
                refine q_zlt hx hb r30 (tgt := 132) dX11_findFlow_105 (by decide) h ?_ ?_
                · clear h; intro g46 h
                  exact hj132 μ29 _ _ _ hP hS (lv_sub hl [0, 1, 2, 3] rfl) h
                · clear h; intro g46 h
                  refine lv_aload_n hx hb dX11_findFlow_108 rfl (lv_at hl 0 rfl) ?_
                  refine q_getR hx hb hts hown hK hP fd_RX11_69 (Nat.le_of_ble_eq_true rfl) q_kdM_0 rfl q_rhM_0_29 dX11_findFlow_109 ?_
                  refine lv_bipush (v := q_I 30) hx hb dX11_findFlow_112 (by decide) ?_
                  refine lv_iload_n hx hb dX11_findFlow_114 rfl (lv_at hl 1 rfl) ?_
                  refine q_imul hx hb dX11_findFlow_115 h ?_
                  clear h; intro x41 r41 h
                  refine lv_aload_n hx hb dX11_findFlow_116 rfl (lv_at hl 0 rfl) ?_
                  refine q_getR hx hb hts hown hK hP fd_RX11_50 (Nat.le_of_ble_eq_true rfl) q_kdM_0 rfl q_rhM_0_20 dX11_findFlow_117 ?_
                  refine lv_iload hx hb dX11_findFlow_120 (lv_at hl 3 rfl) ?_
                  refine q_iald hx hb hK hP (Nat.le_of_ble_eq_true rfl) q_kdM_14 r20 dX11_findFlow_122 h ?_
                  clear h; intro x42 r42 h
                  refine q_iadd hx hb dX11_findFlow_123 h ?_
                  clear h; intro x43 r43 h
                  refine lv_aload_n hx hb dX11_findFlow_124 rfl (lv_at hl 0 rfl) ?_
                  refine q_getR hx hb hts hown hK hP fd_RX11_53 (Nat.le_of_ble_eq_true rfl) q_kdM_0 rfl q_rhM_0_21 dX11_findFlow_125 ?_
                  refine lv_iload hx hb dX11_findFlow_128 (lv_at hl 3 rfl) ?_
                  refine q_iald hx hb hK hP (Nat.le_of_ble_eq_true rfl) q_kdM_15 r20 dX11_findFlow_130 h ?_
                  clear h; intro x44 r44 h
                  refine q_iast hx hb hK hP hS hA (Nat.le_of_ble_eq_true rfl) q_kdM_20 r43 r44 dX11_findFlow_131 h ?_
                  clear h hP hS; intro μ45 H locs hP hS h
                  exact hj132 μ45 _ _ _ hP hS (lv_sub hl [0, 1, 2, 3] rfl) h
        refine L65 _ ?_  _ 0 μ6 _ _ _ (q_r 0 rfl) hP hS (lv_sub hl [1, 2, 3, 0] rfl) h
        · clear h hl hP hS; intro μ22 H locs ls  hP hS hl h
          refine lv_iload_n hx hb dX11_findFlow_172 rfl (lv_at hl 0 rfl) ?_
          rw [← hQ]
          obtain ⟨hz, h⟩ := q_rz_some h
          exact q_retz2 hx hb hr hlocks hP hS hz h dX11_findFlow_173
set_option maxHeartbeats 4000000 in
set_option maxRecDepth 100000 in
theorem c_M_findRepair (l : Launch) (D : va_G) (dA : Nat → ClassId) {z sz : Nat} {N : Nat} {μ : q_M} {xo : Int} {μo : q_M} (h : f_M_findRepair N μ = some (xo, μo)) : Met l yX11_findRepair (q_wc yX11_findRepair cX11_findRepair 1 (some .int)) ({ frames := 6, cells := 0, slots := 0, locals := 142 } : Room) (va_Pc [.ref (z + 0)] (q_B (q_P D dA q_kdM q_rhoM 22 z sz μ) D dA)) (q_Q (some (.int (q_I xo))) (q_R xo) (q_P D dA q_kdM q_rhoM 22 z sz μo) (q_A z 22)) 0 0 (q_A z 22) := by
  refine Met.ofW (cc := cX11_findRepair) (maxL := 1) (ret := (some .int)) (by decide) rfl ?_
  intro p e s m args below meth c s₁ B hml hv
  obtain ⟨hargs, hP, hK⟩ := hv
  have hx := B.exec
  have hb := B.bytes
  have hr := B.returns
  have hts : ∀ w ∈ q_W, w.before args s = true := fun w hw => atoms_spec (ws := q_wc yX11_findRepair cX11_findRepair 1 (some .int)) B.pre w (List.mem_cons_of_mem _ hw)
  have hown : s.vm.findClass RX11 = some m.cls := findClass_of_methodNamed B.named
  have hlocks := B.notSynchronized
  have hS : va_S (q_A z 22) s.heap s.heap [] := va_S.rf
  have hA : ∀ k, k < 22 → q_A z 22 (z + k) := fun k hk => ⟨Nat.le_add_right z k, Nat.add_lt_add_left hk z⟩
  have hl := lv_entry [.ref (z + 0)] (n := 1) (Nat.le_of_ble_eq_true rfl)
  refine W.eq (by rw [hargs, lg_entry_eq]) ?_
  generalize (lg_sl [.ref (z + 0)] ++ List.replicate (1 - (lg_sl [.ref (z + 0)]).length) Slot.unset).toArray = ls at hl ⊢
  have hl : lv_has ls 1 [(0, .ref (z + 0))] := hl
  generalize hQ : MQ below _ args s 0 0 _ = Qf
  change W p l e ({ frames := 6, cells := 0, slots := 0, locals := 142 } : Room) s m args below meth c s.heap [] 0 0 Qf (F0 m 0 ls [])
  unfold f_M_findRepair at h
  refine lv_aload_n hx hb dX11_findRepair_0 rfl (lv_at hl 0 rfl) ?_
  obtain ⟨x2, hv1, h⟩ := q_b_some h
  refine q_callV hx hb hml hts hown hK hP hS (As := []) (rest := []) (st1 := [.int (q_I x2)]) cv_RX11_178 (c_M_orphansNow l D dA hv1) (Nat.le_of_ble_eq_true rfl) q_kdM_0 rfl ⟨rfl, rfl, Nat.le_of_ble_eq_true rfl, Nat.le_of_ble_eq_true rfl⟩ ⟨Nat.le_refl _, Nat.le_refl _⟩ rfl hl.1 rfl (Nat.le_of_ble_eq_true rfl) rfl (fun _ g => g) dX11_findRepair_1 ?_
  clear hP hS hv1; intro H locs r2 hP hS _
  refine q_zle hx hb r2 (tgt := 10) dX11_findRepair_4 (by decide) h ?_ ?_
  · clear h; intro g15 h
    refine lv_aload_n hx hb dX11_findRepair_10 rfl (lv_at hl 0 rfl) ?_
    refine lv_iconst (v := q_I 0) hx hb dX11_findRepair_11 rfl ?_
    refine q_putI hx hb hts hown hK hP hS hA fd_RX11_252 (Nat.le_of_ble_eq_true rfl) q_kdM_0 rfl (q_r 0 rfl) dX11_findRepair_12 h ?_
    clear h hP hS; intro μ3 H locs hP hS h
    refine lv_aload_n hx hb dX11_findRepair_15 rfl (lv_at hl 0 rfl) ?_
    refine lv_iconst (v := q_I 0) hx hb dX11_findRepair_16 rfl ?_
    obtain ⟨x5, μ6, hv4, h⟩ := q_b2_some h
    refine q_callV hx hb hml hts hown hK hP hS (As := [.int (q_I 0)]) (rest := []) (st1 := [.int (q_I x5)]) cv_RX11_255 (c_M_findFlow l D dA (q_r 0 rfl) hv4) (Nat.le_of_ble_eq_true rfl) q_kdM_0 rfl ⟨rfl, rfl, Nat.le_of_ble_eq_true rfl, Nat.le_of_ble_eq_true rfl⟩ ⟨Nat.le_refl _, Nat.le_refl _⟩ rfl hl.1 rfl (Nat.le_of_ble_eq_true rfl) rfl (fun _ g => g) dX11_findRepair_17 ?_
    clear hP hS hv4; intro H locs r5 hP hS _
    refine q_jn_in h (fun J => ∀ (x7 : Int) (μ8 : q_M) (H : Heap) (locs : List Loc) (ls : Array Slot), q_R x7 → q_P D dA q_kdM q_rhoM 22 z sz μ8 H → va_S (q_A z 22) s.heap H locs → lv_has ls 1 [] → J x7 μ8 = some (xo, μo) → W p l e ({ frames := 6, cells := 0, slots := 0, locals := 142 } : Room) s m args below meth c H locs 0 0 Qf (F0 m 37 ls [.int (q_I x7)])) ?_ ?_
    · clear h hl hP hS; intro x7 μ8 H locs ls r7 hP hS hl h
      rw [← hQ]
      exact q_ret2 hx hb hr hlocks hP hS r7 h dX11_findRepair_37
    · clear h; intro j37 hj37 h
      refine q_jn_in h (fun J => ∀ (μ9 : q_M) (H : Heap) (locs : List Loc) (ls : Array Slot), q_P D dA q_kdM q_rhoM 22 z sz μ9 H → va_S (q_A z 22) s.heap H locs → lv_has ls 1 [] → J μ9 = some (xo, μo) → W p l e ({ frames := 6, cells := 0, slots := 0, locals := 142 } : Room) s m args below meth c H locs 0 0 Qf (F0 m 35 ls [])) ?_ ?_
      · clear h hl hP hS; intro μ9 H locs ls  hP hS hl h
        refine lv_ldc hx hb hown (hts _ ck_RX11_127) dX11_findRepair_35 ?_
        exact hj37 ((-100006)) μ9 _ _ _ (q_r (-100006) rfl) hP hS (lv_sub hl [] rfl) h
      · clear h; intro j35 hj35 h
        refine q_zeq hx hb r5 (tgt := 35) dX11_findRepair_20 (by decide) h ?_ ?_
        · clear h; intro g14 h
          exact hj35 μ6 _ _ _ hP hS (lv_sub hl [] rfl) h
        · clear h; intro g14 h
          refine lv_aload_n hx hb dX11_findRepair_23 rfl (lv_at hl 0 rfl) ?_
          refine lv_iconst (v := q_I 1) hx hb dX11_findRepair_24 rfl ?_
          obtain ⟨x11, μ12, hv10, h⟩ := q_b2_some h
          refine q_callV hx hb hml hts hown hK hP hS (As := [.int (q_I 1)]) (rest := []) (st1 := [.int (q_I x11)]) cv_RX11_255 (c_M_findFlow l D dA (q_r 1 rfl) hv10) (Nat.le_of_ble_eq_true rfl) q_kdM_0 rfl ⟨rfl, rfl, Nat.le_of_ble_eq_true rfl, Nat.le_of_ble_eq_true rfl⟩ ⟨Nat.le_refl _, Nat.le_refl _⟩ rfl hl.1 rfl (Nat.le_of_ble_eq_true rfl) rfl (fun _ g => g) dX11_findRepair_25 ?_
          clear hP hS hv10; intro H locs r11 hP hS _
          refine q_zeq hx hb r11 (tgt := 35) dX11_findRepair_28 (by decide) h ?_ ?_
          · clear h; intro g13 h
            exact hj35 μ12 _ _ _ hP hS (lv_sub hl [] rfl) h
          · clear h; intro g13 h
            refine lv_iconst (v := q_I 0) hx hb dX11_findRepair_31 rfl ?_
            refine lv_goto (tgt := 37) hx hb dX11_findRepair_32 (by decide) ?_
            exact hj37 0 μ12 _ _ _ (q_r 0 rfl) hP hS (lv_sub hl [] rfl) h
  · clear h; intro g15 h
    refine lv_ldc hx hb hown (hts _ ck_RX11_125) dX11_findRepair_7 ?_
    rw [← hQ]
    exact q_ret2 hx hb hr hlocks hP hS (q_r (-100004) rfl) h dX11_findRepair_9
set_option maxHeartbeats 4000000 in
set_option maxRecDepth 100000 in
theorem c_M_repairCost (l : Launch) (D : va_G) (dA : Nat → ClassId) {z sz : Nat} {N : Nat} {μ : q_M} {xo : Int} {μo : q_M} (h : f_M_repairCost N μ = some (xo, μo)) : Met l yX11_repairCost (q_wc yX11_repairCost cX11_repairCost 2 (some .int)) ({ frames := 7, cells := 0, slots := 0, locals := 162 } : Room) (va_Pc [.ref (z + 0)] (q_B (q_P D dA q_kdM q_rhoM 22 z sz μ) D dA)) (q_Q (some (.int (q_I xo))) (q_R xo) (q_P D dA q_kdM q_rhoM 22 z sz μo) (q_A z 22)) 0 0 (q_A z 22) := by
  refine Met.ofW (cc := cX11_repairCost) (maxL := 2) (ret := (some .int)) (by decide) rfl ?_
  intro p e s m args below meth c s₁ B hml hv
  obtain ⟨hargs, hP, hK⟩ := hv
  have hx := B.exec
  have hb := B.bytes
  have hr := B.returns
  have hts : ∀ w ∈ q_W, w.before args s = true := fun w hw => atoms_spec (ws := q_wc yX11_repairCost cX11_repairCost 2 (some .int)) B.pre w (List.mem_cons_of_mem _ hw)
  have hown : s.vm.findClass RX11 = some m.cls := findClass_of_methodNamed B.named
  have hlocks := B.notSynchronized
  have hS : va_S (q_A z 22) s.heap s.heap [] := va_S.rf
  have hA : ∀ k, k < 22 → q_A z 22 (z + k) := fun k hk => ⟨Nat.le_add_right z k, Nat.add_lt_add_left hk z⟩
  have hl := lv_entry [.ref (z + 0)] (n := 2) (Nat.le_of_ble_eq_true rfl)
  refine W.eq (by rw [hargs, lg_entry_eq]) ?_
  generalize (lg_sl [.ref (z + 0)] ++ List.replicate (2 - (lg_sl [.ref (z + 0)]).length) Slot.unset).toArray = ls at hl ⊢
  have hl : lv_has ls 2 [(0, .ref (z + 0))] := hl
  generalize hQ : MQ below _ args s 0 0 _ = Qf
  change W p l e ({ frames := 7, cells := 0, slots := 0, locals := 162 } : Room) s m args below meth c s.heap [] 0 0 Qf (F0 m 0 ls [])
  unfold f_M_repairCost at h
  refine lv_aload_n hx hb dX11_repairCost_0 rfl (lv_at hl 0 rfl) ?_
  obtain ⟨x2, μ3, hv1, h⟩ := q_b2_some h
  refine q_callV hx hb hml hts hown hK hP hS (As := []) (rest := []) (st1 := [.int (q_I x2)]) cv_RX11_258 (c_M_findRepair l D dA hv1) (Nat.le_of_ble_eq_true rfl) q_kdM_0 rfl ⟨rfl, rfl, Nat.le_of_ble_eq_true rfl, Nat.le_of_ble_eq_true rfl⟩ ⟨Nat.le_refl _, Nat.le_refl _⟩ rfl hl.1 rfl (Nat.le_of_ble_eq_true rfl) rfl (fun _ g => g) dX11_repairCost_1 ?_
  clear hP hS hv1; intro H locs r2 hP hS _
  refine lv_istore_n (lv' := [(1, .int (q_I x2)), (0, .ref (z + 0))]) hx hb dX11_repairCost_4 rfl hl (by decide) rfl ?_
  clear hl; intro ls hl
  refine lv_iload_n hx hb dX11_repairCost_5 rfl (lv_at hl 0 rfl) ?_
  refine q_jn_in h (fun J => ∀ (x4 : Int) (H : Heap) (locs : List Loc) (ls : Array Slot), q_R x4 → q_P D dA q_kdM q_rhoM 22 z sz μ3 H → va_S (q_A z 22) s.heap H locs → lv_has ls 2 [] → J x4 = some (xo, μo) → W p l e ({ frames := 7, cells := 0, slots := 0, locals := 162 } : Room) s m args below meth c H locs 0 0 Qf (F0 m 17 ls [.int (q_I x4)])) ?_ ?_
  · clear h hl hP hS; intro x4 H locs ls r4 hP hS hl h
    rw [← hQ]
    exact q_ret2 hx hb hr hlocks hP hS r4 h dX11_repairCost_17
  · clear h; intro j17 hj17 h
    refine q_zge hx hb r2 (tgt := 13) dX11_repairCost_6 (by decide) h ?_ ?_
    · clear h; intro g6 h
      refine lv_aload_n hx hb dX11_repairCost_13 rfl (lv_at hl 1 rfl) ?_
      refine q_getI hx hb hts hown hK hP fd_RX11_252 (Nat.le_of_ble_eq_true rfl) q_kdM_0 rfl dX11_repairCost_14 h ?_
      clear h; intro x5 r5 h
      exact hj17 x5 _ _ _ r5 hP hS (lv_sub hl [] rfl) h
    · clear h; intro g6 h
      refine lv_iload_n hx hb dX11_repairCost_9 rfl (lv_at hl 0 rfl) ?_
      refine lv_goto (tgt := 17) hx hb dX11_repairCost_10 (by decide) ?_
      exact hj17 x2 _ _ _ r2 hP hS (lv_sub hl [] rfl) h
set_option maxHeartbeats 4000000 in
set_option maxRecDepth 100000 in
theorem c_M_moved (l : Launch) (D : va_G) (dA : Nat → ClassId) {z sz : Nat} {N : Nat} {a0 : Int} (ra0 : q_R a0) {a1 : Int} (ra1 : q_R a1) {a2 : Int} (ra2 : q_R a2) {μ : q_M} {xo : Int} {μo : q_M} (h : f_M_moved N a0 a1 a2 μ = some (xo, μo)) : Met l yX11_moved (q_wc yX11_moved cX11_moved 5 (some .int)) ({ frames := 7, cells := 0, slots := 0, locals := 162 } : Room) (va_Pc [.ref (z + 0), .int (q_I a0), .int (q_I a1), .int (q_I a2)] (q_B (q_P D dA q_kdM q_rhoM 22 z sz μ) D dA)) (q_Q (some (.int (q_I xo))) (q_R xo) (q_P D dA q_kdM q_rhoM 22 z sz μo) (q_A z 22)) 0 0 (q_A z 22) := by
  refine Met.ofW (cc := cX11_moved) (maxL := 5) (ret := (some .int)) (by decide) rfl ?_
  intro p e s m args below meth c s₁ B hml hv
  obtain ⟨hargs, hP, hK⟩ := hv
  have hx := B.exec
  have hb := B.bytes
  have hr := B.returns
  have hts : ∀ w ∈ q_W, w.before args s = true := fun w hw => atoms_spec (ws := q_wc yX11_moved cX11_moved 5 (some .int)) B.pre w (List.mem_cons_of_mem _ hw)
  have hown : s.vm.findClass RX11 = some m.cls := findClass_of_methodNamed B.named
  have hlocks := B.notSynchronized
  have hS : va_S (q_A z 22) s.heap s.heap [] := va_S.rf
  have hA : ∀ k, k < 22 → q_A z 22 (z + k) := fun k hk => ⟨Nat.le_add_right z k, Nat.add_lt_add_left hk z⟩
  have hl := lv_entry [.ref (z + 0), .int (q_I a0), .int (q_I a1), .int (q_I a2)] (n := 5) (Nat.le_of_ble_eq_true rfl)
  refine W.eq (by rw [hargs, lg_entry_eq]) ?_
  generalize (lg_sl [.ref (z + 0), .int (q_I a0), .int (q_I a1), .int (q_I a2)] ++ List.replicate (5 - (lg_sl [.ref (z + 0), .int (q_I a0), .int (q_I a1), .int (q_I a2)]).length) Slot.unset).toArray = ls at hl ⊢
  have hl : lv_has ls 5 [(0, .ref (z + 0)), (1, .int (q_I a0)), (2, .int (q_I a1)), (3, .int (q_I a2))] := hl
  generalize hQ : MQ below _ args s 0 0 _ = Qf
  change W p l e ({ frames := 7, cells := 0, slots := 0, locals := 162 } : Room) s m args below meth c s.heap [] 0 0 Qf (F0 m 0 ls [])
  unfold f_M_moved at h
  refine lv_aload_n hx hb dX11_moved_0 rfl (lv_at hl 0 rfl) ?_
  refine lv_iload_n hx hb dX11_moved_1 rfl (lv_at hl 1 rfl) ?_
  refine lv_iload_n hx hb dX11_moved_2 rfl (lv_at hl 2 rfl) ?_
  obtain ⟨x2, hv1, h⟩ := q_b_some h
  refine q_callV hx hb hml hts hown hK hP hS (As := [.int (q_I a0), .int (q_I a1)]) (rest := []) (st1 := [.int (q_I x2)]) cv_RX11_142 (c_M_noChannel l D dA ra0 ra1 hv1) (Nat.le_of_ble_eq_true rfl) q_kdM_0 rfl ⟨rfl, rfl, Nat.le_of_ble_eq_true rfl, Nat.le_of_ble_eq_true rfl⟩ ⟨Nat.le_refl _, Nat.le_refl _⟩ rfl hl.1 rfl (Nat.le_of_ble_eq_true rfl) rfl (fun _ g => g) dX11_moved_3 ?_
  clear hP hS hv1; intro H locs r2 hP hS _
  refine q_jn_in h (fun J => ∀ (H : Heap) (locs : List Loc) (ls : Array Slot), q_P D dA q_kdM q_rhoM 22 z sz μ H → va_S (q_A z 22) s.heap H locs → lv_has ls 5 [] → J = some (xo, μo) → W p l e ({ frames := 7, cells := 0, slots := 0, locals := 162 } : Room) s m args below meth c H locs 0 0 Qf (F0 m 18 ls [])) ?_ ?_
  · clear h hl hP hS; intro  H locs ls  hP hS hl h
    refine lv_ldc hx hb hown (hts _ ck_RX11_112) dX11_moved_18 ?_
    rw [← hQ]
    exact q_ret2 hx hb hr hlocks hP hS (q_r (-100001) rfl) h dX11_moved_20
  · clear h; intro j18 hj18 h
    refine q_zne hx hb r2 (tgt := 18) dX11_moved_6 (by decide) h ?_ ?_
    · clear h; intro g21 h
      refine lv_iload_n hx hb dX11_moved_9 rfl (lv_at hl 3 rfl) ?_
      refine lv_iconst (v := q_I 0) hx hb dX11_moved_10 rfl ?_
      refine lv_iconst (v := q_I 1) hx hb dX11_moved_11 rfl ?_
      obtain ⟨x4, hv3, h⟩ := q_b_some h
      refine q_callS hx hb hml hts hown hK hP hS (As := [.int (q_I a2), .int (q_I 0), .int (q_I 1)]) (rest := []) (st1 := [.int (q_I x4)]) cs_RX11_99 (c_M_in l D dA ra2 (q_r 0 rfl) (q_r 1 rfl) hv3) ⟨rfl, rfl, Nat.le_of_ble_eq_true rfl, Nat.le_of_ble_eq_true rfl⟩ ⟨Nat.le_refl _, Nat.le_refl _⟩ rfl hl.1 rfl (Nat.le_of_ble_eq_true rfl) rfl (fun _ g => g) dX11_moved_12 ?_
      clear hP hS hv3; intro H locs r4 hP hS _
      refine q_zne hx hb r4 (tgt := 21) dX11_moved_15 (by decide) h ?_ ?_
      · clear h; intro g20 h
        exact hj18  _ _ _ hP hS (lv_sub hl [] rfl) h
      · clear h; intro g20 h
        refine lv_aload_n hx hb dX11_moved_21 rfl (lv_at hl 0 rfl) ?_
        obtain ⟨x6, μ7, hv5, h⟩ := q_b2_some h
        refine q_callV hx hb hml hts hown hK hP hS (As := []) (rest := []) (st1 := [.int (q_I x6)]) cv_RX11_258 (c_M_findRepair l D dA hv5) (Nat.le_of_ble_eq_true rfl) q_kdM_0 rfl ⟨rfl, rfl, Nat.le_of_ble_eq_true rfl, Nat.le_of_ble_eq_true rfl⟩ ⟨Nat.le_refl _, Nat.le_refl _⟩ rfl hl.1 rfl (Nat.le_of_ble_eq_true rfl) rfl (fun _ g => g) dX11_moved_22 ?_
        clear hP hS hv5; intro H locs r6 hP hS _
        refine lv_istore (lv' := [(4, .int (q_I x6)), (0, .ref (z + 0)), (1, .int (q_I a0)), (2, .int (q_I a1)), (3, .int (q_I a2))]) hx hb dX11_moved_25 hl (by decide) rfl ?_
        clear hl; intro ls hl
        refine lv_iload hx hb dX11_moved_27 (lv_at hl 0 rfl) ?_
        refine q_jn_in h (fun J => ∀ (x8 : Int) (H : Heap) (locs : List Loc) (ls : Array Slot), q_R x8 → q_P D dA q_kdM q_rhoM 22 z sz μ7 H → va_S (q_A z 22) s.heap H locs → lv_has ls 5 [] → J x8 = some (xo, μo) → W p l e ({ frames := 7, cells := 0, slots := 0, locals := 162 } : Room) s m args below meth c H locs 0 0 Qf (F0 m 68 ls [.int (q_I x8)])) ?_ ?_
        · clear h hl hP hS; intro x8 H locs ls r8 hP hS hl h
          rw [← hQ]
          exact q_ret2 hx hb hr hlocks hP hS r8 h dX11_moved_68
        · clear h; intro j68 hj68 h
          refine q_zge hx hb r6 (tgt := 37) dX11_moved_29 (by decide) h ?_ ?_
          · clear h; intro g19 h
            refine lv_aload_n hx hb dX11_moved_37 rfl (lv_at hl 1 rfl) ?_
            refine q_getR hx hb hts hown hK hP fd_RX11_69 (Nat.le_of_ble_eq_true rfl) q_kdM_0 rfl q_rhM_0_29 dX11_moved_38 ?_
            refine lv_bipush (v := q_I 30) hx hb dX11_moved_41 (by decide) ?_
            refine lv_iload_n hx hb dX11_moved_43 rfl (lv_at hl 4 rfl) ?_
            refine q_imul hx hb dX11_moved_44 h ?_
            clear h; intro x9 r9 h
            refine lv_aload_n hx hb dX11_moved_45 rfl (lv_at hl 1 rfl) ?_
            refine q_getI hx hb hts hown hK hP fd_RX11_79 (Nat.le_of_ble_eq_true rfl) q_kdM_0 rfl dX11_moved_46 h ?_
            clear h; intro x10 r10 h
            refine lv_iconst (v := q_I 1) hx hb dX11_moved_49 rfl ?_
            refine q_isub hx hb dX11_moved_50 h ?_
            clear h; intro x11 r11 h
            refine lv_iload_n hx hb dX11_moved_51 rfl (lv_at hl 2 rfl) ?_
            refine q_imul hx hb dX11_moved_52 h ?_
            clear h; intro x12 r12 h
            refine q_iadd hx hb dX11_moved_53 h ?_
            clear h; intro x13 r13 h
            refine lv_iload_n hx hb dX11_moved_54 rfl (lv_at hl 3 rfl) ?_
            refine lv_iload_n hx hb dX11_moved_55 rfl (lv_at hl 2 rfl) ?_
            refine q_jn_in h (fun J => ∀ (x14 : Int) (H : Heap) (locs : List Loc) (ls : Array Slot), q_R x14 → q_P D dA q_kdM q_rhoM 22 z sz μ7 H → va_S (q_A z 22) s.heap H locs → lv_has ls 5 [] → J x14 = some (xo, μo) → W p l e ({ frames := 7, cells := 0, slots := 0, locals := 162 } : Room) s m args below meth c H locs 0 0 Qf (F0 m 66 ls [.int (q_I x14), .int (q_I x13), .ref (z + 20)])) ?_ ?_
            · clear h hl hP hS; intro x14 H locs ls r14 hP hS hl h
              refine q_iadd hx hb dX11_moved_66 h ?_
              clear h; intro x15 r15 h
              refine q_iald hx hb hK hP (Nat.le_of_ble_eq_true rfl) q_kdM_20 r15 dX11_moved_67 h ?_
              clear h; intro x16 r16 h
              exact hj68 x16 _ _ _ r16 hP hS (lv_sub hl [] rfl) h
            · clear h; intro j66 hj66 h
              refine q_cle hx hb ra1 ra0 (tgt := 65) dX11_moved_56 (by decide) h ?_ ?_
              · clear h; intro g18 h
                refine lv_iload_n hx hb dX11_moved_65 rfl (lv_at hl 3 rfl) ?_
                exact hj66 a1 _ _ _ ra1 hP hS (lv_sub hl [] rfl) h
              · clear h; intro g18 h
                refine lv_iload_n hx hb dX11_moved_59 rfl (lv_at hl 3 rfl) ?_
                refine lv_iconst (v := q_I 1) hx hb dX11_moved_60 rfl ?_
                refine q_isub hx hb dX11_moved_61 h ?_
                clear h; intro x17 r17 h
                refine lv_goto (tgt := 66) hx hb dX11_moved_62 (by decide) ?_
                exact hj66 x17 _ _ _ r17 hP hS (lv_sub hl [] rfl) h
          · clear h; intro g19 h
            refine lv_iload hx hb dX11_moved_32 (lv_at hl 0 rfl) ?_
            refine lv_goto (tgt := 68) hx hb dX11_moved_34 (by decide) ?_
            exact hj68 x6 _ _ _ r6 hP hS (lv_sub hl [] rfl) h
    · clear h; intro g21 h
      exact hj18  _ _ _ hP hS (lv_sub hl [] rfl) h
set_option maxHeartbeats 4000000 in
set_option maxRecDepth 100000 in
theorem c_M_outside (l : Launch) (D : va_G) (dA : Nat → ClassId) {z sz : Nat} {N : Nat} {a0 : Int} (ra0 : q_R a0) {a1 : Int} (ra1 : q_R a1) {a2 : Int} (ra2 : q_R a2) {μ : q_M} {xo : Int} {μo : q_M} (h : f_M_outside N a0 a1 a2 μ = some (xo, μo)) : Met l yX11_outside (q_wc yX11_outside cX11_outside 5 (some .int)) ({ frames := 7, cells := 0, slots := 0, locals := 162 } : Room) (va_Pc [.ref (z + 0), .int (q_I a0), .int (q_I a1), .int (q_I a2)] (q_B (q_P D dA q_kdM q_rhoM 22 z sz μ) D dA)) (q_Q (some (.int (q_I xo))) (q_R xo) (q_P D dA q_kdM q_rhoM 22 z sz μo) (q_A z 22)) 0 0 (q_A z 22) := by
  refine Met.ofW (cc := cX11_outside) (maxL := 5) (ret := (some .int)) (by decide) rfl ?_
  intro p e s m args below meth c s₁ B hml hv
  obtain ⟨hargs, hP, hK⟩ := hv
  have hx := B.exec
  have hb := B.bytes
  have hr := B.returns
  have hts : ∀ w ∈ q_W, w.before args s = true := fun w hw => atoms_spec (ws := q_wc yX11_outside cX11_outside 5 (some .int)) B.pre w (List.mem_cons_of_mem _ hw)
  have hown : s.vm.findClass RX11 = some m.cls := findClass_of_methodNamed B.named
  have hlocks := B.notSynchronized
  have hS : va_S (q_A z 22) s.heap s.heap [] := va_S.rf
  have hA : ∀ k, k < 22 → q_A z 22 (z + k) := fun k hk => ⟨Nat.le_add_right z k, Nat.add_lt_add_left hk z⟩
  have hl := lv_entry [.ref (z + 0), .int (q_I a0), .int (q_I a1), .int (q_I a2)] (n := 5) (Nat.le_of_ble_eq_true rfl)
  refine W.eq (by rw [hargs, lg_entry_eq]) ?_
  generalize (lg_sl [.ref (z + 0), .int (q_I a0), .int (q_I a1), .int (q_I a2)] ++ List.replicate (5 - (lg_sl [.ref (z + 0), .int (q_I a0), .int (q_I a1), .int (q_I a2)]).length) Slot.unset).toArray = ls at hl ⊢
  have hl : lv_has ls 5 [(0, .ref (z + 0)), (1, .int (q_I a0)), (2, .int (q_I a1)), (3, .int (q_I a2))] := hl
  generalize hQ : MQ below _ args s 0 0 _ = Qf
  change W p l e ({ frames := 7, cells := 0, slots := 0, locals := 162 } : Room) s m args below meth c s.heap [] 0 0 Qf (F0 m 0 ls [])
  unfold f_M_outside at h
  refine lv_aload_n hx hb dX11_outside_0 rfl (lv_at hl 0 rfl) ?_
  refine lv_iload_n hx hb dX11_outside_1 rfl (lv_at hl 1 rfl) ?_
  refine lv_iload_n hx hb dX11_outside_2 rfl (lv_at hl 2 rfl) ?_
  obtain ⟨x2, hv1, h⟩ := q_b_some h
  refine q_callV hx hb hml hts hown hK hP hS (As := [.int (q_I a0), .int (q_I a1)]) (rest := []) (st1 := [.int (q_I x2)]) cv_RX11_108 (c_M_noStock l D dA ra0 ra1 hv1) (Nat.le_of_ble_eq_true rfl) q_kdM_0 rfl ⟨rfl, rfl, Nat.le_of_ble_eq_true rfl, Nat.le_of_ble_eq_true rfl⟩ ⟨Nat.le_refl _, Nat.le_refl _⟩ rfl hl.1 rfl (Nat.le_of_ble_eq_true rfl) rfl (fun _ g => g) dX11_outside_3 ?_
  clear hP hS hv1; intro H locs r2 hP hS _
  refine q_zeq hx hb r2 (tgt := 12) dX11_outside_6 (by decide) h ?_ ?_
  · clear h; intro g20 h
    refine lv_aload_n hx hb dX11_outside_12 rfl (lv_at hl 0 rfl) ?_
    obtain ⟨x4, μ5, hv3, h⟩ := q_b2_some h
    refine q_callV hx hb hml hts hown hK hP hS (As := []) (rest := []) (st1 := [.int (q_I x4)]) cv_RX11_258 (c_M_findRepair l D dA hv3) (Nat.le_of_ble_eq_true rfl) q_kdM_0 rfl ⟨rfl, rfl, Nat.le_of_ble_eq_true rfl, Nat.le_of_ble_eq_true rfl⟩ ⟨Nat.le_refl _, Nat.le_refl _⟩ rfl hl.1 rfl (Nat.le_of_ble_eq_true rfl) rfl (fun _ g => g) dX11_outside_13 ?_
    clear hP hS hv3; intro H locs r4 hP hS _
    refine lv_istore (lv' := [(4, .int (q_I x4)), (0, .ref (z + 0)), (1, .int (q_I a0)), (2, .int (q_I a1)), (3, .int (q_I a2))]) hx hb dX11_outside_16 hl (by decide) rfl ?_
    clear hl; intro ls hl
    refine lv_iload hx hb dX11_outside_18 (lv_at hl 0 rfl) ?_
    refine q_jn_in h (fun J => ∀ (x6 : Int) (H : Heap) (locs : List Loc) (ls : Array Slot), q_R x6 → q_P D dA q_kdM q_rhoM 22 z sz μ5 H → va_S (q_A z 22) s.heap H locs → lv_has ls 5 [] → J x6 = some (xo, μo) → W p l e ({ frames := 7, cells := 0, slots := 0, locals := 162 } : Room) s m args below meth c H locs 0 0 Qf (F0 m 64 ls [.int (q_I x6)])) ?_ ?_
    · clear h hl hP hS; intro x6 H locs ls r6 hP hS hl h
      rw [← hQ]
      exact q_ret2 hx hb hr hlocks hP hS r6 h dX11_outside_64
    · clear h; intro j64 hj64 h
      refine q_zge hx hb r4 (tgt := 28) dX11_outside_20 (by decide) h ?_ ?_
      · clear h; intro g19 h
        refine lv_aload_n hx hb dX11_outside_28 rfl (lv_at hl 1 rfl) ?_
        refine q_getR hx hb hts hown hK hP fd_RX11_69 (Nat.le_of_ble_eq_true rfl) q_kdM_0 rfl q_rhM_0_29 dX11_outside_29 ?_
        refine lv_bipush (v := q_I 30) hx hb dX11_outside_32 (by decide) ?_
        refine lv_iload_n hx hb dX11_outside_34 rfl (lv_at hl 3 rfl) ?_
        refine q_imul hx hb dX11_outside_35 h ?_
        clear h; intro x7 r7 h
        refine lv_aload_n hx hb dX11_outside_36 rfl (lv_at hl 1 rfl) ?_
        refine q_getI hx hb hts hown hK hP fd_RX11_79 (Nat.le_of_ble_eq_true rfl) q_kdM_0 rfl dX11_outside_37 h ?_
        clear h; intro x8 r8 h
        refine lv_aload_n hx hb dX11_outside_40 rfl (lv_at hl 1 rfl) ?_
        refine q_getI hx hb hts hown hK hP fd_RX11_79 (Nat.le_of_ble_eq_true rfl) q_kdM_0 rfl dX11_outside_41 h ?_
        clear h; intro x9 r9 h
        refine lv_iconst (v := q_I 1) hx hb dX11_outside_44 rfl ?_
        refine q_isub hx hb dX11_outside_45 h ?_
        clear h; intro x10 r10 h
        refine q_imul hx hb dX11_outside_46 h ?_
        clear h; intro x11 r11 h
        refine q_iadd hx hb dX11_outside_47 h ?_
        clear h; intro x12 r12 h
        refine lv_iload_n hx hb dX11_outside_48 rfl (lv_at hl 4 rfl) ?_
        refine q_jn_in h (fun J => ∀ (x13 : Int) (H : Heap) (locs : List Loc) (ls : Array Slot), q_R x13 → q_P D dA q_kdM q_rhoM 22 z sz μ5 H → va_S (q_A z 22) s.heap H locs → lv_has ls 5 [(1, .int (q_I a0))] → J x13 = some (xo, μo) → W p l e ({ frames := 7, cells := 0, slots := 0, locals := 162 } : Room) s m args below meth c H locs 0 0 Qf (F0 m 60 ls [.int (q_I x13), .int (q_I x12), .ref (z + 20)])) ?_ ?_
        · clear h hl hP hS; intro x13 H locs ls r13 hP hS hl h
          refine q_iadd hx hb dX11_outside_60 h ?_
          clear h; intro x14 r14 h
          refine lv_iload_n hx hb dX11_outside_61 rfl (lv_at hl 0 rfl) ?_
          refine q_iadd hx hb dX11_outside_62 h ?_
          clear h; intro x15 r15 h
          refine q_iald hx hb hK hP (Nat.le_of_ble_eq_true rfl) q_kdM_20 r15 dX11_outside_63 h ?_
          clear h; intro x16 r16 h
          exact hj64 x16 _ _ _ r16 hP hS (lv_sub hl [] rfl) h
        · clear h; intro j60 hj60 h
          refine q_zeq hx hb ra2 (tgt := 59) dX11_outside_49 (by decide) h ?_ ?_
          · clear h; intro g18 h
            refine lv_iconst (v := q_I 0) hx hb dX11_outside_59 rfl ?_
            exact hj60 0 _ _ _ (q_r 0 rfl) hP hS (lv_sub hl [2] rfl) h
          · clear h; intro g18 h
            refine lv_aload_n hx hb dX11_outside_52 rfl (lv_at hl 1 rfl) ?_
            refine q_getI hx hb hts hown hK hP fd_RX11_79 (Nat.le_of_ble_eq_true rfl) q_kdM_0 rfl dX11_outside_53 h ?_
            clear h; intro x17 r17 h
            refine lv_goto (tgt := 60) hx hb dX11_outside_56 (by decide) ?_
            exact hj60 x17 _ _ _ r17 hP hS (lv_sub hl [2] rfl) h
      · clear h; intro g19 h
        refine lv_iload hx hb dX11_outside_23 (lv_at hl 0 rfl) ?_
        refine lv_goto (tgt := 64) hx hb dX11_outside_25 (by decide) ?_
        exact hj64 x4 _ _ _ r4 hP hS (lv_sub hl [] rfl) h
  · clear h; intro g20 h
    refine lv_ldc hx hb hown (hts _ ck_RX11_112) dX11_outside_9 ?_
    rw [← hQ]
    exact q_ret2 hx hb hr hlocks hP hS (q_r (-100001) rfl) h dX11_outside_11
set_option maxHeartbeats 4000000 in
set_option maxRecDepth 100000 in
theorem c_M_repairedStock (l : Launch) (D : va_G) (dA : Nat → ClassId) {z sz : Nat} {N : Nat} {a0 : Int} (ra0 : q_R a0) {a1 : Int} (ra1 : q_R a1) {μ : q_M} {xo : Int} {μo : q_M} (h : f_M_repairedStock N a0 a1 μ = some (xo, μo)) : Met l yX11_repairedStock (q_wc yX11_repairedStock cX11_repairedStock 4 (some .int)) ({ frames := 7, cells := 0, slots := 0, locals := 162 } : Room) (va_Pc [.ref (z + 0), .int (q_I a0), .int (q_I a1)] (q_B (q_P D dA q_kdM q_rhoM 22 z sz μ) D dA)) (q_Q (some (.int (q_I xo))) (q_R xo) (q_P D dA q_kdM q_rhoM 22 z sz μo) (q_A z 22)) 0 0 (q_A z 22) := by
  refine Met.ofW (cc := cX11_repairedStock) (maxL := 4) (ret := (some .int)) (by decide) rfl ?_
  intro p e s m args below meth c s₁ B hml hv
  obtain ⟨hargs, hP, hK⟩ := hv
  have hx := B.exec
  have hb := B.bytes
  have hr := B.returns
  have hts : ∀ w ∈ q_W, w.before args s = true := fun w hw => atoms_spec (ws := q_wc yX11_repairedStock cX11_repairedStock 4 (some .int)) B.pre w (List.mem_cons_of_mem _ hw)
  have hown : s.vm.findClass RX11 = some m.cls := findClass_of_methodNamed B.named
  have hlocks := B.notSynchronized
  have hS : va_S (q_A z 22) s.heap s.heap [] := va_S.rf
  have hA : ∀ k, k < 22 → q_A z 22 (z + k) := fun k hk => ⟨Nat.le_add_right z k, Nat.add_lt_add_left hk z⟩
  have hl := lv_entry [.ref (z + 0), .int (q_I a0), .int (q_I a1)] (n := 4) (Nat.le_of_ble_eq_true rfl)
  refine W.eq (by rw [hargs, lg_entry_eq]) ?_
  generalize (lg_sl [.ref (z + 0), .int (q_I a0), .int (q_I a1)] ++ List.replicate (4 - (lg_sl [.ref (z + 0), .int (q_I a0), .int (q_I a1)]).length) Slot.unset).toArray = ls at hl ⊢
  have hl : lv_has ls 4 [(0, .ref (z + 0)), (1, .int (q_I a0)), (2, .int (q_I a1))] := hl
  generalize hQ : MQ below _ args s 0 0 _ = Qf
  change W p l e ({ frames := 7, cells := 0, slots := 0, locals := 162 } : Room) s m args below meth c s.heap [] 0 0 Qf (F0 m 0 ls [])
  unfold f_M_repairedStock at h
  refine lv_aload_n hx hb dX11_repairedStock_0 rfl (lv_at hl 0 rfl) ?_
  refine lv_iload_n hx hb dX11_repairedStock_1 rfl (lv_at hl 1 rfl) ?_
  refine lv_iload_n hx hb dX11_repairedStock_2 rfl (lv_at hl 2 rfl) ?_
  obtain ⟨x2, hv1, h⟩ := q_b_some h
  refine q_callV hx hb hml hts hown hK hP hS (As := [.int (q_I a0), .int (q_I a1)]) (rest := []) (st1 := [.int (q_I x2)]) cv_RX11_108 (c_M_noStock l D dA ra0 ra1 hv1) (Nat.le_of_ble_eq_true rfl) q_kdM_0 rfl ⟨rfl, rfl, Nat.le_of_ble_eq_true rfl, Nat.le_of_ble_eq_true rfl⟩ ⟨Nat.le_refl _, Nat.le_refl _⟩ rfl hl.1 rfl (Nat.le_of_ble_eq_true rfl) rfl (fun _ g => g) dX11_repairedStock_3 ?_
  clear hP hS hv1; intro H locs r2 hP hS _
  refine q_zeq hx hb r2 (tgt := 12) dX11_repairedStock_6 (by decide) h ?_ ?_
  · clear h; intro g11 h
    refine lv_aload_n hx hb dX11_repairedStock_12 rfl (lv_at hl 0 rfl) ?_
    obtain ⟨x4, μ5, hv3, h⟩ := q_b2_some h
    refine q_callV hx hb hml hts hown hK hP hS (As := []) (rest := []) (st1 := [.int (q_I x4)]) cv_RX11_258 (c_M_findRepair l D dA hv3) (Nat.le_of_ble_eq_true rfl) q_kdM_0 rfl ⟨rfl, rfl, Nat.le_of_ble_eq_true rfl, Nat.le_of_ble_eq_true rfl⟩ ⟨Nat.le_refl _, Nat.le_refl _⟩ rfl hl.1 rfl (Nat.le_of_ble_eq_true rfl) rfl (fun _ g => g) dX11_repairedStock_13 ?_
    clear hP hS hv3; intro H locs r4 hP hS _
    refine lv_istore_n (lv' := [(3, .int (q_I x4)), (0, .ref (z + 0)), (1, .int (q_I a0)), (2, .int (q_I a1))]) hx hb dX11_repairedStock_16 rfl hl (by decide) rfl ?_
    clear hl; intro ls hl
    refine lv_iload_n hx hb dX11_repairedStock_17 rfl (lv_at hl 0 rfl) ?_
    refine q_jn_in h (fun J => ∀ (x6 : Int) (H : Heap) (locs : List Loc) (ls : Array Slot), q_R x6 → q_P D dA q_kdM q_rhoM 22 z sz μ5 H → va_S (q_A z 22) s.heap H locs → lv_has ls 4 [] → J x6 = some (xo, μo) → W p l e ({ frames := 7, cells := 0, slots := 0, locals := 162 } : Room) s m args below meth c H locs 0 0 Qf (F0 m 35 ls [.int (q_I x6)])) ?_ ?_
    · clear h hl hP hS; intro x6 H locs ls r6 hP hS hl h
      rw [← hQ]
      exact q_ret2 hx hb hr hlocks hP hS r6 h dX11_repairedStock_35
    · clear h; intro j35 hj35 h
      refine q_zge hx hb r4 (tgt := 25) dX11_repairedStock_18 (by decide) h ?_ ?_
      · clear h; intro g10 h
        refine lv_aload_n hx hb dX11_repairedStock_25 rfl (lv_at hl 1 rfl) ?_
        refine q_getR hx hb hts hown hK hP fd_RX11_72 (Nat.le_of_ble_eq_true rfl) q_kdM_0 rfl q_rhM_0_30 dX11_repairedStock_26 ?_
        refine lv_iconst (v := q_I 2) hx hb dX11_repairedStock_29 rfl ?_
        refine lv_iload_n hx hb dX11_repairedStock_30 rfl (lv_at hl 2 rfl) ?_
        refine q_imul hx hb dX11_repairedStock_31 h ?_
        clear h; intro x7 r7 h
        refine lv_iload_n hx hb dX11_repairedStock_32 rfl (lv_at hl 3 rfl) ?_
        refine q_iadd hx hb dX11_repairedStock_33 h ?_
        clear h; intro x8 r8 h
        refine q_iald hx hb hK hP (Nat.le_of_ble_eq_true rfl) q_kdM_21 r8 dX11_repairedStock_34 h ?_
        clear h; intro x9 r9 h
        exact hj35 x9 _ _ _ r9 hP hS (lv_sub hl [] rfl) h
      · clear h; intro g10 h
        refine lv_iload_n hx hb dX11_repairedStock_21 rfl (lv_at hl 0 rfl) ?_
        refine lv_goto (tgt := 35) hx hb dX11_repairedStock_22 (by decide) ?_
        exact hj35 x4 _ _ _ r4 hP hS (lv_sub hl [] rfl) h
  · clear h; intro g11 h
    refine lv_ldc hx hb hown (hts _ ck_RX11_112) dX11_repairedStock_9 ?_
    rw [← hQ]
    exact q_ret2 hx hb hr hlocks hP hS (q_r (-100001) rfl) h dX11_repairedStock_11
set_option maxHeartbeats 4000000 in
set_option maxRecDepth 100000 in
theorem c_M_happensAgain (l : Launch) (D : va_G) (dA : Nat → ClassId) {z sz : Nat} {N : Nat} {a0 : Int} (ra0 : q_R a0) {μ : q_M} {xo : Int} {μo : q_M} (h : f_M_happensAgain N a0 μ = some (xo, μo)) : Met l yX11_happensAgain (q_wc yX11_happensAgain cX11_happensAgain 7 (some .boolean)) ({ frames := 4, cells := 0, slots := 0, locals := 94 } : Room) (va_Pc [.ref (z + 0), .int (q_I a0)] (q_B (q_P D dA q_kdM q_rhoM 22 z sz μ) D dA)) (q_Q (some (.int (q_I xo))) (q_R xo) (q_P D dA q_kdM q_rhoM 22 z sz μo) (q_A z 22)) 0 0 (q_A z 22) := by
  refine Met.ofW (cc := cX11_happensAgain) (maxL := 7) (ret := (some .boolean)) (by decide) rfl ?_
  intro p e s m args below meth c s₁ B hml hv
  obtain ⟨hargs, hP, hK⟩ := hv
  have hx := B.exec
  have hb := B.bytes
  have hr := B.returns
  have hts : ∀ w ∈ q_W, w.before args s = true := fun w hw => atoms_spec (ws := q_wc yX11_happensAgain cX11_happensAgain 7 (some .boolean)) B.pre w (List.mem_cons_of_mem _ hw)
  have hown : s.vm.findClass RX11 = some m.cls := findClass_of_methodNamed B.named
  have hlocks := B.notSynchronized
  have hS : va_S (q_A z 22) s.heap s.heap [] := va_S.rf
  have hA : ∀ k, k < 22 → q_A z 22 (z + k) := fun k hk => ⟨Nat.le_add_right z k, Nat.add_lt_add_left hk z⟩
  have hl := lv_entry [.ref (z + 0), .int (q_I a0)] (n := 7) (Nat.le_of_ble_eq_true rfl)
  refine W.eq (by rw [hargs, lg_entry_eq]) ?_
  generalize (lg_sl [.ref (z + 0), .int (q_I a0)] ++ List.replicate (7 - (lg_sl [.ref (z + 0), .int (q_I a0)]).length) Slot.unset).toArray = ls at hl ⊢
  have hl : lv_has ls 7 [(0, .ref (z + 0)), (1, .int (q_I a0))] := hl
  generalize hQ : MQ below _ args s 0 0 _ = Qf
  change W p l e ({ frames := 4, cells := 0, slots := 0, locals := 94 } : Room) s m args below meth c s.heap [] 0 0 Qf (F0 m 0 ls [])
  unfold f_M_happensAgain at h
  refine lv_aload_n hx hb dX11_happensAgain_0 rfl (lv_at hl 0 rfl) ?_
  refine q_getR hx hb hts hown hK hP fd_RX11_13 (Nat.le_of_ble_eq_true rfl) q_kdM_0 rfl q_rhM_0_2 dX11_happensAgain_1 ?_
  refine lv_iload_n hx hb dX11_happensAgain_4 rfl (lv_at hl 1 rfl) ?_
  refine q_iald hx hb hK hP (Nat.le_of_ble_eq_true rfl) q_kdM_2 ra0 dX11_happensAgain_5 h ?_
  clear h; intro x1 r1 h
  refine lv_istore_n (lv' := [(2, .int (q_I x1)), (0, .ref (z + 0)), (1, .int (q_I a0))]) hx hb dX11_happensAgain_6 rfl hl (by decide) rfl ?_
  clear hl; intro ls hl
  refine lv_aload_n hx hb dX11_happensAgain_7 rfl (lv_at hl 1 rfl) ?_
  refine q_getR hx hb hts hown hK hP fd_RX11_13 (Nat.le_of_ble_eq_true rfl) q_kdM_0 rfl q_rhM_0_2 dX11_happensAgain_8 ?_
  refine lv_iload_n hx hb dX11_happensAgain_11 rfl (lv_at hl 2 rfl) ?_
  refine lv_iconst (v := q_I 1) hx hb dX11_happensAgain_12 rfl ?_
  refine q_iadd hx hb dX11_happensAgain_13 h ?_
  clear h; intro x2 r2 h
  refine q_iald hx hb hK hP (Nat.le_of_ble_eq_true rfl) q_kdM_2 r2 dX11_happensAgain_14 h ?_
  clear h; intro x3 r3 h
  refine lv_istore_n (lv' := [(3, .int (q_I x3)), (2, .int (q_I x1)), (0, .ref (z + 0)), (1, .int (q_I a0))]) hx hb dX11_happensAgain_15 rfl hl (by decide) rfl ?_
  clear hl; intro ls hl
  refine lv_aload_n hx hb dX11_happensAgain_16 rfl (lv_at hl 2 rfl) ?_
  refine q_getR hx hb hts hown hK hP fd_RX11_13 (Nat.le_of_ble_eq_true rfl) q_kdM_0 rfl q_rhM_0_2 dX11_happensAgain_17 ?_
  refine lv_iload_n hx hb dX11_happensAgain_20 rfl (lv_at hl 3 rfl) ?_
  refine lv_iconst (v := q_I 4) hx hb dX11_happensAgain_21 rfl ?_
  refine q_iadd hx hb dX11_happensAgain_22 h ?_
  clear h; intro x4 r4 h
  refine q_iald hx hb hK hP (Nat.le_of_ble_eq_true rfl) q_kdM_2 r4 dX11_happensAgain_23 h ?_
  clear h; intro x5 r5 h
  refine lv_istore (lv' := [(4, .int (q_I x5)), (3, .int (q_I x3)), (2, .int (q_I x1)), (0, .ref (z + 0)), (1, .int (q_I a0))]) hx hb dX11_happensAgain_24 hl (by decide) rfl ?_
  clear hl; intro ls hl
  refine lv_iload_n hx hb dX11_happensAgain_26 rfl (lv_at hl 1 rfl) ?_
  refine lv_iconst (v := q_I 2) hx hb dX11_happensAgain_27 rfl ?_
  refine q_jn_in h (fun J => ∀ (x6 : Int) (H : Heap) (locs : List Loc) (ls : Array Slot), q_R x6 → q_P D dA q_kdM q_rhoM 22 z sz μ H → va_S (q_A z 22) s.heap H locs → lv_has ls 7 [(0, .ref (z + 0)), (1, .int (q_I a0)), (2, .int (q_I x1)), (3, .int (q_I x3)), (4, .int (q_I x5))] → J x6 = some (xo, μo) → W p l e ({ frames := 4, cells := 0, slots := 0, locals := 94 } : Room) s m args below meth c H locs 0 0 Qf (F0 m 43 ls [.int (q_I x6)])) ?_ ?_
  · clear h hl hP hS; intro x6 H locs ls r6 hP hS hl h
    refine lv_istore (lv' := [(5, .int (q_I x6)), (0, .ref (z + 0)), (1, .int (q_I a0)), (2, .int (q_I x1)), (3, .int (q_I x3)), (4, .int (q_I x5))]) hx hb dX11_happensAgain_43 hl (by decide) rfl ?_
    clear hl; intro ls hl
    refine lv_iload_n hx hb dX11_happensAgain_45 rfl (lv_at hl 4 rfl) ?_
    refine q_jn_in h (fun J => ∀ (x7 : Int) (μ8 : q_M) (H : Heap) (locs : List Loc) (ls : Array Slot), q_R x7 → q_P D dA q_kdM q_rhoM 22 z sz μ8 H → va_S (q_A z 22) s.heap H locs → lv_has ls 7 [] → J x7 μ8 = some (xo, μo) → W p l e ({ frames := 4, cells := 0, slots := 0, locals := 94 } : Room) s m args below meth c H locs 0 0 Qf (F0 m 130 ls [.int (q_I x7)])) ?_ ?_
    · clear h hl hP hS; intro x7 μ8 H locs ls r7 hP hS hl h
      refine lv_istore (lv' := [(6, .int (q_I x7))]) hx hb dX11_happensAgain_130 hl (by decide) rfl ?_
      clear hl; intro ls hl
      refine lv_iload hx hb dX11_happensAgain_132 (lv_at hl 0 rfl) ?_
      refine q_jn_in h (fun J => ∀ (x9 : Int) (H : Heap) (locs : List Loc) (ls : Array Slot), q_R x9 → q_P D dA q_kdM q_rhoM 22 z sz μ8 H → va_S (q_A z 22) s.heap H locs → lv_has ls 7 [] → J x9 = some (xo, μo) → W p l e ({ frames := 4, cells := 0, slots := 0, locals := 94 } : Room) s m args below meth c H locs 0 0 Qf (F0 m 142 ls [.int (q_I x9)])) ?_ ?_
      · clear h hl hP hS; intro x9 H locs ls r9 hP hS hl h
        rw [← hQ]
        obtain ⟨hz, h⟩ := q_rz_some h
        exact q_retz2 hx hb hr hlocks hP hS hz h dX11_happensAgain_142
      · clear h; intro j142 hj142 h
        refine q_zlt hx hb r7 (tgt := 141) dX11_happensAgain_134 (by decide) h ?_ ?_
        · clear h; intro g10 h
          refine lv_iconst (v := q_I 0) hx hb dX11_happensAgain_141 rfl ?_
          exact hj142 0 _ _ _ (q_r 0 rfl) hP hS (lv_sub hl [] rfl) h
        · clear h; intro g10 h
          refine lv_iconst (v := q_I 1) hx hb dX11_happensAgain_137 rfl ?_
          refine lv_goto (tgt := 142) hx hb dX11_happensAgain_138 (by decide) ?_
          exact hj142 1 _ _ _ (q_r 1 rfl) hP hS (lv_sub hl [] rfl) h
    · clear h; intro j130 hj130 h
      refine q_zne hx hb r3 (tgt := 73) dX11_happensAgain_46 (by decide) h ?_ ?_
      · clear h; intro g31 h
        refine lv_aload_n hx hb dX11_happensAgain_49 rfl (lv_at hl 1 rfl) ?_
        refine lv_iload_n hx hb dX11_happensAgain_50 rfl (lv_at hl 3 rfl) ?_
        refine lv_aload_n hx hb dX11_happensAgain_51 rfl (lv_at hl 1 rfl) ?_
        refine q_getR hx hb hts hown hK hP fd_RX11_13 (Nat.le_of_ble_eq_true rfl) q_kdM_0 rfl q_rhM_0_2 dX11_happensAgain_52 ?_
        refine lv_iload_n hx hb dX11_happensAgain_55 rfl (lv_at hl 2 rfl) ?_
        refine lv_iconst (v := q_I 2) hx hb dX11_happensAgain_56 rfl ?_
        refine q_iadd hx hb dX11_happensAgain_57 h ?_
        clear h; intro x24 r24 h
        refine q_iald hx hb hK hP (Nat.le_of_ble_eq_true rfl) q_kdM_2 r24 dX11_happensAgain_58 h ?_
        clear h; intro x25 r25 h
        refine lv_aload_n hx hb dX11_happensAgain_59 rfl (lv_at hl 1 rfl) ?_
        refine q_getR hx hb hts hown hK hP fd_RX11_13 (Nat.le_of_ble_eq_true rfl) q_kdM_0 rfl q_rhM_0_2 dX11_happensAgain_60 ?_
        refine lv_iload_n hx hb dX11_happensAgain_63 rfl (lv_at hl 2 rfl) ?_
        refine lv_iconst (v := q_I 3) hx hb dX11_happensAgain_64 rfl ?_
        refine q_iadd hx hb dX11_happensAgain_65 h ?_
        clear h; intro x26 r26 h
        refine q_iald hx hb hK hP (Nat.le_of_ble_eq_true rfl) q_kdM_2 r26 dX11_happensAgain_66 h ?_
        clear h; intro x27 r27 h
        obtain ⟨x29, μ30, hv28, h⟩ := q_b2_some h
        refine q_callV hx hb hml hts hown hK hP hS (As := [.int (q_I x1), .int (q_I x25), .int (q_I x27)]) (rest := []) (st1 := [.int (q_I x29)]) cv_RX11_132 (c_M_changeNow l D dA r1 r25 r27 hv28) (Nat.le_of_ble_eq_true rfl) q_kdM_0 rfl ⟨rfl, rfl, Nat.le_of_ble_eq_true rfl, Nat.le_of_ble_eq_true rfl⟩ ⟨Nat.le_refl _, Nat.le_refl _⟩ rfl hl.1 rfl (Nat.le_of_ble_eq_true rfl) rfl (fun _ g => g) dX11_happensAgain_67 ?_
        clear hP hS hv28; intro H locs r29 hP hS _
        refine lv_goto (tgt := 130) hx hb dX11_happensAgain_70 (by decide) ?_
        exact hj130 x29 μ30 _ _ _ r29 hP hS (lv_sub hl [] rfl) h
      · clear h; intro g31 h
        refine lv_iload_n hx hb dX11_happensAgain_73 rfl (lv_at hl 4 rfl) ?_
        refine lv_iconst (v := q_I 1) hx hb dX11_happensAgain_74 rfl ?_
        refine q_cne hx hb r3 (q_r 1 rfl) (tgt := 104) dX11_happensAgain_75 (by decide) h ?_ ?_
        · clear h; intro g23 h
          refine lv_aload_n hx hb dX11_happensAgain_78 rfl (lv_at hl 1 rfl) ?_
          refine lv_iload_n hx hb dX11_happensAgain_79 rfl (lv_at hl 3 rfl) ?_
          refine lv_iload hx hb dX11_happensAgain_80 (lv_at hl 5 rfl) ?_
          refine lv_aload_n hx hb dX11_happensAgain_82 rfl (lv_at hl 1 rfl) ?_
          refine q_getR hx hb hts hown hK hP fd_RX11_13 (Nat.le_of_ble_eq_true rfl) q_kdM_0 rfl q_rhM_0_2 dX11_happensAgain_83 ?_
          refine lv_iload_n hx hb dX11_happensAgain_86 rfl (lv_at hl 2 rfl) ?_
          refine lv_iconst (v := q_I 2) hx hb dX11_happensAgain_87 rfl ?_
          refine q_iadd hx hb dX11_happensAgain_88 h ?_
          clear h; intro x16 r16 h
          refine q_iald hx hb hK hP (Nat.le_of_ble_eq_true rfl) q_kdM_2 r16 dX11_happensAgain_89 h ?_
          clear h; intro x17 r17 h
          refine lv_aload_n hx hb dX11_happensAgain_90 rfl (lv_at hl 1 rfl) ?_
          refine q_getR hx hb hts hown hK hP fd_RX11_13 (Nat.le_of_ble_eq_true rfl) q_kdM_0 rfl q_rhM_0_2 dX11_happensAgain_91 ?_
          refine lv_iload_n hx hb dX11_happensAgain_94 rfl (lv_at hl 2 rfl) ?_
          refine lv_iconst (v := q_I 3) hx hb dX11_happensAgain_95 rfl ?_
          refine q_iadd hx hb dX11_happensAgain_96 h ?_
          clear h; intro x18 r18 h
          refine q_iald hx hb hK hP (Nat.le_of_ble_eq_true rfl) q_kdM_2 r18 dX11_happensAgain_97 h ?_
          clear h; intro x19 r19 h
          obtain ⟨x21, μ22, hv20, h⟩ := q_b2_some h
          refine q_callV hx hb hml hts hown hK hP hS (As := [.int (q_I x1), .int (q_I x5), .int (q_I x17), .int (q_I x19)]) (rest := []) (st1 := [.int (q_I x21)]) cv_RX11_145 (c_M_sendNow l D dA r1 r5 r17 r19 hv20) (Nat.le_of_ble_eq_true rfl) q_kdM_0 rfl ⟨rfl, rfl, Nat.le_of_ble_eq_true rfl, Nat.le_of_ble_eq_true rfl⟩ ⟨Nat.le_refl _, Nat.le_refl _⟩ rfl hl.1 rfl (Nat.le_of_ble_eq_true rfl) rfl (fun _ g => g) dX11_happensAgain_98 ?_
          clear hP hS hv20; intro H locs r21 hP hS _
          refine lv_goto (tgt := 130) hx hb dX11_happensAgain_101 (by decide) ?_
          exact hj130 x21 μ22 _ _ _ r21 hP hS (lv_sub hl [] rfl) h
        · clear h; intro g23 h
          refine lv_iload hx hb dX11_happensAgain_104 (lv_at hl 0 rfl) ?_
          refine lv_aload_n hx hb dX11_happensAgain_106 rfl (lv_at hl 1 rfl) ?_
          refine q_getR hx hb hts hown hK hP fd_RX11_7 (Nat.le_of_ble_eq_true rfl) q_kdM_0 rfl q_rhM_0_1 dX11_happensAgain_107 ?_
          refine lv_bipush (v := q_I 37) hx hb dX11_happensAgain_110 (by decide) ?_
          refine q_iald hx hb hK hP (Nat.le_of_ble_eq_true rfl) q_kdM_1 (q_r 37 rfl) dX11_happensAgain_112 h ?_
          clear h; intro x11 r11 h
          refine q_cne hx hb r6 r11 (tgt := 121) dX11_happensAgain_113 (by decide) h ?_ ?_
          · clear h; intro g15 h
            refine lv_ldc hx hb hown (hts _ ck_RX11_127) dX11_happensAgain_116 ?_
            refine lv_goto (tgt := 130) hx hb dX11_happensAgain_118 (by decide) ?_
            exact hj130 ((-100006)) μ _ _ _ (q_r (-100006) rfl) hP hS (lv_sub hl [] rfl) h
          · clear h; intro g15 h
            refine lv_aload_n hx hb dX11_happensAgain_121 rfl (lv_at hl 1 rfl) ?_
            refine lv_iload_n hx hb dX11_happensAgain_122 rfl (lv_at hl 3 rfl) ?_
            refine lv_iload hx hb dX11_happensAgain_123 (lv_at hl 5 rfl) ?_
            refine lv_iload hx hb dX11_happensAgain_125 (lv_at hl 0 rfl) ?_
            obtain ⟨x13, μ14, hv12, h⟩ := q_b2_some h
            refine q_callV hx hb hml hts hown hK hP hS (As := [.int (q_I x1), .int (q_I x5), .int (q_I x6)]) (rest := []) (st1 := [.int (q_I x13)]) cv_RX11_160 (c_M_receiveNow l D dA r1 r5 r6 hv12) (Nat.le_of_ble_eq_true rfl) q_kdM_0 rfl ⟨rfl, rfl, Nat.le_of_ble_eq_true rfl, Nat.le_of_ble_eq_true rfl⟩ ⟨Nat.le_refl _, Nat.le_refl _⟩ rfl hl.1 rfl (Nat.le_of_ble_eq_true rfl) rfl (fun _ g => g) dX11_happensAgain_127 ?_
            clear hP hS hv12; intro H locs r13 hP hS _
            exact hj130 x13 μ14 _ _ _ r13 hP hS (lv_sub hl [] rfl) h
  · clear h; intro j43 hj43 h
    refine q_cne hx hb r3 (q_r 2 rfl) (tgt := 42) dX11_happensAgain_28 (by decide) h ?_ ?_
    · clear h; intro g34 h
      refine lv_aload_n hx hb dX11_happensAgain_31 rfl (lv_at hl 3 rfl) ?_
      refine lv_iload hx hb dX11_happensAgain_32 (lv_at hl 0 rfl) ?_
      refine lv_iload_n hx hb dX11_happensAgain_34 rfl (lv_at hl 2 rfl) ?_
      refine lv_iconst (v := q_I 0) hx hb dX11_happensAgain_35 rfl ?_
      obtain ⟨x33, hv32, h⟩ := q_b_some h
      refine q_callV hx hb hml hts hown hK hP hS (As := [.int (q_I x5), .int (q_I x1), .int (q_I 0)]) (rest := []) (st1 := [.int (q_I x33)]) cv_RX11_118 (c_M_waitingFrom l D dA r5 r1 (q_r 0 rfl) hv32) (Nat.le_of_ble_eq_true rfl) q_kdM_0 rfl ⟨rfl, rfl, Nat.le_of_ble_eq_true rfl, Nat.le_of_ble_eq_true rfl⟩ ⟨Nat.le_refl _, Nat.le_refl _⟩ rfl hl.1 rfl (Nat.le_of_ble_eq_true rfl) rfl (fun _ g => g) dX11_happensAgain_36 ?_
      clear hP hS hv32; intro H locs r33 hP hS _
      refine lv_goto (tgt := 43) hx hb dX11_happensAgain_39 (by decide) ?_
      exact hj43 x33 _ _ _ r33 hP hS (lv_sub hl [3, 4, 2, 1, 0] rfl) h
    · clear h; intro g34 h
      refine lv_iconst (v := q_I 0) hx hb dX11_happensAgain_42 rfl ?_
      exact hj43 0 _ _ _ (q_r 0 rfl) hP hS (lv_sub hl [3, 4, 2, 1, 0] rfl) h
set_option maxHeartbeats 4000000 in
set_option maxRecDepth 100000 in
theorem c_M_takeBack (l : Launch) (D : va_G) (dA : Nat → ClassId) {z sz : Nat} {μ : q_M} {μo : q_M} (h : f_M_takeBack μ = some μo) : Met l yX11_takeBack (q_wc yX11_takeBack cX11_takeBack 3 none) ({ frames := 1, cells := 0, slots := 0, locals := 22 } : Room) (va_Pc [.ref (z + 0)] (q_B (q_P D dA q_kdM q_rhoM 22 z sz μ) D dA)) (q_Q none True (q_P D dA q_kdM q_rhoM 22 z sz μo) (q_A z 22)) 0 0 (q_A z 22) := by
  refine Met.ofW (cc := cX11_takeBack) (maxL := 3) (ret := none) (by decide) rfl ?_
  intro p e s m args below meth c s₁ B hml hv
  obtain ⟨hargs, hP, hK⟩ := hv
  have hx := B.exec
  have hb := B.bytes
  have hr := B.returns
  have hts : ∀ w ∈ q_W, w.before args s = true := fun w hw => atoms_spec (ws := q_wc yX11_takeBack cX11_takeBack 3 none) B.pre w (List.mem_cons_of_mem _ hw)
  have hown : s.vm.findClass RX11 = some m.cls := findClass_of_methodNamed B.named
  have hlocks := B.notSynchronized
  have hS : va_S (q_A z 22) s.heap s.heap [] := va_S.rf
  have hA : ∀ k, k < 22 → q_A z 22 (z + k) := fun k hk => ⟨Nat.le_add_right z k, Nat.add_lt_add_left hk z⟩
  have hl := lv_entry [.ref (z + 0)] (n := 3) (Nat.le_of_ble_eq_true rfl)
  refine W.eq (by rw [hargs, lg_entry_eq]) ?_
  generalize (lg_sl [.ref (z + 0)] ++ List.replicate (3 - (lg_sl [.ref (z + 0)]).length) Slot.unset).toArray = ls at hl ⊢
  have hl : lv_has ls 3 [(0, .ref (z + 0))] := hl
  generalize hQ : MQ below _ args s 0 0 _ = Qf
  change W p l e ({ frames := 1, cells := 0, slots := 0, locals := 22 } : Room) s m args below meth c s.heap [] 0 0 Qf (F0 m 0 ls [])
  unfold f_M_takeBack at h
  refine lv_aload_n hx hb dX11_takeBack_0 rfl (lv_at hl 0 rfl) ?_
  refine q_getR hx hb hts hown hK hP fd_RX11_7 (Nat.le_of_ble_eq_true rfl) q_kdM_0 rfl q_rhM_0_1 dX11_takeBack_1 ?_
  refine lv_bipush (v := q_I 36) hx hb dX11_takeBack_4 (by decide) ?_
  refine lv_dup2_11 hx hb dX11_takeBack_6 rfl rfl ?_
  refine q_iald hx hb hK hP (Nat.le_of_ble_eq_true rfl) q_kdM_1 (q_r 36 rfl) dX11_takeBack_7 h ?_
  clear h; intro x1 r1 h
  refine lv_iconst (v := q_I 1) hx hb dX11_takeBack_8 rfl ?_
  refine q_isub hx hb dX11_takeBack_9 h ?_
  clear h; intro x2 r2 h
  refine q_iast hx hb hK hP hS hA (Nat.le_of_ble_eq_true rfl) q_kdM_1 (q_r 36 rfl) r2 dX11_takeBack_10 h ?_
  clear h hP hS; intro μ3 H locs hP hS h
  refine lv_aload_n hx hb dX11_takeBack_11 rfl (lv_at hl 0 rfl) ?_
  refine q_getR hx hb hts hown hK hP fd_RX11_7 (Nat.le_of_ble_eq_true rfl) q_kdM_0 rfl q_rhM_0_1 dX11_takeBack_12 ?_
  refine lv_bipush (v := q_I 36) hx hb dX11_takeBack_15 (by decide) ?_
  refine q_iald hx hb hK hP (Nat.le_of_ble_eq_true rfl) q_kdM_1 (q_r 36 rfl) dX11_takeBack_17 h ?_
  clear h; intro x4 r4 h
  refine lv_istore_n (lv' := [(1, .int (q_I x4)), (0, .ref (z + 0))]) hx hb dX11_takeBack_18 rfl hl (by decide) rfl ?_
  clear hl; intro ls hl
  refine lv_iconst (v := q_I 0) hx hb dX11_takeBack_19 rfl ?_
  refine lv_iconst (v := q_I 2) hx hb dX11_takeBack_20 rfl ?_
  refine lv_aload_n hx hb dX11_takeBack_21 rfl (lv_at hl 1 rfl) ?_
  refine lv_iload_n hx hb dX11_takeBack_22 rfl (lv_at hl 0 rfl) ?_
  refine lv_iconst (v := q_I 0) hx hb dX11_takeBack_23 rfl ?_
  obtain ⟨x6, hv5, h⟩ := q_b_some h
  refine q_callV hx hb hml hts hown hK hP hS (As := [.int (q_I x4), .int (q_I 0)]) (rest := [.int (q_I 2), .int (q_I 0)]) (st1 := [.int (q_I x6), .int (q_I 2), .int (q_I 0)]) cv_RX11_122 (c_M_ofEvent l D dA r4 (q_r 0 rfl) hv5) (Nat.le_of_ble_eq_true rfl) q_kdM_0 rfl ⟨rfl, rfl, Nat.le_of_ble_eq_true rfl, Nat.le_of_ble_eq_true rfl⟩ ⟨Nat.le_refl _, Nat.le_refl _⟩ rfl hl.1 rfl (Nat.le_of_ble_eq_true rfl) rfl (fun _ g => g) dX11_takeBack_24 ?_
  clear hP hS hv5; intro H locs r6 hP hS _
  refine q_imul hx hb dX11_takeBack_27 h ?_
  clear h; intro x7 r7 h
  refine q_iadd hx hb dX11_takeBack_28 h ?_
  clear h; intro x8 r8 h
  refine lv_aload_n hx hb dX11_takeBack_29 rfl (lv_at hl 1 rfl) ?_
  refine lv_iload_n hx hb dX11_takeBack_30 rfl (lv_at hl 0 rfl) ?_
  refine lv_iconst (v := q_I 2) hx hb dX11_takeBack_31 rfl ?_
  obtain ⟨x10, hv9, h⟩ := q_b_some h
  refine q_callV hx hb hml hts hown hK hP hS (As := [.int (q_I x4), .int (q_I 2)]) (rest := [.int (q_I x8)]) (st1 := [.int (q_I x10), .int (q_I x8)]) cv_RX11_122 (c_M_ofEvent l D dA r4 (q_r 2 rfl) hv9) (Nat.le_of_ble_eq_true rfl) q_kdM_0 rfl ⟨rfl, rfl, Nat.le_of_ble_eq_true rfl, Nat.le_of_ble_eq_true rfl⟩ ⟨Nat.le_refl _, Nat.le_refl _⟩ rfl hl.1 rfl (Nat.le_of_ble_eq_true rfl) rfl (fun _ g => g) dX11_takeBack_32 ?_
  clear hP hS hv9; intro H locs r10 hP hS _
  refine q_iadd hx hb dX11_takeBack_35 h ?_
  clear h; intro x11 r11 h
  refine lv_istore_n (lv' := [(2, .int (q_I x11)), (1, .int (q_I x4)), (0, .ref (z + 0))]) hx hb dX11_takeBack_36 rfl hl (by decide) rfl ?_
  clear hl; intro ls hl
  refine lv_aload_n hx hb dX11_takeBack_37 rfl (lv_at hl 2 rfl) ?_
  refine q_getR hx hb hts hown hK hP fd_RX11_7 (Nat.le_of_ble_eq_true rfl) q_kdM_0 rfl q_rhM_0_1 dX11_takeBack_38 ?_
  refine lv_iload_n hx hb dX11_takeBack_41 rfl (lv_at hl 0 rfl) ?_
  refine lv_dup2_11 hx hb dX11_takeBack_42 rfl rfl ?_
  refine q_iald hx hb hK hP (Nat.le_of_ble_eq_true rfl) q_kdM_1 r11 dX11_takeBack_43 h ?_
  clear h; intro x12 r12 h
  refine lv_aload_n hx hb dX11_takeBack_44 rfl (lv_at hl 2 rfl) ?_
  refine lv_iload_n hx hb dX11_takeBack_45 rfl (lv_at hl 1 rfl) ?_
  refine lv_iconst (v := q_I 1) hx hb dX11_takeBack_46 rfl ?_
  obtain ⟨x14, hv13, h⟩ := q_b_some h
  refine q_callV hx hb hml hts hown hK hP hS (As := [.int (q_I x4), .int (q_I 1)]) (rest := [.int (q_I x12), .int (q_I x11), .ref (z + 1)]) (st1 := [.int (q_I x14), .int (q_I x12), .int (q_I x11), .ref (z + 1)]) cv_RX11_122 (c_M_ofEvent l D dA r4 (q_r 1 rfl) hv13) (Nat.le_of_ble_eq_true rfl) q_kdM_0 rfl ⟨rfl, rfl, Nat.le_of_ble_eq_true rfl, Nat.le_of_ble_eq_true rfl⟩ ⟨Nat.le_refl _, Nat.le_refl _⟩ rfl hl.1 rfl (Nat.le_of_ble_eq_true rfl) rfl (fun _ g => g) dX11_takeBack_47 ?_
  clear hP hS hv13; intro H locs r14 hP hS _
  refine lv_iconst (v := q_I 1) hx hb dX11_takeBack_50 rfl ?_
  refine q_jn_in h (fun J => ∀ (x15 : Int) (H : Heap) (locs : List Loc) (ls : Array Slot), q_R x15 → q_P D dA q_kdM q_rhoM 22 z sz μ3 H → va_S (q_A z 22) s.heap H locs → lv_has ls 3 [(0, .ref (z + 0)), (1, .int (q_I x4))] → J x15 = some μo → W p l e ({ frames := 1, cells := 0, slots := 0, locals := 22 } : Room) s m args below meth c H locs 0 0 Qf (F0 m 70 ls [.int (q_I x15), .int (q_I x12), .int (q_I x11), .ref (z + 1)])) ?_ ?_
  · clear h hl hP hS; intro x15 H locs ls r15 hP hS hl h
    refine q_isub hx hb dX11_takeBack_70 h ?_
    clear h; intro x16 r16 h
    refine q_iast hx hb hK hP hS hA (Nat.le_of_ble_eq_true rfl) q_kdM_1 r11 r16 dX11_takeBack_71 h ?_
    clear h hP hS; intro μ17 H locs hP hS h
    refine lv_aload_n hx hb dX11_takeBack_72 rfl (lv_at hl 0 rfl) ?_
    refine q_getR hx hb hts hown hK hP fd_RX11_7 (Nat.le_of_ble_eq_true rfl) q_kdM_0 rfl q_rhM_0_1 dX11_takeBack_73 ?_
    refine lv_bipush (v := q_I 25) hx hb dX11_takeBack_76 (by decide) ?_
    refine lv_aload_n hx hb dX11_takeBack_78 rfl (lv_at hl 0 rfl) ?_
    refine lv_iload_n hx hb dX11_takeBack_79 rfl (lv_at hl 1 rfl) ?_
    refine lv_iconst (v := q_I 0) hx hb dX11_takeBack_80 rfl ?_
    obtain ⟨x19, hv18, h⟩ := q_b_some h
    refine q_callV hx hb hml hts hown hK hP hS (As := [.int (q_I x4), .int (q_I 0)]) (rest := [.int (q_I 25), .ref (z + 1)]) (st1 := [.int (q_I x19), .int (q_I 25), .ref (z + 1)]) cv_RX11_122 (c_M_ofEvent l D dA r4 (q_r 0 rfl) hv18) (Nat.le_of_ble_eq_true rfl) q_kdM_0 rfl ⟨rfl, rfl, Nat.le_of_ble_eq_true rfl, Nat.le_of_ble_eq_true rfl⟩ ⟨Nat.le_refl _, Nat.le_refl _⟩ rfl hl.1 rfl (Nat.le_of_ble_eq_true rfl) rfl (fun _ g => g) dX11_takeBack_81 ?_
    clear hP hS hv18; intro H locs r19 hP hS _
    refine q_iadd hx hb dX11_takeBack_84 h ?_
    clear h; intro x20 r20 h
    refine lv_dup2_11 hx hb dX11_takeBack_85 rfl rfl ?_
    refine q_iald hx hb hK hP (Nat.le_of_ble_eq_true rfl) q_kdM_1 r20 dX11_takeBack_86 h ?_
    clear h; intro x21 r21 h
    refine lv_iconst (v := q_I 1) hx hb dX11_takeBack_87 rfl ?_
    refine q_isub hx hb dX11_takeBack_88 h ?_
    clear h; intro x22 r22 h
    refine q_iast hx hb hK hP hS hA (Nat.le_of_ble_eq_true rfl) q_kdM_1 r20 r22 dX11_takeBack_89 h ?_
    clear h hP hS; intro μ23 H locs hP hS h
    refine lv_aload_n hx hb dX11_takeBack_90 rfl (lv_at hl 0 rfl) ?_
    refine q_getR hx hb hts hown hK hP fd_RX11_7 (Nat.le_of_ble_eq_true rfl) q_kdM_0 rfl q_rhM_0_1 dX11_takeBack_91 ?_
    refine lv_bipush (v := q_I 37) hx hb dX11_takeBack_94 (by decide) ?_
    refine lv_dup2_11 hx hb dX11_takeBack_96 rfl rfl ?_
    refine q_iald hx hb hK hP (Nat.le_of_ble_eq_true rfl) q_kdM_1 (q_r 37 rfl) dX11_takeBack_97 h ?_
    clear h; intro x24 r24 h
    refine lv_aload_n hx hb dX11_takeBack_98 rfl (lv_at hl 0 rfl) ?_
    refine lv_iload_n hx hb dX11_takeBack_99 rfl (lv_at hl 1 rfl) ?_
    refine lv_iconst (v := q_I 1) hx hb dX11_takeBack_100 rfl ?_
    obtain ⟨x26, hv25, h⟩ := q_b_some h
    refine q_callV hx hb hml hts hown hK hP hS (As := [.int (q_I x4), .int (q_I 1)]) (rest := [.int (q_I x24), .int (q_I 37), .ref (z + 1)]) (st1 := [.int (q_I x26), .int (q_I x24), .int (q_I 37), .ref (z + 1)]) cv_RX11_122 (c_M_ofEvent l D dA r4 (q_r 1 rfl) hv25) (Nat.le_of_ble_eq_true rfl) q_kdM_0 rfl ⟨rfl, rfl, Nat.le_of_ble_eq_true rfl, Nat.le_of_ble_eq_true rfl⟩ ⟨Nat.le_refl _, Nat.le_refl _⟩ rfl hl.1 rfl (Nat.le_of_ble_eq_true rfl) rfl (fun _ g => g) dX11_takeBack_101 ?_
    clear hP hS hv25; intro H locs r26 hP hS _
    refine lv_iconst (v := q_I 1) hx hb dX11_takeBack_104 rfl ?_
    refine q_jn_in h (fun J => ∀ (x27 : Int) (H : Heap) (locs : List Loc) (ls : Array Slot), q_R x27 → q_P D dA q_kdM q_rhoM 22 z sz μ23 H → va_S (q_A z 22) s.heap H locs → lv_has ls 3 [(0, .ref (z + 0)), (1, .int (q_I x4))] → J x27 = some μo → W p l e ({ frames := 1, cells := 0, slots := 0, locals := 22 } : Room) s m args below meth c H locs 0 0 Qf (F0 m 113 ls [.int (q_I x27), .int (q_I x24), .int (q_I 37), .ref (z + 1)])) ?_ ?_
    · clear h hl hP hS; intro x27 H locs ls r27 hP hS hl h
      refine q_isub hx hb dX11_takeBack_113 h ?_
      clear h; intro x28 r28 h
      refine q_iast hx hb hK hP hS hA (Nat.le_of_ble_eq_true rfl) q_kdM_1 (q_r 37 rfl) r28 dX11_takeBack_114 h ?_
      clear h hP hS; intro μ29 H locs hP hS h
      refine lv_aload_n hx hb dX11_takeBack_115 rfl (lv_at hl 0 rfl) ?_
      refine lv_iload_n hx hb dX11_takeBack_116 rfl (lv_at hl 1 rfl) ?_
      refine lv_iconst (v := q_I 1) hx hb dX11_takeBack_117 rfl ?_
      obtain ⟨x31, hv30, h⟩ := q_b_some h
      refine q_callV hx hb hml hts hown hK hP hS (As := [.int (q_I x4), .int (q_I 1)]) (rest := []) (st1 := [.int (q_I x31)]) cv_RX11_122 (c_M_ofEvent l D dA r4 (q_r 1 rfl) hv30) (Nat.le_of_ble_eq_true rfl) q_kdM_0 rfl ⟨rfl, rfl, Nat.le_of_ble_eq_true rfl, Nat.le_of_ble_eq_true rfl⟩ ⟨Nat.le_refl _, Nat.le_refl _⟩ rfl hl.1 rfl (Nat.le_of_ble_eq_true rfl) rfl (fun _ g => g) dX11_takeBack_118 ?_
      clear hP hS hv30; intro H locs r31 hP hS _
      refine lv_iconst (v := q_I 2) hx hb dX11_takeBack_121 rfl ?_
      refine q_jn_in h (fun J => ∀ (μ32 : q_M) (H : Heap) (locs : List Loc) (ls : Array Slot), q_P D dA q_kdM q_rhoM 22 z sz μ32 H → va_S (q_A z 22) s.heap H locs → lv_has ls 3 [] → J μ32 = some μo → W p l e ({ frames := 1, cells := 0, slots := 0, locals := 22 } : Room) s m args below meth c H locs 0 0 Qf (F0 m 146 ls [])) ?_ ?_
      · clear h hl hP hS; intro μ32 H locs ls  hP hS hl h
        rw [← hQ]
        exact q_retv hx hb hr hlocks hP hS h dX11_takeBack_146
      · clear h; intro j146 hj146 h
        refine q_cne hx hb r31 (q_r 2 rfl) (tgt := 146) dX11_takeBack_122 (by decide) h ?_ ?_
        · clear h; intro g39 h
          refine lv_aload_n hx hb dX11_takeBack_125 rfl (lv_at hl 0 rfl) ?_
          refine q_getR hx hb hts hown hK hP fd_RX11_7 (Nat.le_of_ble_eq_true rfl) q_kdM_0 rfl q_rhM_0_1 dX11_takeBack_126 ?_
          refine lv_sipush (v := q_I 1264) hx hb dX11_takeBack_129 (by decide) ?_
          refine lv_bipush (v := q_I 6) hx hb dX11_takeBack_132 (by decide) ?_
          refine lv_aload_n hx hb dX11_takeBack_134 rfl (lv_at hl 0 rfl) ?_
          refine lv_iload_n hx hb dX11_takeBack_135 rfl (lv_at hl 1 rfl) ?_
          refine lv_iconst (v := q_I 5) hx hb dX11_takeBack_136 rfl ?_
          obtain ⟨x34, hv33, h⟩ := q_b_some h
          refine q_callV hx hb hml hts hown hK hP hS (As := [.int (q_I x4), .int (q_I 5)]) (rest := [.int (q_I 6), .int (q_I 1264), .ref (z + 1)]) (st1 := [.int (q_I x34), .int (q_I 6), .int (q_I 1264), .ref (z + 1)]) cv_RX11_122 (c_M_ofEvent l D dA r4 (q_r 5 rfl) hv33) (Nat.le_of_ble_eq_true rfl) q_kdM_0 rfl ⟨rfl, rfl, Nat.le_of_ble_eq_true rfl, Nat.le_of_ble_eq_true rfl⟩ ⟨Nat.le_refl _, Nat.le_refl _⟩ rfl hl.1 rfl (Nat.le_of_ble_eq_true rfl) rfl (fun _ g => g) dX11_takeBack_137 ?_
          clear hP hS hv33; intro H locs r34 hP hS _
          refine q_imul hx hb dX11_takeBack_140 h ?_
          clear h; intro x35 r35 h
          refine q_iadd hx hb dX11_takeBack_141 h ?_
          clear h; intro x36 r36 h
          refine lv_iconst (v := q_I 5) hx hb dX11_takeBack_142 rfl ?_
          refine q_iadd hx hb dX11_takeBack_143 h ?_
          clear h; intro x37 r37 h
          refine lv_iconst (v := q_I (-1)) hx hb dX11_takeBack_144 rfl ?_
          refine q_iast hx hb hK hP hS hA (Nat.le_of_ble_eq_true rfl) q_kdM_1 r37 (q_r (-1) rfl) dX11_takeBack_145 h ?_
          clear h hP hS; intro μ38 H locs hP hS h
          exact hj146 μ38 _ _ _ hP hS (lv_sub hl [] rfl) h
        · clear h; intro g39 h
          exact hj146 μ29 _ _ _ hP hS (lv_sub hl [] rfl) h
    · clear h; intro j113 hj113 h
      refine q_cne hx hb r26 (q_r 1 rfl) (tgt := 112) dX11_takeBack_105 (by decide) h ?_ ?_
      · clear h; intro g40 h
        refine lv_iconst (v := q_I 1) hx hb dX11_takeBack_108 rfl ?_
        refine lv_goto (tgt := 113) hx hb dX11_takeBack_109 (by decide) ?_
        exact hj113 1 _ _ _ (q_r 1 rfl) hP hS (lv_sub hl [0, 1] rfl) h
      · clear h; intro g40 h
        refine lv_iconst (v := q_I 0) hx hb dX11_takeBack_112 rfl ?_
        exact hj113 0 _ _ _ (q_r 0 rfl) hP hS (lv_sub hl [0, 1] rfl) h
  · clear h; intro j70 hj70 h
    refine q_cne hx hb r14 (q_r 1 rfl) (tgt := 64) dX11_takeBack_51 (by decide) h ?_ ?_
    · clear h; intro g46 h
      refine lv_aload_n hx hb dX11_takeBack_54 rfl (lv_at hl 2 rfl) ?_
      refine lv_iload_n hx hb dX11_takeBack_55 rfl (lv_at hl 1 rfl) ?_
      refine lv_iconst (v := q_I 3) hx hb dX11_takeBack_56 rfl ?_
      obtain ⟨x44, hv43, h⟩ := q_b_some h
      refine q_callV hx hb hml hts hown hK hP hS (As := [.int (q_I x4), .int (q_I 3)]) (rest := [.int (q_I x12), .int (q_I x11), .ref (z + 1)]) (st1 := [.int (q_I x44), .int (q_I x12), .int (q_I x11), .ref (z + 1)]) cv_RX11_122 (c_M_ofEvent l D dA r4 (q_r 3 rfl) hv43) (Nat.le_of_ble_eq_true rfl) q_kdM_0 rfl ⟨rfl, rfl, Nat.le_of_ble_eq_true rfl, Nat.le_of_ble_eq_true rfl⟩ ⟨Nat.le_refl _, Nat.le_refl _⟩ rfl hl.1 rfl (Nat.le_of_ble_eq_true rfl) rfl (fun _ g => g) dX11_takeBack_57 ?_
      clear hP hS hv43; intro H locs r44 hP hS _
      refine q_ineg hx hb dX11_takeBack_60 h ?_
      clear h; intro x45 r45 h
      refine lv_goto (tgt := 70) hx hb dX11_takeBack_61 (by decide) ?_
      exact hj70 x45 _ _ _ r45 hP hS (lv_sub hl [2, 1] rfl) h
    · clear h; intro g46 h
      refine lv_aload_n hx hb dX11_takeBack_64 rfl (lv_at hl 2 rfl) ?_
      refine lv_iload_n hx hb dX11_takeBack_65 rfl (lv_at hl 1 rfl) ?_
      refine lv_iconst (v := q_I 3) hx hb dX11_takeBack_66 rfl ?_
      obtain ⟨x42, hv41, h⟩ := q_b_some h
      refine q_callV hx hb hml hts hown hK hP hS (As := [.int (q_I x4), .int (q_I 3)]) (rest := [.int (q_I x12), .int (q_I x11), .ref (z + 1)]) (st1 := [.int (q_I x42), .int (q_I x12), .int (q_I x11), .ref (z + 1)]) cv_RX11_122 (c_M_ofEvent l D dA r4 (q_r 3 rfl) hv41) (Nat.le_of_ble_eq_true rfl) q_kdM_0 rfl ⟨rfl, rfl, Nat.le_of_ble_eq_true rfl, Nat.le_of_ble_eq_true rfl⟩ ⟨Nat.le_refl _, Nat.le_refl _⟩ rfl hl.1 rfl (Nat.le_of_ble_eq_true rfl) rfl (fun _ g => g) dX11_takeBack_67 ?_
      clear hP hS hv41; intro H locs r42 hP hS _
      exact hj70 x42 _ _ _ r42 hP hS (lv_sub hl [2, 1] rfl) h
set_option maxHeartbeats 4000000 in
set_option maxRecDepth 100000 in
theorem c_M_apply (l : Launch) (D : va_G) (dA : Nat → ClassId) {z sz : Nat} {N : Nat} {a0 : Int} (ra0 : q_R a0) {μ : q_M} {xo : Int} {μo : q_M} (h : f_M_apply N a0 μ = some (xo, μo)) : Met l yX11_apply (q_wc yX11_apply cX11_apply 8 (some .int)) ({ frames := 7, cells := 0, slots := 0, locals := 162 } : Room) (va_Pc [.ref (z + 0), .int (q_I a0)] (q_B (q_P D dA q_kdM q_rhoM 22 z sz μ) D dA)) (q_Q (some (.int (q_I xo))) (q_R xo) (q_P D dA q_kdM q_rhoM 22 z sz μo) (q_A z 22)) 0 0 (q_A z 22) := by
  refine Met.ofW (cc := cX11_apply) (maxL := 8) (ret := (some .int)) (by decide) rfl ?_
  intro p e s m args below meth c s₁ B hml hv
  obtain ⟨hargs, hP, hK⟩ := hv
  have hx := B.exec
  have hb := B.bytes
  have hr := B.returns
  have hts : ∀ w ∈ q_W, w.before args s = true := fun w hw => atoms_spec (ws := q_wc yX11_apply cX11_apply 8 (some .int)) B.pre w (List.mem_cons_of_mem _ hw)
  have hown : s.vm.findClass RX11 = some m.cls := findClass_of_methodNamed B.named
  have hlocks := B.notSynchronized
  have hS : va_S (q_A z 22) s.heap s.heap [] := va_S.rf
  have hA : ∀ k, k < 22 → q_A z 22 (z + k) := fun k hk => ⟨Nat.le_add_right z k, Nat.add_lt_add_left hk z⟩
  have hl := lv_entry [.ref (z + 0), .int (q_I a0)] (n := 8) (Nat.le_of_ble_eq_true rfl)
  refine W.eq (by rw [hargs, lg_entry_eq]) ?_
  generalize (lg_sl [.ref (z + 0), .int (q_I a0)] ++ List.replicate (8 - (lg_sl [.ref (z + 0), .int (q_I a0)]).length) Slot.unset).toArray = ls at hl ⊢
  have hl : lv_has ls 8 [(0, .ref (z + 0)), (1, .int (q_I a0))] := hl
  generalize hQ : MQ below _ args s 0 0 _ = Qf
  change W p l e ({ frames := 7, cells := 0, slots := 0, locals := 162 } : Room) s m args below meth c s.heap [] 0 0 Qf (F0 m 0 ls [])
  unfold f_M_apply at h
  refine lv_aload_n hx hb dX11_apply_0 rfl (lv_at hl 0 rfl) ?_
  obtain ⟨x2, μ3, hv1, h⟩ := q_b2_some h
  refine q_callV hx hb hml hts hown hK hP hS (As := []) (rest := []) (st1 := [.int (q_I x2)]) cv_RX11_258 (c_M_findRepair l D dA hv1) (Nat.le_of_ble_eq_true rfl) q_kdM_0 rfl ⟨rfl, rfl, Nat.le_of_ble_eq_true rfl, Nat.le_of_ble_eq_true rfl⟩ ⟨Nat.le_refl _, Nat.le_refl _⟩ rfl hl.1 rfl (Nat.le_of_ble_eq_true rfl) rfl (fun _ g => g) dX11_apply_1 ?_
  clear hP hS hv1; intro H locs r2 hP hS _
  refine lv_istore_n (lv' := [(2, .int (q_I x2)), (0, .ref (z + 0)), (1, .int (q_I a0))]) hx hb dX11_apply_4 rfl hl (by decide) rfl ?_
  clear hl; intro ls hl
  refine lv_iload_n hx hb dX11_apply_5 rfl (lv_at hl 0 rfl) ?_
  refine q_zge hx hb r2 (tgt := 11) dX11_apply_6 (by decide) h ?_ ?_
  · clear h; intro g108 h
    refine lv_iconst (v := q_I 0) hx hb dX11_apply_11 rfl ?_
    refine lv_istore_n (lv' := [(3, .int (q_I 0)), (2, .int (q_I x2)), (0, .ref (z + 0)), (1, .int (q_I a0))]) hx hb dX11_apply_12 rfl hl (by decide) rfl ?_
    clear hl; intro ls hl
    have L13 : ∀ (k38 : q_M → Option (Int × q_M)), (∀ (μ6 : q_M) (H : Heap) (locs : List Loc) (ls : Array Slot), q_P D dA q_kdM q_rhoM 22 z sz μ6 H → va_S (q_A z 22) s.heap H locs → lv_has ls 8 [(0, .ref (z + 0)), (1, .int (q_I a0))] → k38 μ6 = some (xo, μo) → W p l e ({ frames := 7, cells := 0, slots := 0, locals := 162 } : Room) s m args below meth c H locs 0 0 Qf (F0 m 38 ls [])) → ∀ (nf13 : Nat) (x4 : Int) (μ5 : q_M) (H : Heap) (locs : List Loc) (ls : Array Slot), q_R x4 → q_P D dA q_kdM q_rhoM 22 z sz μ5 H → va_S (q_A z 22) s.heap H locs → lv_has ls 8 [(0, .ref (z + 0)), (1, .int (q_I a0)), (3, .int (q_I x4))] → f_M_apply_L13  k38 nf13 x4 μ5 = some (xo, μo) → W p l e ({ frames := 7, cells := 0, slots := 0, locals := 162 } : Room) s m args below meth c H locs 0 0 Qf (F0 m 13 ls []) := by
      clear h hl hP hS
      intro k38 hk38 nf13
      induction nf13 with
      | zero =>
        intro x4 μ5 H locs ls r4 hP hS hl h
        rw [f_M_apply_L13] at h
        cases h
      | succ nf13 ih13 =>
        intro x4 μ5 H locs ls r4 hP hS hl h
        rw [f_M_apply_L13] at h
        refine lv_iload_n hx hb dX11_apply_13 rfl (lv_at hl 2 rfl) ?_
        refine lv_sipush (v := q_I 5104) hx hb dX11_apply_14 (by decide) ?_
        refine q_cge hx hb r4 (q_r 5104 rfl) (tgt := 38) dX11_apply_17 (by decide) h ?_ ?_
        · clear h; intro g10 h
          exact hk38 μ5 _ _ _ hP hS (lv_sub hl [0, 1] rfl) h
        · clear h; intro g10 h
          refine lv_aload_n hx hb dX11_apply_20 rfl (lv_at hl 0 rfl) ?_
          refine q_getR hx hb hts hown hK hP fd_RX11_13 (Nat.le_of_ble_eq_true rfl) q_kdM_0 rfl q_rhM_0_2 dX11_apply_21 ?_
          refine lv_iload_n hx hb dX11_apply_24 rfl (lv_at hl 2 rfl) ?_
          refine lv_aload_n hx hb dX11_apply_25 rfl (lv_at hl 0 rfl) ?_
          refine q_getR hx hb hts hown hK hP fd_RX11_7 (Nat.le_of_ble_eq_true rfl) q_kdM_0 rfl q_rhM_0_1 dX11_apply_26 ?_
          refine lv_iload_n hx hb dX11_apply_29 rfl (lv_at hl 2 rfl) ?_
          refine q_iald hx hb hK hP (Nat.le_of_ble_eq_true rfl) q_kdM_1 r4 dX11_apply_30 h ?_
          clear h; intro x7 r7 h
          refine q_iast hx hb hK hP hS hA (Nat.le_of_ble_eq_true rfl) q_kdM_2 r4 r7 dX11_apply_31 h ?_
          clear h hP hS; intro μ8 H locs hP hS h
          refine q_iinc (k := 2) (lv' := fun t => [(3, .int (q_I t)), (0, .ref (z + 0)), (1, .int (q_I a0))]) hx hb dX11_apply_32 hl rfl (by decide) (fun _ => rfl) h ?_
          clear h hl; intro x9 ls r9 hl h
          refine lv_goto (tgt := 13) hx hb dX11_apply_35 (by decide) ?_
          exact ih13 x9 μ8 _ _ _ r9 hP hS (lv_sub hl [1, 2, 0] rfl) h
    refine L13 _ ?_  _ 0 μ3 _ _ _ (q_r 0 rfl) hP hS (lv_sub hl [2, 3, 0] rfl) h
    · clear h hl hP hS; intro μ6 H locs ls  hP hS hl h
      refine lv_aload_n hx hb dX11_apply_38 rfl (lv_at hl 0 rfl) ?_
      refine lv_iconst (v := q_I 1) hx hb dX11_apply_39 rfl ?_
      refine q_putZ hx hb hts hown hK hP hS hA fd_RX11_86 (Nat.le_of_ble_eq_true rfl) q_kdM_0 rfl (q_r 1 rfl) dX11_apply_40 h ?_
      clear h hP hS; intro μ11 H locs hP hS h
      refine lv_iconst (v := q_I 0) hx hb dX11_apply_43 rfl ?_
      refine lv_istore_n (lv' := [(3, .int (q_I 0)), (0, .ref (z + 0)), (1, .int (q_I a0))]) hx hb dX11_apply_44 rfl hl (by decide) rfl ?_
      clear hl; intro ls hl
      refine lv_iconst (v := q_I 0) hx hb dX11_apply_45 rfl ?_
      refine lv_istore (lv' := [(4, .int (q_I 0)), (3, .int (q_I 0)), (0, .ref (z + 0)), (1, .int (q_I a0))]) hx hb dX11_apply_46 hl (by decide) rfl ?_
      clear hl; intro ls hl
      have L48 : ∀ (k117 : Int → q_M → Option (Int × q_M)), (∀ (x15 : Int) (μ16 : q_M) (H : Heap) (locs : List Loc) (ls : Array Slot), q_R x15 → q_P D dA q_kdM q_rhoM 22 z sz μ16 H → va_S (q_A z 22) s.heap H locs → lv_has ls 8 [(0, .ref (z + 0)), (1, .int (q_I a0)), (3, .int (q_I x15))] → k117 x15 μ16 = some (xo, μo) → W p l e ({ frames := 7, cells := 0, slots := 0, locals := 162 } : Room) s m args below meth c H locs 0 0 Qf (F0 m 117 ls [])) → ∀ (nf48 : Nat) (x12 : Int) (x13 : Int) (μ14 : q_M) (H : Heap) (locs : List Loc) (ls : Array Slot), q_R x12 → q_R x13 → q_P D dA q_kdM q_rhoM 22 z sz μ14 H → va_S (q_A z 22) s.heap H locs → lv_has ls 8 [(0, .ref (z + 0)), (1, .int (q_I a0)), (3, .int (q_I x12)), (4, .int (q_I x13))] → f_M_apply_L48 N k117 nf48 x12 x13 μ14 = some (xo, μo) → W p l e ({ frames := 7, cells := 0, slots := 0, locals := 162 } : Room) s m args below meth c H locs 0 0 Qf (F0 m 48 ls []) := by
        clear h hl hP hS
        intro k117 hk117 nf48
        induction nf48 with
        | zero =>
          intro x12 x13 μ14 H locs ls r12 r13 hP hS hl h
          rw [f_M_apply_L48] at h
          cases h
        | succ nf48 ih48 =>
          intro x12 x13 μ14 H locs ls r12 r13 hP hS hl h
          rw [f_M_apply_L48] at h
          refine lv_iload hx hb dX11_apply_48 (lv_at hl 3 rfl) ?_
          refine lv_aload_n hx hb dX11_apply_50 rfl (lv_at hl 0 rfl) ?_
          refine q_getR hx hb hts hown hK hP fd_RX11_7 (Nat.le_of_ble_eq_true rfl) q_kdM_0 rfl q_rhM_0_1 dX11_apply_51 ?_
          refine lv_bipush (v := q_I 37) hx hb dX11_apply_54 (by decide) ?_
          refine q_iald hx hb hK hP (Nat.le_of_ble_eq_true rfl) q_kdM_1 (q_r 37 rfl) dX11_apply_56 h ?_
          clear h; intro x17 r17 h
          refine q_cge hx hb r13 r17 (tgt := 117) dX11_apply_57 (by decide) h ?_ ?_
          · clear h; intro g36 h
            exact hk117 x12 μ14 _ _ _ r12 hP hS (lv_sub hl [0, 1, 2] rfl) h
          · clear h; intro g36 h
            refine lv_aload_n hx hb dX11_apply_60 rfl (lv_at hl 0 rfl) ?_
            refine lv_iload hx hb dX11_apply_61 (lv_at hl 3 rfl) ?_
            obtain ⟨x19, hv18, h⟩ := q_b_some h
            refine q_callV hx hb hml hts hown hK hP hS (As := [.int (q_I x13)]) (rest := []) (st1 := [.int (q_I x19)]) cv_RX11_184 (c_M_isInTransit l D dA r13 hv18) (Nat.le_of_ble_eq_true rfl) q_kdM_0 rfl ⟨rfl, rfl, Nat.le_of_ble_eq_true rfl, Nat.le_of_ble_eq_true rfl⟩ ⟨Nat.le_refl _, Nat.le_refl _⟩ rfl hl.1 rfl (Nat.le_of_ble_eq_true rfl) rfl (fun _ g => g) dX11_apply_63 ?_
            clear hP hS hv18; intro H locs r19 hP hS _
            refine q_jn_in h (fun J => ∀ (x20 : Int) (μ21 : q_M) (H : Heap) (locs : List Loc) (ls : Array Slot), q_R x20 → q_P D dA q_kdM q_rhoM 22 z sz μ21 H → va_S (q_A z 22) s.heap H locs → lv_has ls 8 [(0, .ref (z + 0)), (1, .int (q_I a0)), (3, .int (q_I x20)), (4, .int (q_I x13))] → J x20 μ21 = some (xo, μo) → W p l e ({ frames := 7, cells := 0, slots := 0, locals := 162 } : Room) s m args below meth c H locs 0 0 Qf (F0 m 111 ls [])) ?_ ?_
            · clear h hl hP hS; intro x20 μ21 H locs ls r20 hP hS hl h
              refine q_iinc (k := 3) (lv' := fun t => [(4, .int (q_I t)), (0, .ref (z + 0)), (1, .int (q_I a0)), (3, .int (q_I x20))]) hx hb dX11_apply_111 hl rfl (by decide) (fun _ => rfl) h ?_
              clear h hl; intro x22 ls r22 hl h
              refine lv_goto (tgt := 48) hx hb dX11_apply_114 (by decide) ?_
              exact ih48 x20 x22 μ21 _ _ _ r20 r22 hP hS (lv_sub hl [1, 2, 3, 0] rfl) h
            · clear h; intro j111 hj111 h
              refine q_zeq hx hb r19 (tgt := 111) dX11_apply_66 (by decide) h ?_ ?_
              · clear h; intro g35 h
                exact hj111 x12 μ14 _ _ _ r12 hP hS (lv_sub hl [0, 1, 2, 3] rfl) h
              · clear h; intro g35 h
                refine lv_iconst (v := q_I 0) hx hb dX11_apply_69 rfl ?_
                refine lv_istore (lv' := [(5, .int (q_I 0)), (0, .ref (z + 0)), (1, .int (q_I a0)), (3, .int (q_I x12)), (4, .int (q_I x13))]) hx hb dX11_apply_70 hl (by decide) rfl ?_
                clear hl; intro ls hl
                have L72 : ∀ (k108 : q_M → Option (Int × q_M)), (∀ (μ25 : q_M) (H : Heap) (locs : List Loc) (ls : Array Slot), q_P D dA q_kdM q_rhoM 22 z sz μ25 H → va_S (q_A z 22) s.heap H locs → lv_has ls 8 [(0, .ref (z + 0)), (1, .int (q_I a0)), (3, .int (q_I x12)), (4, .int (q_I x13))] → k108 μ25 = some (xo, μo) → W p l e ({ frames := 7, cells := 0, slots := 0, locals := 162 } : Room) s m args below meth c H locs 0 0 Qf (F0 m 108 ls [])) → ∀ (nf72 : Nat) (x23 : Int) (μ24 : q_M) (H : Heap) (locs : List Loc) (ls : Array Slot), q_R x23 → q_P D dA q_kdM q_rhoM 22 z sz μ24 H → va_S (q_A z 22) s.heap H locs → lv_has ls 8 [(0, .ref (z + 0)), (1, .int (q_I a0)), (3, .int (q_I x12)), (4, .int (q_I x13)), (5, .int (q_I x23))] → f_M_apply_L72 x12 x13 k108 nf72 x23 μ24 = some (xo, μo) → W p l e ({ frames := 7, cells := 0, slots := 0, locals := 162 } : Room) s m args below meth c H locs 0 0 Qf (F0 m 72 ls []) := by
                  clear h hl hP hS
                  intro k108 hk108 nf72
                  induction nf72 with
                  | zero =>
                    intro x23 μ24 H locs ls r23 hP hS hl h
                    rw [f_M_apply_L72] at h
                    cases h
                  | succ nf72 ih72 =>
                    intro x23 μ24 H locs ls r23 hP hS hl h
                    rw [f_M_apply_L72] at h
                    refine lv_iload hx hb dX11_apply_72 (lv_at hl 4 rfl) ?_
                    refine lv_iconst (v := q_I 4) hx hb dX11_apply_74 rfl ?_
                    refine q_cge hx hb r23 (q_r 4 rfl) (tgt := 108) dX11_apply_75 (by decide) h ?_ ?_
                    · clear h; intro g33 h
                      exact hk108 μ24 _ _ _ hP hS (lv_sub hl [0, 1, 2, 3] rfl) h
                    · clear h; intro g33 h
                      refine lv_aload_n hx hb dX11_apply_78 rfl (lv_at hl 0 rfl) ?_
                      refine q_getR hx hb hts hown hK hP fd_RX11_7 (Nat.le_of_ble_eq_true rfl) q_kdM_0 rfl q_rhM_0_1 dX11_apply_79 ?_
                      refine lv_sipush (v := q_I 1264) hx hb dX11_apply_82 (by decide) ?_
                      refine lv_bipush (v := q_I 6) hx hb dX11_apply_85 (by decide) ?_
                      refine lv_iload_n hx hb dX11_apply_87 rfl (lv_at hl 2 rfl) ?_
                      refine q_imul hx hb dX11_apply_88 h ?_
                      clear h; intro x26 r26 h
                      refine q_iadd hx hb dX11_apply_89 h ?_
                      clear h; intro x27 r27 h
                      refine lv_iload hx hb dX11_apply_90 (lv_at hl 4 rfl) ?_
                      refine q_iadd hx hb dX11_apply_92 h ?_
                      clear h; intro x28 r28 h
                      refine lv_aload_n hx hb dX11_apply_93 rfl (lv_at hl 0 rfl) ?_
                      refine lv_iload hx hb dX11_apply_94 (lv_at hl 3 rfl) ?_
                      refine lv_iload hx hb dX11_apply_96 (lv_at hl 4 rfl) ?_
                      obtain ⟨x30, hv29, h⟩ := q_b_some h
                      refine q_callV hx hb hml hts hown hK hP hS (As := [.int (q_I x13), .int (q_I x23)]) (rest := [.int (q_I x28), .ref (z + 1)]) (st1 := [.int (q_I x30), .int (q_I x28), .ref (z + 1)]) cv_RX11_114 (c_M_ofMessage l D dA r13 r23 hv29) (Nat.le_of_ble_eq_true rfl) q_kdM_0 rfl ⟨rfl, rfl, Nat.le_of_ble_eq_true rfl, Nat.le_of_ble_eq_true rfl⟩ ⟨Nat.le_refl _, Nat.le_refl _⟩ rfl hl.1 rfl (Nat.le_of_ble_eq_true rfl) rfl (fun _ g => g) dX11_apply_98 ?_
                      clear hP hS hv29; intro H locs r30 hP hS _
                      refine q_iast hx hb hK hP hS hA (Nat.le_of_ble_eq_true rfl) q_kdM_1 r28 r30 dX11_apply_101 h ?_
                      clear h hP hS; intro μ31 H locs hP hS h
                      refine q_iinc (k := 4) (lv' := fun t => [(5, .int (q_I t)), (0, .ref (z + 0)), (1, .int (q_I a0)), (3, .int (q_I x12)), (4, .int (q_I x13))]) hx hb dX11_apply_102 hl rfl (by decide) (fun _ => rfl) h ?_
                      clear h hl; intro x32 ls r32 hl h
                      refine lv_goto (tgt := 72) hx hb dX11_apply_105 (by decide) ?_
                      exact ih72 x32 μ31 _ _ _ r32 hP hS (lv_sub hl [1, 2, 3, 4, 0] rfl) h
                refine L72 _ ?_  _ 0 μ14 _ _ _ (q_r 0 rfl) hP hS (lv_sub hl [1, 2, 3, 4, 0] rfl) h
                · clear h hl hP hS; intro μ25 H locs ls  hP hS hl h
                  refine q_iinc (k := 2) (lv' := fun t => [(3, .int (q_I t)), (0, .ref (z + 0)), (1, .int (q_I a0)), (4, .int (q_I x13))]) hx hb dX11_apply_108 hl rfl (by decide) (fun _ => rfl) h ?_
                  clear h hl; intro x34 ls r34 hl h
                  exact hj111 x34 μ25 _ _ _ r34 hP hS (lv_sub hl [1, 2, 0, 3] rfl) h
      refine L48 _ ?_  _ 0 0 μ11 _ _ _ (q_r 0 rfl) (q_r 0 rfl) hP hS (lv_sub hl [2, 3, 1, 0] rfl) h
      · clear h hl hP hS; intro x15 μ16 H locs ls r15 hP hS hl h
        refine lv_iconst (v := q_I 0) hx hb dX11_apply_117 rfl ?_
        refine lv_istore (lv' := [(4, .int (q_I 0)), (0, .ref (z + 0)), (1, .int (q_I a0)), (3, .int (q_I x15))]) hx hb dX11_apply_118 hl (by decide) rfl ?_
        clear hl; intro ls hl
        have L120 : ∀ (k166 : q_M → Option (Int × q_M)), (∀ (μ39 : q_M) (H : Heap) (locs : List Loc) (ls : Array Slot), q_P D dA q_kdM q_rhoM 22 z sz μ39 H → va_S (q_A z 22) s.heap H locs → lv_has ls 8 [(0, .ref (z + 0)), (1, .int (q_I a0)), (3, .int (q_I x15))] → k166 μ39 = some (xo, μo) → W p l e ({ frames := 7, cells := 0, slots := 0, locals := 162 } : Room) s m args below meth c H locs 0 0 Qf (F0 m 166 ls [])) → ∀ (nf120 : Nat) (x37 : Int) (μ38 : q_M) (H : Heap) (locs : List Loc) (ls : Array Slot), q_R x37 → q_P D dA q_kdM q_rhoM 22 z sz μ38 H → va_S (q_A z 22) s.heap H locs → lv_has ls 8 [(0, .ref (z + 0)), (1, .int (q_I a0)), (3, .int (q_I x15)), (4, .int (q_I x37))] → f_M_apply_L120 x15 k166 nf120 x37 μ38 = some (xo, μo) → W p l e ({ frames := 7, cells := 0, slots := 0, locals := 162 } : Room) s m args below meth c H locs 0 0 Qf (F0 m 120 ls []) := by
          clear h hl hP hS
          intro k166 hk166 nf120
          induction nf120 with
          | zero =>
            intro x37 μ38 H locs ls r37 hP hS hl h
            rw [f_M_apply_L120] at h
            cases h
          | succ nf120 ih120 =>
            intro x37 μ38 H locs ls r37 hP hS hl h
            rw [f_M_apply_L120] at h
            refine lv_iload hx hb dX11_apply_120 (lv_at hl 3 rfl) ?_
            refine lv_iload_n hx hb dX11_apply_122 rfl (lv_at hl 2 rfl) ?_
            refine q_cge hx hb r37 r15 (tgt := 166) dX11_apply_123 (by decide) h ?_ ?_
            · clear h; intro g49 h
              exact hk166 μ38 _ _ _ hP hS (lv_sub hl [0, 1, 2] rfl) h
            · clear h; intro g49 h
              refine lv_aload_n hx hb dX11_apply_126 rfl (lv_at hl 0 rfl) ?_
              refine q_getR hx hb hts hown hK hP fd_RX11_7 (Nat.le_of_ble_eq_true rfl) q_kdM_0 rfl q_rhM_0_1 dX11_apply_127 ?_
              refine lv_sipush (v := q_I 1264) hx hb dX11_apply_130 (by decide) ?_
              refine lv_bipush (v := q_I 6) hx hb dX11_apply_133 (by decide) ?_
              refine lv_iload hx hb dX11_apply_135 (lv_at hl 3 rfl) ?_
              refine q_imul hx hb dX11_apply_137 h ?_
              clear h; intro x40 r40 h
              refine q_iadd hx hb dX11_apply_138 h ?_
              clear h; intro x41 r41 h
              refine lv_iconst (v := q_I 4) hx hb dX11_apply_139 rfl ?_
              refine q_iadd hx hb dX11_apply_140 h ?_
              clear h; intro x42 r42 h
              refine lv_iconst (v := q_I (-1)) hx hb dX11_apply_141 rfl ?_
              refine q_iast hx hb hK hP hS hA (Nat.le_of_ble_eq_true rfl) q_kdM_1 r42 (q_r (-1) rfl) dX11_apply_142 h ?_
              clear h hP hS; intro μ43 H locs hP hS h
              refine lv_aload_n hx hb dX11_apply_143 rfl (lv_at hl 0 rfl) ?_
              refine q_getR hx hb hts hown hK hP fd_RX11_7 (Nat.le_of_ble_eq_true rfl) q_kdM_0 rfl q_rhM_0_1 dX11_apply_144 ?_
              refine lv_sipush (v := q_I 1264) hx hb dX11_apply_147 (by decide) ?_
              refine lv_bipush (v := q_I 6) hx hb dX11_apply_150 (by decide) ?_
              refine lv_iload hx hb dX11_apply_152 (lv_at hl 3 rfl) ?_
              refine q_imul hx hb dX11_apply_154 h ?_
              clear h; intro x44 r44 h
              refine q_iadd hx hb dX11_apply_155 h ?_
              clear h; intro x45 r45 h
              refine lv_iconst (v := q_I 5) hx hb dX11_apply_156 rfl ?_
              refine q_iadd hx hb dX11_apply_157 h ?_
              clear h; intro x46 r46 h
              refine lv_iconst (v := q_I (-1)) hx hb dX11_apply_158 rfl ?_
              refine q_iast hx hb hK hP hS hA (Nat.le_of_ble_eq_true rfl) q_kdM_1 r46 (q_r (-1) rfl) dX11_apply_159 h ?_
              clear h hP hS; intro μ47 H locs hP hS h
              refine q_iinc (k := 3) (lv' := fun t => [(4, .int (q_I t)), (0, .ref (z + 0)), (1, .int (q_I a0)), (3, .int (q_I x15))]) hx hb dX11_apply_160 hl rfl (by decide) (fun _ => rfl) h ?_
              clear h hl; intro x48 ls r48 hl h
              refine lv_goto (tgt := 120) hx hb dX11_apply_163 (by decide) ?_
              exact ih120 x48 μ47 _ _ _ r48 hP hS (lv_sub hl [1, 2, 3, 0] rfl) h
        refine L120 _ ?_  _ 0 μ16 _ _ _ (q_r 0 rfl) hP hS (lv_sub hl [1, 2, 3, 0] rfl) h
        · clear h hl hP hS; intro μ39 H locs ls  hP hS hl h
          refine lv_aload_n hx hb dX11_apply_166 rfl (lv_at hl 0 rfl) ?_
          refine q_getR hx hb hts hown hK hP fd_RX11_7 (Nat.le_of_ble_eq_true rfl) q_kdM_0 rfl q_rhM_0_1 dX11_apply_167 ?_
          refine lv_bipush (v := q_I 37) hx hb dX11_apply_170 (by decide) ?_
          refine lv_iload_n hx hb dX11_apply_172 rfl (lv_at hl 2 rfl) ?_
          refine q_iast hx hb hK hP hS hA (Nat.le_of_ble_eq_true rfl) q_kdM_1 (q_r 37 rfl) r15 dX11_apply_173 h ?_
          clear h hP hS; intro μ50 H locs hP hS h
          refine lv_aload_n hx hb dX11_apply_174 rfl (lv_at hl 0 rfl) ?_
          refine q_getR hx hb hts hown hK hP fd_RX11_7 (Nat.le_of_ble_eq_true rfl) q_kdM_0 rfl q_rhM_0_1 dX11_apply_175 ?_
          refine lv_bipush (v := q_I 36) hx hb dX11_apply_178 (by decide) ?_
          refine lv_iconst (v := q_I 0) hx hb dX11_apply_180 rfl ?_
          refine q_iast hx hb hK hP hS hA (Nat.le_of_ble_eq_true rfl) q_kdM_1 (q_r 36 rfl) (q_r 0 rfl) dX11_apply_181 h ?_
          clear h hP hS; intro μ51 H locs hP hS h
          refine lv_iconst (v := q_I 0) hx hb dX11_apply_182 rfl ?_
          refine lv_istore (lv' := [(4, .int (q_I 0)), (0, .ref (z + 0)), (1, .int (q_I a0)), (3, .int (q_I x15))]) hx hb dX11_apply_183 hl (by decide) rfl ?_
          clear hl; intro ls hl
          have L185 : ∀ (k219 : q_M → Option (Int × q_M)), (∀ (μ54 : q_M) (H : Heap) (locs : List Loc) (ls : Array Slot), q_P D dA q_kdM q_rhoM 22 z sz μ54 H → va_S (q_A z 22) s.heap H locs → lv_has ls 8 [(0, .ref (z + 0)), (1, .int (q_I a0))] → k219 μ54 = some (xo, μo) → W p l e ({ frames := 7, cells := 0, slots := 0, locals := 162 } : Room) s m args below meth c H locs 0 0 Qf (F0 m 219 ls [])) → ∀ (nf185 : Nat) (x52 : Int) (μ53 : q_M) (H : Heap) (locs : List Loc) (ls : Array Slot), q_R x52 → q_P D dA q_kdM q_rhoM 22 z sz μ53 H → va_S (q_A z 22) s.heap H locs → lv_has ls 8 [(0, .ref (z + 0)), (1, .int (q_I a0)), (4, .int (q_I x52))] → f_M_apply_L185  k219 nf185 x52 μ53 = some (xo, μo) → W p l e ({ frames := 7, cells := 0, slots := 0, locals := 162 } : Room) s m args below meth c H locs 0 0 Qf (F0 m 185 ls []) := by
            clear h hl hP hS
            intro k219 hk219 nf185
            induction nf185 with
            | zero =>
              intro x52 μ53 H locs ls r52 hP hS hl h
              rw [f_M_apply_L185] at h
              cases h
            | succ nf185 ih185 =>
              intro x52 μ53 H locs ls r52 hP hS hl h
              rw [f_M_apply_L185] at h
              refine lv_iload hx hb dX11_apply_185 (lv_at hl 2 rfl) ?_
              refine lv_iconst (v := q_I 5) hx hb dX11_apply_187 rfl ?_
              refine q_cge hx hb r52 (q_r 5 rfl) (tgt := 219) dX11_apply_188 (by decide) h ?_ ?_
              · clear h; intro g60 h
                exact hk219 μ53 _ _ _ hP hS (lv_sub hl [0, 1] rfl) h
              · clear h; intro g60 h
                refine lv_aload_n hx hb dX11_apply_191 rfl (lv_at hl 0 rfl) ?_
                refine q_getR hx hb hts hown hK hP fd_RX11_7 (Nat.le_of_ble_eq_true rfl) q_kdM_0 rfl q_rhM_0_1 dX11_apply_192 ?_
                refine lv_bipush (v := q_I 20) hx hb dX11_apply_195 (by decide) ?_
                refine lv_iload hx hb dX11_apply_197 (lv_at hl 2 rfl) ?_
                refine q_iadd hx hb dX11_apply_199 h ?_
                clear h; intro x55 r55 h
                refine lv_iconst (v := q_I 0) hx hb dX11_apply_200 rfl ?_
                refine q_iast hx hb hK hP hS hA (Nat.le_of_ble_eq_true rfl) q_kdM_1 r55 (q_r 0 rfl) dX11_apply_201 h ?_
                clear h hP hS; intro μ56 H locs hP hS h
                refine lv_aload_n hx hb dX11_apply_202 rfl (lv_at hl 0 rfl) ?_
                refine q_getR hx hb hts hown hK hP fd_RX11_7 (Nat.le_of_ble_eq_true rfl) q_kdM_0 rfl q_rhM_0_1 dX11_apply_203 ?_
                refine lv_bipush (v := q_I 25) hx hb dX11_apply_206 (by decide) ?_
                refine lv_iload hx hb dX11_apply_208 (lv_at hl 2 rfl) ?_
                refine q_iadd hx hb dX11_apply_210 h ?_
                clear h; intro x57 r57 h
                refine lv_iconst (v := q_I 0) hx hb dX11_apply_211 rfl ?_
                refine q_iast hx hb hK hP hS hA (Nat.le_of_ble_eq_true rfl) q_kdM_1 r57 (q_r 0 rfl) dX11_apply_212 h ?_
                clear h hP hS; intro μ58 H locs hP hS h
                refine q_iinc (k := 2) (lv' := fun t => [(4, .int (q_I t)), (0, .ref (z + 0)), (1, .int (q_I a0))]) hx hb dX11_apply_213 hl rfl (by decide) (fun _ => rfl) h ?_
                clear h hl; intro x59 ls r59 hl h
                refine lv_goto (tgt := 185) hx hb dX11_apply_216 (by decide) ?_
                exact ih185 x59 μ58 _ _ _ r59 hP hS (lv_sub hl [1, 2, 0] rfl) h
          refine L185 _ ?_  _ 0 μ51 _ _ _ (q_r 0 rfl) hP hS (lv_sub hl [1, 2, 0] rfl) h
          · clear h hl hP hS; intro μ54 H locs ls  hP hS hl h
            refine lv_iconst (v := q_I 0) hx hb dX11_apply_219 rfl ?_
            refine lv_istore (lv' := [(4, .int (q_I 0)), (0, .ref (z + 0)), (1, .int (q_I a0))]) hx hb dX11_apply_220 hl (by decide) rfl ?_
            clear hl; intro ls hl
            have L222 : ∀ (k272 : q_M → Option (Int × q_M)), (∀ (μ63 : q_M) (H : Heap) (locs : List Loc) (ls : Array Slot), q_P D dA q_kdM q_rhoM 22 z sz μ63 H → va_S (q_A z 22) s.heap H locs → lv_has ls 8 [(0, .ref (z + 0)), (1, .int (q_I a0))] → k272 μ63 = some (xo, μo) → W p l e ({ frames := 7, cells := 0, slots := 0, locals := 162 } : Room) s m args below meth c H locs 0 0 Qf (F0 m 272 ls [])) → ∀ (nf222 : Nat) (x61 : Int) (μ62 : q_M) (H : Heap) (locs : List Loc) (ls : Array Slot), q_R x61 → q_P D dA q_kdM q_rhoM 22 z sz μ62 H → va_S (q_A z 22) s.heap H locs → lv_has ls 8 [(0, .ref (z + 0)), (1, .int (q_I a0)), (4, .int (q_I x61))] → f_M_apply_L222  k272 nf222 x61 μ62 = some (xo, μo) → W p l e ({ frames := 7, cells := 0, slots := 0, locals := 162 } : Room) s m args below meth c H locs 0 0 Qf (F0 m 222 ls []) := by
              clear h hl hP hS
              intro k272 hk272 nf222
              induction nf222 with
              | zero =>
                intro x61 μ62 H locs ls r61 hP hS hl h
                rw [f_M_apply_L222] at h
                cases h
              | succ nf222 ih222 =>
                intro x61 μ62 H locs ls r61 hP hS hl h
                rw [f_M_apply_L222] at h
                refine lv_iload hx hb dX11_apply_222 (lv_at hl 2 rfl) ?_
                refine lv_iconst (v := q_I 2) hx hb dX11_apply_224 rfl ?_
                refine lv_aload_n hx hb dX11_apply_225 rfl (lv_at hl 0 rfl) ?_
                refine q_getI hx hb hts hown hK hP fd_RX11_79 (Nat.le_of_ble_eq_true rfl) q_kdM_0 rfl dX11_apply_226 h ?_
                clear h; intro x64 r64 h
                refine q_imul hx hb dX11_apply_229 h ?_
                clear h; intro x65 r65 h
                refine q_cge hx hb r61 r65 (tgt := 272) dX11_apply_230 (by decide) h ?_ ?_
                · clear h; intro g73 h
                  exact hk272 μ62 _ _ _ hP hS (lv_sub hl [0, 1] rfl) h
                · clear h; intro g73 h
                  refine lv_aload_n hx hb dX11_apply_233 rfl (lv_at hl 0 rfl) ?_
                  refine q_getR hx hb hts hown hK hP fd_RX11_7 (Nat.le_of_ble_eq_true rfl) q_kdM_0 rfl q_rhM_0_1 dX11_apply_234 ?_
                  refine lv_iconst (v := q_I 0) hx hb dX11_apply_237 rfl ?_
                  refine lv_iload hx hb dX11_apply_238 (lv_at hl 2 rfl) ?_
                  refine q_iadd hx hb dX11_apply_240 h ?_
                  clear h; intro x66 r66 h
                  refine lv_aload_n hx hb dX11_apply_241 rfl (lv_at hl 0 rfl) ?_
                  refine q_getR hx hb hts hown hK hP fd_RX11_72 (Nat.le_of_ble_eq_true rfl) q_kdM_0 rfl q_rhM_0_30 dX11_apply_242 ?_
                  refine lv_iload hx hb dX11_apply_245 (lv_at hl 2 rfl) ?_
                  refine q_iald hx hb hK hP (Nat.le_of_ble_eq_true rfl) q_kdM_21 r61 dX11_apply_247 h ?_
                  clear h; intro x67 r67 h
                  refine q_iast hx hb hK hP hS hA (Nat.le_of_ble_eq_true rfl) q_kdM_1 r66 r67 dX11_apply_248 h ?_
                  clear h hP hS; intro μ68 H locs hP hS h
                  refine lv_aload_n hx hb dX11_apply_249 rfl (lv_at hl 0 rfl) ?_
                  refine q_getR hx hb hts hown hK hP fd_RX11_7 (Nat.le_of_ble_eq_true rfl) q_kdM_0 rfl q_rhM_0_1 dX11_apply_250 ?_
                  refine lv_bipush (v := q_I 10) hx hb dX11_apply_253 (by decide) ?_
                  refine lv_iload hx hb dX11_apply_255 (lv_at hl 2 rfl) ?_
                  refine q_iadd hx hb dX11_apply_257 h ?_
                  clear h; intro x69 r69 h
                  refine lv_aload_n hx hb dX11_apply_258 rfl (lv_at hl 0 rfl) ?_
                  refine q_getR hx hb hts hown hK hP fd_RX11_72 (Nat.le_of_ble_eq_true rfl) q_kdM_0 rfl q_rhM_0_30 dX11_apply_259 ?_
                  refine lv_iload hx hb dX11_apply_262 (lv_at hl 2 rfl) ?_
                  refine q_iald hx hb hK hP (Nat.le_of_ble_eq_true rfl) q_kdM_21 r61 dX11_apply_264 h ?_
                  clear h; intro x70 r70 h
                  refine q_iast hx hb hK hP hS hA (Nat.le_of_ble_eq_true rfl) q_kdM_1 r69 r70 dX11_apply_265 h ?_
                  clear h hP hS; intro μ71 H locs hP hS h
                  refine q_iinc (k := 2) (lv' := fun t => [(4, .int (q_I t)), (0, .ref (z + 0)), (1, .int (q_I a0))]) hx hb dX11_apply_266 hl rfl (by decide) (fun _ => rfl) h ?_
                  clear h hl; intro x72 ls r72 hl h
                  refine lv_goto (tgt := 222) hx hb dX11_apply_269 (by decide) ?_
                  exact ih222 x72 μ71 _ _ _ r72 hP hS (lv_sub hl [1, 2, 0] rfl) h
            refine L222 _ ?_  _ 0 μ54 _ _ _ (q_r 0 rfl) hP hS (lv_sub hl [1, 2, 0] rfl) h
            · clear h hl hP hS; intro μ63 H locs ls  hP hS hl h
              refine lv_aload_n hx hb dX11_apply_272 rfl (lv_at hl 0 rfl) ?_
              obtain ⟨μ75, hv74, h⟩ := q_b_some h
              refine q_callV hx hb hml hts hown hK hP hS (As := []) (rest := []) (st1 := []) cv_RX11_83 (c_M_clearSnapshot l D dA hv74) (Nat.le_of_ble_eq_true rfl) q_kdM_0 rfl ⟨rfl, rfl, Nat.le_of_ble_eq_true rfl, Nat.le_of_ble_eq_true rfl⟩ ⟨Nat.le_refl _, Nat.le_refl _⟩ rfl hl.1 rfl (Nat.le_of_ble_eq_true rfl) rfl (fun _ g => g) dX11_apply_273 ?_
              clear hP hS hv74; intro H locs _ hP hS _
              refine lv_iconst (v := q_I 0) hx hb dX11_apply_276 rfl ?_
              refine lv_istore (lv' := [(4, .int (q_I 0)), (0, .ref (z + 0)), (1, .int (q_I a0))]) hx hb dX11_apply_277 hl (by decide) rfl ?_
              clear hl; intro ls hl
              have L279 : ∀ (k384 : q_M → Option (Int × q_M)), (∀ (μ78 : q_M) (H : Heap) (locs : List Loc) (ls : Array Slot), q_P D dA q_kdM q_rhoM 22 z sz μ78 H → va_S (q_A z 22) s.heap H locs → lv_has ls 8 [(0, .ref (z + 0))] → k384 μ78 = some (xo, μo) → W p l e ({ frames := 7, cells := 0, slots := 0, locals := 162 } : Room) s m args below meth c H locs 0 0 Qf (F0 m 384 ls [])) → ∀ (nf279 : Nat) (x76 : Int) (μ77 : q_M) (H : Heap) (locs : List Loc) (ls : Array Slot), q_R x76 → q_P D dA q_kdM q_rhoM 22 z sz μ77 H → va_S (q_A z 22) s.heap H locs → lv_has ls 8 [(0, .ref (z + 0)), (1, .int (q_I a0)), (4, .int (q_I x76))] → f_M_apply_L279 N a0 k384 nf279 x76 μ77 = some (xo, μo) → W p l e ({ frames := 7, cells := 0, slots := 0, locals := 162 } : Room) s m args below meth c H locs 0 0 Qf (F0 m 279 ls []) := by
                clear h hl hP hS
                intro k384 hk384 nf279
                induction nf279 with
                | zero =>
                  intro x76 μ77 H locs ls r76 hP hS hl h
                  rw [f_M_apply_L279] at h
                  cases h
                | succ nf279 ih279 =>
                  intro x76 μ77 H locs ls r76 hP hS hl h
                  rw [f_M_apply_L279] at h
                  refine lv_iload hx hb dX11_apply_279 (lv_at hl 2 rfl) ?_
                  refine lv_aload_n hx hb dX11_apply_281 rfl (lv_at hl 0 rfl) ?_
                  refine q_getR hx hb hts hown hK hP fd_RX11_13 (Nat.le_of_ble_eq_true rfl) q_kdM_0 rfl q_rhM_0_2 dX11_apply_282 ?_
                  refine lv_bipush (v := q_I 36) hx hb dX11_apply_285 (by decide) ?_
                  refine q_iald hx hb hK hP (Nat.le_of_ble_eq_true rfl) q_kdM_2 (q_r 36 rfl) dX11_apply_287 h ?_
                  clear h; intro x79 r79 h
                  refine q_cge hx hb r76 r79 (tgt := 384) dX11_apply_288 (by decide) h ?_ ?_
                  · clear h; intro g106 h
                    exact hk384 μ77 _ _ _ hP hS (lv_sub hl [0] rfl) h
                  · clear h; intro g106 h
                    refine lv_bipush (v := q_I 64) hx hb dX11_apply_291 (by decide) ?_
                    refine lv_bipush (v := q_I 12) hx hb dX11_apply_293 (by decide) ?_
                    refine lv_iload hx hb dX11_apply_295 (lv_at hl 2 rfl) ?_
                    refine q_imul hx hb dX11_apply_297 h ?_
                    clear h; intro x80 r80 h
                    refine q_iadd hx hb dX11_apply_298 h ?_
                    clear h; intro x81 r81 h
                    refine lv_istore (lv' := [(5, .int (q_I x81)), (0, .ref (z + 0)), (1, .int (q_I a0)), (4, .int (q_I x76))]) hx hb dX11_apply_299 hl (by decide) rfl ?_
                    clear hl; intro ls hl
                    refine lv_aload_n hx hb dX11_apply_301 rfl (lv_at hl 1 rfl) ?_
                    refine lv_iconst (v := q_I 0) hx hb dX11_apply_302 rfl ?_
                    obtain ⟨x83, hv82, h⟩ := q_b_some h
                    refine q_callV hx hb hml hts hown hK hP hS (As := [.int (q_I 0)]) (rest := []) (st1 := [.int (q_I x83)]) cv_RX11_210 (c_M_brokenNow l D dA (q_r 0 rfl) hv82) (Nat.le_of_ble_eq_true rfl) q_kdM_0 rfl ⟨rfl, rfl, Nat.le_of_ble_eq_true rfl, Nat.le_of_ble_eq_true rfl⟩ ⟨Nat.le_refl _, Nat.le_refl _⟩ rfl hl.1 rfl (Nat.le_of_ble_eq_true rfl) rfl (fun _ g => g) dX11_apply_303 ?_
                    clear hP hS hv82; intro H locs r83 hP hS _
                    refine lv_istore (lv' := [(6, .int (q_I x83)), (5, .int (q_I x81)), (0, .ref (z + 0)), (1, .int (q_I a0)), (4, .int (q_I x76))]) hx hb dX11_apply_306 hl (by decide) rfl ?_
                    clear hl; intro ls hl
                    refine lv_aload_n hx hb dX11_apply_308 rfl (lv_at hl 2 rfl) ?_
                    refine q_getR hx hb hts hown hK hP fd_RX11_13 (Nat.le_of_ble_eq_true rfl) q_kdM_0 rfl q_rhM_0_2 dX11_apply_309 ?_
                    refine lv_iload hx hb dX11_apply_312 (lv_at hl 1 rfl) ?_
                    refine lv_bipush (v := q_I 6) hx hb dX11_apply_314 (by decide) ?_
                    refine q_iadd hx hb dX11_apply_316 h ?_
                    clear h; intro x84 r84 h
                    refine q_iald hx hb hK hP (Nat.le_of_ble_eq_true rfl) q_kdM_2 r84 dX11_apply_317 h ?_
                    clear h; intro x85 r85 h
                    refine lv_aload_n hx hb dX11_apply_318 rfl (lv_at hl 2 rfl) ?_
                    refine q_getR hx hb hts hown hK hP fd_RX11_13 (Nat.le_of_ble_eq_true rfl) q_kdM_0 rfl q_rhM_0_2 dX11_apply_319 ?_
                    refine lv_bipush (v := q_I 20) hx hb dX11_apply_322 (by decide) ?_
                    refine lv_aload_n hx hb dX11_apply_324 rfl (lv_at hl 2 rfl) ?_
                    refine q_getR hx hb hts hown hK hP fd_RX11_13 (Nat.le_of_ble_eq_true rfl) q_kdM_0 rfl q_rhM_0_2 dX11_apply_325 ?_
                    refine lv_iload hx hb dX11_apply_328 (lv_at hl 1 rfl) ?_
                    refine q_iald hx hb hK hP (Nat.le_of_ble_eq_true rfl) q_kdM_2 r81 dX11_apply_330 h ?_
                    clear h; intro x86 r86 h
                    refine q_iadd hx hb dX11_apply_331 h ?_
                    clear h; intro x87 r87 h
                    refine q_iald hx hb hK hP (Nat.le_of_ble_eq_true rfl) q_kdM_2 r87 dX11_apply_332 h ?_
                    clear h; intro x88 r88 h
                    refine q_jn_in h (fun J => ∀ (x89 : Int) (H : Heap) (locs : List Loc) (ls : Array Slot), q_R x89 → q_P D dA q_kdM q_rhoM 22 z sz μ77 H → va_S (q_A z 22) s.heap H locs → lv_has ls 8 [(0, .ref (z + 0)), (1, .int (q_I a0)), (4, .int (q_I x76)), (5, .int (q_I x81)), (6, .int (q_I x83))] → J x89 = some (xo, μo) → W p l e ({ frames := 7, cells := 0, slots := 0, locals := 162 } : Room) s m args below meth c H locs 0 0 Qf (F0 m 341 ls [.int (q_I x89)])) ?_ ?_
                    · clear h hl hP hS; intro x89 H locs ls r89 hP hS hl h
                      refine lv_istore (lv' := [(7, .int (q_I x89)), (0, .ref (z + 0)), (1, .int (q_I a0)), (4, .int (q_I x76)), (5, .int (q_I x81)), (6, .int (q_I x83))]) hx hb dX11_apply_341 hl (by decide) rfl ?_
                      clear hl; intro ls hl
                      refine lv_iload hx hb dX11_apply_343 (lv_at hl 0 rfl) ?_
                      refine q_jn_in h (fun J => ∀ (μ90 : q_M) (H : Heap) (locs : List Loc) (ls : Array Slot), q_P D dA q_kdM q_rhoM 22 z sz μ90 H → va_S (q_A z 22) s.heap H locs → lv_has ls 8 [(0, .ref (z + 0)), (1, .int (q_I a0)), (4, .int (q_I x76))] → J μ90 = some (xo, μo) → W p l e ({ frames := 7, cells := 0, slots := 0, locals := 162 } : Room) s m args below meth c H locs 0 0 Qf (F0 m 378 ls [])) ?_ ?_
                      · clear h hl hP hS; intro μ90 H locs ls  hP hS hl h
                        refine q_iinc (k := 2) (lv' := fun t => [(4, .int (q_I t)), (0, .ref (z + 0)), (1, .int (q_I a0))]) hx hb dX11_apply_378 hl rfl (by decide) (fun _ => rfl) h ?_
                        clear h hl; intro x91 ls r91 hl h
                        refine lv_goto (tgt := 279) hx hb dX11_apply_381 (by decide) ?_
                        exact ih279 x91 μ90 _ _ _ r91 hP hS (lv_sub hl [1, 2, 0] rfl) h
                      · clear h; intro j378 hj378 h
                        refine q_zne hx hb r89 (tgt := 378) dX11_apply_345 (by decide) h ?_ ?_
                        · clear h; intro g104 h
                          refine lv_aload_n hx hb dX11_apply_348 rfl (lv_at hl 1 rfl) ?_
                          refine lv_iload hx hb dX11_apply_349 (lv_at hl 4 rfl) ?_
                          obtain ⟨x93, μ94, hv92, h⟩ := q_b2_some h
                          refine q_callV hx hb hml hts hown hK hP hS (As := [.int (q_I x81)]) (rest := []) (st1 := [.int (q_I x93)]) cv_RX11_261 (c_M_happensAgain l D dA r81 hv92) (Nat.le_of_ble_eq_true rfl) q_kdM_0 rfl ⟨rfl, rfl, Nat.le_of_ble_eq_true rfl, Nat.le_of_ble_eq_true rfl⟩ ⟨Nat.le_refl _, Nat.le_refl _⟩ rfl hl.1 rfl (Nat.le_of_ble_eq_true rfl) rfl (fun _ g => g) dX11_apply_351 ?_
                          clear hP hS hv92; intro H locs r93 hP hS _
                          refine q_zeq hx hb r93 (tgt := 378) dX11_apply_354 (by decide) h ?_ ?_
                          · clear h; intro g103 h
                            exact hj378 μ94 _ _ _ hP hS (lv_sub hl [1, 2, 3] rfl) h
                          · clear h; intro g103 h
                            refine lv_iload_n hx hb dX11_apply_357 rfl (lv_at hl 2 rfl) ?_
                            refine q_zeq hx hb ra0 (tgt := 378) dX11_apply_358 (by decide) h ?_ ?_
                            · clear h; intro g102 h
                              exact hj378 μ94 _ _ _ hP hS (lv_sub hl [1, 2, 3] rfl) h
                            · clear h; intro g102 h
                              refine lv_aload_n hx hb dX11_apply_361 rfl (lv_at hl 1 rfl) ?_
                              refine lv_iconst (v := q_I 0) hx hb dX11_apply_362 rfl ?_
                              obtain ⟨x96, hv95, h⟩ := q_b_some h
                              refine q_callV hx hb hml hts hown hK hP hS (As := [.int (q_I 0)]) (rest := []) (st1 := [.int (q_I x96)]) cv_RX11_210 (c_M_brokenNow l D dA (q_r 0 rfl) hv95) (Nat.le_of_ble_eq_true rfl) q_kdM_0 rfl ⟨rfl, rfl, Nat.le_of_ble_eq_true rfl, Nat.le_of_ble_eq_true rfl⟩ ⟨Nat.le_refl _, Nat.le_refl _⟩ rfl hl.1 rfl (Nat.le_of_ble_eq_true rfl) rfl (fun _ g => g) dX11_apply_363 ?_
                              clear hP hS hv95; intro H locs r96 hP hS _
                              refine lv_iload hx hb dX11_apply_366 (lv_at hl 5 rfl) ?_
                              refine lv_iconst (v := q_I (-1)) hx hb dX11_apply_368 rfl ?_
                              refine q_ixor hx hb dX11_apply_369 h ?_
                              clear h; intro x97 r97 h
                              refine q_iand hx hb dX11_apply_370 h ?_
                              clear h; intro x98 r98 h
                              refine q_zeq hx hb r98 (tgt := 378) dX11_apply_371 (by decide) h ?_ ?_
                              · clear h; intro g101 h
                                exact hj378 μ94 _ _ _ hP hS (lv_sub hl [1, 2, 3] rfl) h
                              · clear h; intro g101 h
                                refine lv_aload_n hx hb dX11_apply_374 rfl (lv_at hl 1 rfl) ?_
                                obtain ⟨μ100, hv99, h⟩ := q_b_some h
                                refine q_callV hx hb hml hts hown hK hP hS (As := []) (rest := []) (st1 := []) cv_RX11_264 (c_M_takeBack l D dA hv99) (Nat.le_of_ble_eq_true rfl) q_kdM_0 rfl ⟨rfl, rfl, Nat.le_of_ble_eq_true rfl, Nat.le_of_ble_eq_true rfl⟩ ⟨Nat.le_refl _, Nat.le_refl _⟩ rfl hl.1 rfl (Nat.le_of_ble_eq_true rfl) rfl (fun _ g => g) dX11_apply_375 ?_
                                clear hP hS hv99; intro H locs _ hP hS _
                                exact hj378 μ100 _ _ _ hP hS (lv_sub hl [1, 2, 3] rfl) h
                        · clear h; intro g104 h
                          exact hj378 μ77 _ _ _ hP hS (lv_sub hl [1, 2, 3] rfl) h
                    · clear h; intro j341 hj341 h
                      refine q_cge hx hb r85 r88 (tgt := 340) dX11_apply_333 (by decide) h ?_ ?_
                      · clear h; intro g105 h
                        refine lv_iconst (v := q_I 0) hx hb dX11_apply_340 rfl ?_
                        exact hj341 0 _ _ _ (q_r 0 rfl) hP hS (lv_sub hl [2, 3, 4, 1, 0] rfl) h
                      · clear h; intro g105 h
                        refine lv_iconst (v := q_I 1) hx hb dX11_apply_336 rfl ?_
                        refine lv_goto (tgt := 341) hx hb dX11_apply_337 (by decide) ?_
                        exact hj341 1 _ _ _ (q_r 1 rfl) hP hS (lv_sub hl [2, 3, 4, 1, 0] rfl) h
              refine L279 _ ?_  _ 0 μ75 _ _ _ (q_r 0 rfl) hP hS (lv_sub hl [1, 2, 0] rfl) h
              · clear h hl hP hS; intro μ78 H locs ls  hP hS hl h
                refine lv_aload_n hx hb dX11_apply_384 rfl (lv_at hl 0 rfl) ?_
                refine q_getR hx hb hts hown hK hP fd_RX11_7 (Nat.le_of_ble_eq_true rfl) q_kdM_0 rfl q_rhM_0_1 dX11_apply_385 ?_
                refine lv_bipush (v := q_I 36) hx hb dX11_apply_388 (by decide) ?_
                refine q_iald hx hb hK hP (Nat.le_of_ble_eq_true rfl) q_kdM_1 (q_r 36 rfl) dX11_apply_390 h ?_
                clear h; intro x107 r107 h
                rw [← hQ]
                exact q_ret2 hx hb hr hlocks hP hS r107 h dX11_apply_391
  · clear h; intro g108 h
    refine lv_iload_n hx hb dX11_apply_9 rfl (lv_at hl 0 rfl) ?_
    rw [← hQ]
    exact q_ret2 hx hb hr hlocks hP hS r2 h dX11_apply_10
set_option maxHeartbeats 4000000 in
set_option maxRecDepth 100000 in
theorem c_M_restore (l : Launch) (D : va_G) (dA : Nat → ClassId) {z sz : Nat} {N : Nat} {μ : q_M} {xo : Int} {μo : q_M} (h : f_M_restore N μ = some (xo, μo)) : Met l yX11_restore (q_wc yX11_restore cX11_restore 2 (some .int)) ({ frames := 0, cells := 0, slots := 0, locals := 0 } : Room) (va_Pc [.ref (z + 0)] (q_B (q_P D dA q_kdM q_rhoM 22 z sz μ) D dA)) (q_Q (some (.int (q_I xo))) (q_R xo) (q_P D dA q_kdM q_rhoM 22 z sz μo) (q_A z 22)) 0 0 (q_A z 22) := by
  refine Met.ofW (cc := cX11_restore) (maxL := 2) (ret := (some .int)) (by decide) rfl ?_
  intro p e s m args below meth c s₁ B hml hv
  obtain ⟨hargs, hP, hK⟩ := hv
  have hx := B.exec
  have hb := B.bytes
  have hr := B.returns
  have hts : ∀ w ∈ q_W, w.before args s = true := fun w hw => atoms_spec (ws := q_wc yX11_restore cX11_restore 2 (some .int)) B.pre w (List.mem_cons_of_mem _ hw)
  have hown : s.vm.findClass RX11 = some m.cls := findClass_of_methodNamed B.named
  have hlocks := B.notSynchronized
  have hS : va_S (q_A z 22) s.heap s.heap [] := va_S.rf
  have hA : ∀ k, k < 22 → q_A z 22 (z + k) := fun k hk => ⟨Nat.le_add_right z k, Nat.add_lt_add_left hk z⟩
  have hl := lv_entry [.ref (z + 0)] (n := 2) (Nat.le_of_ble_eq_true rfl)
  refine W.eq (by rw [hargs, lg_entry_eq]) ?_
  generalize (lg_sl [.ref (z + 0)] ++ List.replicate (2 - (lg_sl [.ref (z + 0)]).length) Slot.unset).toArray = ls at hl ⊢
  have hl : lv_has ls 2 [(0, .ref (z + 0))] := hl
  generalize hQ : MQ below _ args s 0 0 _ = Qf
  change W p l e ({ frames := 0, cells := 0, slots := 0, locals := 0 } : Room) s m args below meth c s.heap [] 0 0 Qf (F0 m 0 ls [])
  unfold f_M_restore at h
  refine lv_aload_n hx hb dX11_restore_0 rfl (lv_at hl 0 rfl) ?_
  refine q_getI hx hb hts hown hK hP fd_RX11_86 (Nat.le_of_ble_eq_true rfl) q_kdM_0 rfl dX11_restore_1 h ?_
  clear h; intro x1 r1 h
  refine q_zne hx hb r1 (tgt := 10) dX11_restore_4 (by decide) h ?_ ?_
  · clear h; intro g11 h
    refine lv_ldc hx hb hown (hts _ ck_RX11_127) dX11_restore_7 ?_
    rw [← hQ]
    exact q_ret2 hx hb hr hlocks hP hS (q_r (-100006) rfl) h dX11_restore_9
  · clear h; intro g11 h
    refine lv_aload_n hx hb dX11_restore_10 rfl (lv_at hl 0 rfl) ?_
    refine lv_iconst (v := q_I 0) hx hb dX11_restore_11 rfl ?_
    refine q_putZ hx hb hts hown hK hP hS hA fd_RX11_86 (Nat.le_of_ble_eq_true rfl) q_kdM_0 rfl (q_r 0 rfl) dX11_restore_12 h ?_
    clear h hP hS; intro μ2 H locs hP hS h
    refine lv_iconst (v := q_I 0) hx hb dX11_restore_15 rfl ?_
    refine lv_istore_n (lv' := [(1, .int (q_I 0)), (0, .ref (z + 0))]) hx hb dX11_restore_16 rfl hl (by decide) rfl ?_
    clear hl; intro ls hl
    have L17 : ∀ (k42 : q_M → Option (Int × q_M)), (∀ (μ5 : q_M) (H : Heap) (locs : List Loc) (ls : Array Slot), q_P D dA q_kdM q_rhoM 22 z sz μ5 H → va_S (q_A z 22) s.heap H locs → lv_has ls 2 [(0, .ref (z + 0))] → k42 μ5 = some (xo, μo) → W p l e ({ frames := 0, cells := 0, slots := 0, locals := 0 } : Room) s m args below meth c H locs 0 0 Qf (F0 m 42 ls [])) → ∀ (nf17 : Nat) (x3 : Int) (μ4 : q_M) (H : Heap) (locs : List Loc) (ls : Array Slot), q_R x3 → q_P D dA q_kdM q_rhoM 22 z sz μ4 H → va_S (q_A z 22) s.heap H locs → lv_has ls 2 [(0, .ref (z + 0)), (1, .int (q_I x3))] → f_M_restore_L17  k42 nf17 x3 μ4 = some (xo, μo) → W p l e ({ frames := 0, cells := 0, slots := 0, locals := 0 } : Room) s m args below meth c H locs 0 0 Qf (F0 m 17 ls []) := by
      clear h hl hP hS
      intro k42 hk42 nf17
      induction nf17 with
      | zero =>
        intro x3 μ4 H locs ls r3 hP hS hl h
        rw [f_M_restore_L17] at h
        cases h
      | succ nf17 ih17 =>
        intro x3 μ4 H locs ls r3 hP hS hl h
        rw [f_M_restore_L17] at h
        refine lv_iload_n hx hb dX11_restore_17 rfl (lv_at hl 1 rfl) ?_
        refine lv_sipush (v := q_I 5104) hx hb dX11_restore_18 (by decide) ?_
        refine q_cge hx hb r3 (q_r 5104 rfl) (tgt := 42) dX11_restore_21 (by decide) h ?_ ?_
        · clear h; intro g9 h
          exact hk42 μ4 _ _ _ hP hS (lv_sub hl [0] rfl) h
        · clear h; intro g9 h
          refine lv_aload_n hx hb dX11_restore_24 rfl (lv_at hl 0 rfl) ?_
          refine q_getR hx hb hts hown hK hP fd_RX11_7 (Nat.le_of_ble_eq_true rfl) q_kdM_0 rfl q_rhM_0_1 dX11_restore_25 ?_
          refine lv_iload_n hx hb dX11_restore_28 rfl (lv_at hl 1 rfl) ?_
          refine lv_aload_n hx hb dX11_restore_29 rfl (lv_at hl 0 rfl) ?_
          refine q_getR hx hb hts hown hK hP fd_RX11_13 (Nat.le_of_ble_eq_true rfl) q_kdM_0 rfl q_rhM_0_2 dX11_restore_30 ?_
          refine lv_iload_n hx hb dX11_restore_33 rfl (lv_at hl 1 rfl) ?_
          refine q_iald hx hb hK hP (Nat.le_of_ble_eq_true rfl) q_kdM_2 r3 dX11_restore_34 h ?_
          clear h; intro x6 r6 h
          refine q_iast hx hb hK hP hS hA (Nat.le_of_ble_eq_true rfl) q_kdM_1 r3 r6 dX11_restore_35 h ?_
          clear h hP hS; intro μ7 H locs hP hS h
          refine q_iinc (k := 1) (lv' := fun t => [(1, .int (q_I t)), (0, .ref (z + 0))]) hx hb dX11_restore_36 hl rfl (by decide) (fun _ => rfl) h ?_
          clear h hl; intro x8 ls r8 hl h
          refine lv_goto (tgt := 17) hx hb dX11_restore_39 (by decide) ?_
          exact ih17 x8 μ7 _ _ _ r8 hP hS (lv_sub hl [1, 0] rfl) h
    refine L17 _ ?_  _ 0 μ2 _ _ _ (q_r 0 rfl) hP hS (lv_sub hl [1, 0] rfl) h
    · clear h hl hP hS; intro μ5 H locs ls  hP hS hl h
      refine lv_aload_n hx hb dX11_restore_42 rfl (lv_at hl 0 rfl) ?_
      refine q_getR hx hb hts hown hK hP fd_RX11_7 (Nat.le_of_ble_eq_true rfl) q_kdM_0 rfl q_rhM_0_1 dX11_restore_43 ?_
      refine lv_bipush (v := q_I 36) hx hb dX11_restore_46 (by decide) ?_
      refine q_iald hx hb hK hP (Nat.le_of_ble_eq_true rfl) q_kdM_1 (q_r 36 rfl) dX11_restore_48 h ?_
      clear h; intro x10 r10 h
      rw [← hQ]
      exact q_ret2 hx hb hr hlocks hP hS r10 h dX11_restore_49
