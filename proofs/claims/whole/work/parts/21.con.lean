set_option maxHeartbeats 4000000 in
set_option maxRecDepth 100000 in
theorem c_Ch_waitingMessages (l : Launch) (D : va_G) (dA : Nat → ClassId) {z sz : Nat} {N : Nat} {o : Nat} (ho : o = 15 ∨ o = 38) {μ : q_M} {xo : Int} (h : f_Ch_waitingMessages N o μ = some xo) : Met l yX0_waitingMessages (q_wc yX0_waitingMessages cX0_waitingMessages 3 (some .int)) ({ frames := 0, cells := 0, slots := 0, locals := 0 } : Room) (va_Pc [.ref (z + o)] (q_B (q_P D dA q_kdC q_rhoC 77 z sz μ) D dA)) (q_Q (some (.int (q_I xo))) (q_R xo) (q_P D dA q_kdC q_rhoC 77 z sz μ) (q_A z 77)) 0 0 (q_A z 77) := by
  refine Met.ofW (cc := cX0_waitingMessages) (maxL := 3) (ret := (some .int)) (by decide) rfl ?_
  intro p e s m args below meth c s₁ B hml hv
  obtain ⟨hargs, hP, hK⟩ := hv
  have hx := B.exec
  have hb := B.bytes
  have hr := B.returns
  have hts : ∀ w ∈ q_W, w.before args s = true := fun w hw => atoms_spec (ws := q_wc yX0_waitingMessages cX0_waitingMessages 3 (some .int)) B.pre w (List.mem_cons_of_mem _ hw)
  have hown : s.vm.findClass RX0 = some m.cls := findClass_of_methodNamed B.named
  have hlocks := B.notSynchronized
  have hS : va_S (q_A z 77) s.heap s.heap [] := va_S.rf
  have hA : ∀ k, k < 77 → q_A z 77 (z + k) := fun k hk => ⟨Nat.le_add_right z k, Nat.add_lt_add_left hk z⟩
  have hl := lv_entry [.ref (z + o)] (n := 3) (Nat.le_of_ble_eq_true rfl)
  refine W.eq (by rw [hargs, lg_entry_eq]) ?_
  generalize (lg_sl [.ref (z + o)] ++ List.replicate (3 - (lg_sl [.ref (z + o)]).length) Slot.unset).toArray = ls at hl ⊢
  have hl : lv_has ls 3 [(0, .ref (z + o))] := hl
  generalize hQ : MQ below _ args s 0 0 _ = Qf
  change W p l e ({ frames := 0, cells := 0, slots := 0, locals := 0 } : Room) s m args below meth c s.heap [] 0 0 Qf (F0 m 0 ls [])
  unfold f_Ch_waitingMessages at h
  refine lv_iconst (v := q_I 0) hx hb dX0_waitingMessages_0 rfl ?_
  refine lv_istore_n (lv' := [(1, .int (q_I 0)), (0, .ref (z + o))]) hx hb dX0_waitingMessages_1 rfl hl (by decide) rfl ?_
  clear hl; intro ls hl
  refine lv_iconst (v := q_I 0) hx hb dX0_waitingMessages_2 rfl ?_
  refine lv_istore_n (lv' := [(2, .int (q_I 0)), (1, .int (q_I 0)), (0, .ref (z + o))]) hx hb dX0_waitingMessages_3 rfl hl (by decide) rfl ?_
  clear hl; intro ls hl
  have L4 : ∀ (k31 : Int → Option Int), (∀ (x3 : Int) (H : Heap) (locs : List Loc) (ls : Array Slot), q_R x3 → q_P D dA q_kdC q_rhoC 77 z sz μ H → va_S (q_A z 77) s.heap H locs → lv_has ls 3 [(1, .int (q_I x3))] → k31 x3 = some xo → W p l e ({ frames := 0, cells := 0, slots := 0, locals := 0 } : Room) s m args below meth c H locs 0 0 Qf (F0 m 31 ls [])) → ∀ (nf4 : Nat) (x1 : Int) (x2 : Int) (H : Heap) (locs : List Loc) (ls : Array Slot), q_R x1 → q_R x2 → q_P D dA q_kdC q_rhoC 77 z sz μ H → va_S (q_A z 77) s.heap H locs → lv_has ls 3 [(0, .ref (z + o)), (1, .int (q_I x1)), (2, .int (q_I x2))] → f_Ch_waitingMessages_L4 o μ k31 nf4 x1 x2 = some xo → W p l e ({ frames := 0, cells := 0, slots := 0, locals := 0 } : Room) s m args below meth c H locs 0 0 Qf (F0 m 4 ls []) := by
    clear h hl hP hS
    intro k31 hk31 nf4
    induction nf4 with
    | zero =>
      intro x1 x2 H locs ls r1 r2 hP hS hl h
      rw [f_Ch_waitingMessages_L4] at h
      cases h
    | succ nf4 ih4 =>
      intro x1 x2 H locs ls r1 r2 hP hS hl h
      rw [f_Ch_waitingMessages_L4] at h
      refine lv_iload_n hx hb dX0_waitingMessages_4 rfl (lv_at hl 2 rfl) ?_
      refine lv_aload_n hx hb dX0_waitingMessages_5 rfl (lv_at hl 0 rfl) ?_
      refine q_getI hx hb hts hown hK hP fd_RX0_30 (q_ltK0 ho) (q_kdK_0 ho) rfl dX0_waitingMessages_6 h ?_
      clear h; intro x4 r4 h
      refine q_cge hx hb r2 r4 (tgt := 31) dX0_waitingMessages_9 (by decide) h ?_ ?_
      · clear h; intro g10 h
        exact hk31 x1 _ _ _ r1 hP hS (lv_sub hl [1] rfl) h
      · clear h; intro g10 h
        refine lv_aload_n hx hb dX0_waitingMessages_12 rfl (lv_at hl 0 rfl) ?_
        refine q_getR hx hb hts hown hK hP fd_RX0_24 (q_ltK0 ho) (q_kdK_0 ho) rfl (q_rhK_0_5 ho) dX0_waitingMessages_13 ?_
        refine lv_iload_n hx hb dX0_waitingMessages_16 rfl (lv_at hl 2 rfl) ?_
        refine q_iald hx hb hK hP (q_ltK ho rfl) (q_kdK_5 ho) r2 dX0_waitingMessages_17 h ?_
        clear h; intro x5 r5 h
        refine lv_iconst (v := q_I (-1)) hx hb dX0_waitingMessages_18 rfl ?_
        refine q_jn_in h (fun J => ∀ (x6 : Int) (H : Heap) (locs : List Loc) (ls : Array Slot), q_R x6 → q_P D dA q_kdC q_rhoC 77 z sz μ H → va_S (q_A z 77) s.heap H locs → lv_has ls 3 [(0, .ref (z + o)), (1, .int (q_I x6)), (2, .int (q_I x2))] → J x6 = some xo → W p l e ({ frames := 0, cells := 0, slots := 0, locals := 0 } : Room) s m args below meth c H locs 0 0 Qf (F0 m 25 ls [])) ?_ ?_
        · clear h hl hP hS; intro x6 H locs ls r6 hP hS hl h
          refine q_iinc (k := 2) (lv' := fun t => [(2, .int (q_I t)), (0, .ref (z + o)), (1, .int (q_I x6))]) hx hb dX0_waitingMessages_25 hl rfl (by decide) (fun _ => rfl) h ?_
          clear h hl; intro x7 ls r7 hl h
          refine lv_goto (tgt := 4) hx hb dX0_waitingMessages_28 (by decide) ?_
          exact ih4 x6 x7 _ _ _ r6 r7 hP hS (lv_sub hl [1, 2, 0] rfl) h
        · clear h; intro j25 hj25 h
          refine q_cne hx hb r5 (q_r (-1) rfl) (tgt := 25) dX0_waitingMessages_19 (by decide) h ?_ ?_
          · clear h; intro g9 h
            refine q_iinc (k := 1) (lv' := fun t => [(1, .int (q_I t)), (0, .ref (z + o)), (2, .int (q_I x2))]) hx hb dX0_waitingMessages_22 hl rfl (by decide) (fun _ => rfl) h ?_
            clear h hl; intro x8 ls r8 hl h
            exact hj25 x8 _ _ _ r8 hP hS (lv_sub hl [1, 0, 2] rfl) h
          · clear h; intro g9 h
            exact hj25 x1 _ _ _ r1 hP hS (lv_sub hl [0, 1, 2] rfl) h
  refine L4 _ ?_  _ 0 0 _ _ _ (q_r 0 rfl) (q_r 0 rfl) hP hS (lv_sub hl [2, 1, 0] rfl) h
  · clear h hl hP hS; intro x3 H locs ls r3 hP hS hl h
    refine lv_iload_n hx hb dX0_waitingMessages_31 rfl (lv_at hl 0 rfl) ?_
    rw [← hQ]
    exact q_ret1 hx hb hr hlocks hP hS r3 h dX0_waitingMessages_32
set_option maxHeartbeats 4000000 in
set_option maxRecDepth 100000 in
theorem c_Wo_eventsInCut (l : Launch) (D : va_G) (dA : Nat → ClassId) {z sz : Nat} {N : Nat} {o : Nat} (ho : o = 1 ∨ o = 24) {μ : q_M} {xo : Int} (h : f_Wo_eventsInCut N o μ = some xo) : Met l yX9_eventsInCut (q_wc yX9_eventsInCut cX9_eventsInCut 3 (some .int)) ({ frames := 0, cells := 0, slots := 0, locals := 0 } : Room) (va_Pc [.ref (z + o)] (q_B (q_P D dA q_kdC q_rhoC 77 z sz μ) D dA)) (q_Q (some (.int (q_I xo))) (q_R xo) (q_P D dA q_kdC q_rhoC 77 z sz μ) (q_A z 77)) 0 0 (q_A z 77) := by
  refine Met.ofW (cc := cX9_eventsInCut) (maxL := 3) (ret := (some .int)) (by decide) rfl ?_
  intro p e s m args below meth c s₁ B hml hv
  obtain ⟨hargs, hP, hK⟩ := hv
  have hx := B.exec
  have hb := B.bytes
  have hr := B.returns
  have hts : ∀ w ∈ q_W, w.before args s = true := fun w hw => atoms_spec (ws := q_wc yX9_eventsInCut cX9_eventsInCut 3 (some .int)) B.pre w (List.mem_cons_of_mem _ hw)
  have hown : s.vm.findClass RX9 = some m.cls := findClass_of_methodNamed B.named
  have hlocks := B.notSynchronized
  have hS : va_S (q_A z 77) s.heap s.heap [] := va_S.rf
  have hA : ∀ k, k < 77 → q_A z 77 (z + k) := fun k hk => ⟨Nat.le_add_right z k, Nat.add_lt_add_left hk z⟩
  have hl := lv_entry [.ref (z + o)] (n := 3) (Nat.le_of_ble_eq_true rfl)
  refine W.eq (by rw [hargs, lg_entry_eq]) ?_
  generalize (lg_sl [.ref (z + o)] ++ List.replicate (3 - (lg_sl [.ref (z + o)]).length) Slot.unset).toArray = ls at hl ⊢
  have hl : lv_has ls 3 [(0, .ref (z + o))] := hl
  generalize hQ : MQ below _ args s 0 0 _ = Qf
  change W p l e ({ frames := 0, cells := 0, slots := 0, locals := 0 } : Room) s m args below meth c s.heap [] 0 0 Qf (F0 m 0 ls [])
  unfold f_Wo_eventsInCut at h
  refine lv_iconst (v := q_I 0) hx hb dX9_eventsInCut_0 rfl ?_
  refine lv_istore_n (lv' := [(1, .int (q_I 0)), (0, .ref (z + o))]) hx hb dX9_eventsInCut_1 rfl hl (by decide) rfl ?_
  clear hl; intro ls hl
  refine lv_iconst (v := q_I 0) hx hb dX9_eventsInCut_2 rfl ?_
  refine lv_istore_n (lv' := [(2, .int (q_I 0)), (1, .int (q_I 0)), (0, .ref (z + o))]) hx hb dX9_eventsInCut_3 rfl hl (by decide) rfl ?_
  clear hl; intro ls hl
  have L4 : ∀ (k27 : Int → Option Int), (∀ (x3 : Int) (H : Heap) (locs : List Loc) (ls : Array Slot), q_R x3 → q_P D dA q_kdC q_rhoC 77 z sz μ H → va_S (q_A z 77) s.heap H locs → lv_has ls 3 [(1, .int (q_I x3))] → k27 x3 = some xo → W p l e ({ frames := 0, cells := 0, slots := 0, locals := 0 } : Room) s m args below meth c H locs 0 0 Qf (F0 m 27 ls [])) → ∀ (nf4 : Nat) (x1 : Int) (x2 : Int) (H : Heap) (locs : List Loc) (ls : Array Slot), q_R x1 → q_R x2 → q_P D dA q_kdC q_rhoC 77 z sz μ H → va_S (q_A z 77) s.heap H locs → lv_has ls 3 [(0, .ref (z + o)), (1, .int (q_I x1)), (2, .int (q_I x2))] → f_Wo_eventsInCut_L4 o μ k27 nf4 x1 x2 = some xo → W p l e ({ frames := 0, cells := 0, slots := 0, locals := 0 } : Room) s m args below meth c H locs 0 0 Qf (F0 m 4 ls []) := by
    clear h hl hP hS
    intro k27 hk27 nf4
    induction nf4 with
    | zero =>
      intro x1 x2 H locs ls r1 r2 hP hS hl h
      rw [f_Wo_eventsInCut_L4] at h
      cases h
    | succ nf4 ih4 =>
      intro x1 x2 H locs ls r1 r2 hP hS hl h
      rw [f_Wo_eventsInCut_L4] at h
      refine lv_iload_n hx hb dX9_eventsInCut_4 rfl (lv_at hl 2 rfl) ?_
      refine lv_aload_n hx hb dX9_eventsInCut_5 rfl (lv_at hl 0 rfl) ?_
      refine q_getI hx hb hts hown hK hP fd_RX9_42 (q_ltW0 ho) (q_kdW_0 ho) rfl dX9_eventsInCut_6 h ?_
      clear h; intro x4 r4 h
      refine q_cge hx hb r2 r4 (tgt := 27) dX9_eventsInCut_9 (by decide) h ?_ ?_
      · clear h; intro g8 h
        exact hk27 x1 _ _ _ r1 hP hS (lv_sub hl [1] rfl) h
      · clear h; intro g8 h
        refine lv_iload_n hx hb dX9_eventsInCut_12 rfl (lv_at hl 1 rfl) ?_
        refine lv_aload_n hx hb dX9_eventsInCut_13 rfl (lv_at hl 0 rfl) ?_
        refine q_getR hx hb hts hown hK hP fd_RX9_18 (q_ltW0 ho) (q_kdW_0 ho) rfl (q_rhW_0_3 ho) dX9_eventsInCut_14 ?_
        refine lv_iload_n hx hb dX9_eventsInCut_17 rfl (lv_at hl 2 rfl) ?_
        refine q_iald hx hb hK hP (q_ltW ho rfl) (q_kdW_3 ho) r2 dX9_eventsInCut_18 h ?_
        clear h; intro x5 r5 h
        refine q_iadd hx hb dX9_eventsInCut_19 h ?_
        clear h; intro x6 r6 h
        refine lv_istore_n (lv' := [(1, .int (q_I x6)), (0, .ref (z + o)), (2, .int (q_I x2))]) hx hb dX9_eventsInCut_20 rfl hl (by decide) rfl ?_
        clear hl; intro ls hl
        refine q_iinc (k := 2) (lv' := fun t => [(2, .int (q_I t)), (1, .int (q_I x6)), (0, .ref (z + o))]) hx hb dX9_eventsInCut_21 hl rfl (by decide) (fun _ => rfl) h ?_
        clear h hl; intro x7 ls r7 hl h
        refine lv_goto (tgt := 4) hx hb dX9_eventsInCut_24 (by decide) ?_
        exact ih4 x6 x7 _ _ _ r6 r7 hP hS (lv_sub hl [2, 1, 0] rfl) h
  refine L4 _ ?_  _ 0 0 _ _ _ (q_r 0 rfl) (q_r 0 rfl) hP hS (lv_sub hl [2, 1, 0] rfl) h
  · clear h hl hP hS; intro x3 H locs ls r3 hP hS hl h
    refine lv_iload_n hx hb dX9_eventsInCut_27 rfl (lv_at hl 0 rfl) ?_
    rw [← hQ]
    exact q_ret1 hx hb hr hlocks hP hS r3 h dX9_eventsInCut_28
set_option maxHeartbeats 4000000 in
set_option maxRecDepth 100000 in
theorem c_CR_count (l : Launch) (D : va_G) (dA : Nat → ClassId) {z sz : Nat} {N : Nat} {a0 : Int} (ra0 : q_R a0) {μ : q_M} {xo : Int} (h : f_CR_count N a0 μ = some xo) : Met l yX10_count (q_wc yX10_count cX10_count 2 (some .int)) ({ frames := 1, cells := 0, slots := 0, locals := 22 } : Room) (va_Pc [.ref (z + 0), .int (q_I a0)] (q_B (q_P D dA q_kdC q_rhoC 77 z sz μ) D dA)) (q_Q (some (.int (q_I xo))) (q_R xo) (q_P D dA q_kdC q_rhoC 77 z sz μ) (q_A z 77)) 0 0 (q_A z 77) := by
  refine Met.ofW (cc := cX10_count) (maxL := 2) (ret := (some .int)) (by decide) rfl ?_
  intro p e s m args below meth c s₁ B hml hv
  obtain ⟨hargs, hP, hK⟩ := hv
  have hx := B.exec
  have hb := B.bytes
  have hr := B.returns
  have hts : ∀ w ∈ q_W, w.before args s = true := fun w hw => atoms_spec (ws := q_wc yX10_count cX10_count 2 (some .int)) B.pre w (List.mem_cons_of_mem _ hw)
  have hown : s.vm.findClass RX10 = some m.cls := findClass_of_methodNamed B.named
  have hlocks := B.notSynchronized
  have hS : va_S (q_A z 77) s.heap s.heap [] := va_S.rf
  have hA : ∀ k, k < 77 → q_A z 77 (z + k) := fun k hk => ⟨Nat.le_add_right z k, Nat.add_lt_add_left hk z⟩
  have hl := lv_entry [.ref (z + 0), .int (q_I a0)] (n := 2) (Nat.le_of_ble_eq_true rfl)
  refine W.eq (by rw [hargs, lg_entry_eq]) ?_
  generalize (lg_sl [.ref (z + 0), .int (q_I a0)] ++ List.replicate (2 - (lg_sl [.ref (z + 0), .int (q_I a0)]).length) Slot.unset).toArray = ls at hl ⊢
  have hl : lv_has ls 2 [(0, .ref (z + 0)), (1, .int (q_I a0))] := hl
  generalize hQ : MQ below _ args s 0 0 _ = Qf
  change W p l e ({ frames := 1, cells := 0, slots := 0, locals := 22 } : Room) s m args below meth c s.heap [] 0 0 Qf (F0 m 0 ls [])
  unfold f_CR_count at h
  refine lv_iload_n hx hb dX10_count_0 rfl (lv_at hl 1 rfl) ?_
  by_cases g2 : a0 = 0
  · rw [if_pos g2] at h
    refine q_tabIn (tgt := 48) (v := 0) hx hb ra0 g2 dX10_count_1 (by decide) (by decide) rfl (by decide) ?_
    refine lv_aload_n hx hb dX10_count_48 rfl (lv_at hl 0 rfl) ?_
    refine q_getR hx hb hts hown hK hP fd_RX10_10 (Nat.le_of_ble_eq_true rfl) q_kdC_0 rfl q_rhC_0_0 dX10_count_49 ?_
    refine q_getI hx hb hts hown hK hP fd_RX10_63 (Nat.le_of_ble_eq_true rfl) q_kdC_1 rfl dX10_count_52 h ?_
    clear h; intro x1 r1 h
    rw [← hQ]
    exact q_ret1 hx hb hr hlocks hP hS r1 h dX10_count_55
  · rw [if_neg g2] at h
    by_cases g4 : a0 = 1
    · rw [if_pos g4] at h
      refine q_tabIn (tgt := 56) (v := 1) hx hb ra0 g4 dX10_count_1 (by decide) (by decide) rfl (by decide) ?_
      refine lv_aload_n hx hb dX10_count_56 rfl (lv_at hl 0 rfl) ?_
      refine q_getR hx hb hts hown hK hP fd_RX10_10 (Nat.le_of_ble_eq_true rfl) q_kdC_0 rfl q_rhC_0_0 dX10_count_57 ?_
      refine q_getR hx hb hts hown hK hP fd_RX10_75 (Nat.le_of_ble_eq_true rfl) q_kdC_1 rfl q_rhC_1_4 dX10_count_60 ?_
      refine q_getI hx hb hts hown hK hP fd_RX10_79 (Nat.le_of_ble_eq_true rfl) q_kdC_5 rfl dX10_count_63 h ?_
      clear h; intro x3 r3 h
      rw [← hQ]
      exact q_ret1 hx hb hr hlocks hP hS r3 h dX10_count_66
    · rw [if_neg g4] at h
      by_cases g7 : a0 = 2
      · rw [if_pos g7] at h
        refine q_tabIn (tgt := 67) (v := 2) hx hb ra0 g7 dX10_count_1 (by decide) (by decide) rfl (by decide) ?_
        refine lv_aload_n hx hb dX10_count_67 rfl (lv_at hl 0 rfl) ?_
        refine q_getR hx hb hts hown hK hP fd_RX10_10 (Nat.le_of_ble_eq_true rfl) q_kdC_0 rfl q_rhC_0_0 dX10_count_68 ?_
        refine q_getR hx hb hts hown hK hP fd_RX10_111 (Nat.le_of_ble_eq_true rfl) q_kdC_1 rfl q_rhC_1_5 dX10_count_71 ?_
        obtain ⟨x6, hv5, h⟩ := q_b_some h
        refine q_callV hx hb hml hts hown hK hP hS (As := []) (rest := []) (st1 := [.int (q_I x6)]) cv_RX10_135 (c_Ch_waitingMessages l D dA (Or.inl rfl) hv5) (Nat.le_of_ble_eq_true rfl) q_kdC_15 rfl ⟨rfl, rfl, Nat.le_of_ble_eq_true rfl, Nat.le_of_ble_eq_true rfl⟩ ⟨Nat.le_refl _, Nat.le_refl _⟩ rfl hl.1 rfl (Nat.le_of_ble_eq_true rfl) rfl (fun _ g => g) dX10_count_74 ?_
        clear hP hS hv5; intro H locs r6 hP hS _
        rw [← hQ]
        exact q_ret1 hx hb hr hlocks hP hS r6 h dX10_count_77
      · rw [if_neg g7] at h
        by_cases g10 : a0 = 3
        · rw [if_pos g10] at h
          refine q_tabIn (tgt := 78) (v := 3) hx hb ra0 g10 dX10_count_1 (by decide) (by decide) rfl (by decide) ?_
          refine lv_aload_n hx hb dX10_count_78 rfl (lv_at hl 0 rfl) ?_
          refine q_getR hx hb hts hown hK hP fd_RX10_10 (Nat.le_of_ble_eq_true rfl) q_kdC_0 rfl q_rhC_0_0 dX10_count_79 ?_
          refine q_getR hx hb hts hown hK hP fd_RX10_111 (Nat.le_of_ble_eq_true rfl) q_kdC_1 rfl q_rhC_1_5 dX10_count_82 ?_
          obtain ⟨x9, hv8, h⟩ := q_b_some h
          refine q_callV hx hb hml hts hown hK hP hS (As := []) (rest := []) (st1 := [.int (q_I x9)]) cv_RX10_139 (c_Ch_waitingMarkers l D dA (Or.inl rfl) hv8) (Nat.le_of_ble_eq_true rfl) q_kdC_15 rfl ⟨rfl, rfl, Nat.le_of_ble_eq_true rfl, Nat.le_of_ble_eq_true rfl⟩ ⟨Nat.le_refl _, Nat.le_refl _⟩ rfl hl.1 rfl (Nat.le_of_ble_eq_true rfl) rfl (fun _ g => g) dX10_count_85 ?_
          clear hP hS hv8; intro H locs r9 hP hS _
          rw [← hQ]
          exact q_ret1 hx hb hr hlocks hP hS r9 h dX10_count_88
        · rw [if_neg g10] at h
          by_cases g12 : a0 = 4
          · rw [if_pos g12] at h
            refine q_tabIn (tgt := 89) (v := 4) hx hb ra0 g12 dX10_count_1 (by decide) (by decide) rfl (by decide) ?_
            refine lv_aload_n hx hb dX10_count_89 rfl (lv_at hl 0 rfl) ?_
            refine q_getR hx hb hts hown hK hP fd_RX10_29 (Nat.le_of_ble_eq_true rfl) q_kdC_0 rfl q_rhC_0_4 dX10_count_90 ?_
            refine q_getI hx hb hts hown hK hP fd_RX10_142 (Nat.le_of_ble_eq_true rfl) q_kdC_49 rfl dX10_count_93 h ?_
            clear h; intro x11 r11 h
            rw [← hQ]
            exact q_ret1 hx hb hr hlocks hP hS r11 h dX10_count_96
          · rw [if_neg g12] at h
            by_cases g14 : a0 = 5
            · rw [if_pos g14] at h
              refine q_tabIn (tgt := 97) (v := 5) hx hb ra0 g14 dX10_count_1 (by decide) (by decide) rfl (by decide) ?_
              refine lv_aload_n hx hb dX10_count_97 rfl (lv_at hl 0 rfl) ?_
              refine q_getR hx hb hts hown hK hP fd_RX10_10 (Nat.le_of_ble_eq_true rfl) q_kdC_0 rfl q_rhC_0_0 dX10_count_98 ?_
              refine q_getR hx hb hts hown hK hP fd_RX10_145 (Nat.le_of_ble_eq_true rfl) q_kdC_1 rfl q_rhC_1_6 dX10_count_101 ?_
              refine q_getI hx hb hts hown hK hP fd_RX10_149 (Nat.le_of_ble_eq_true rfl) q_kdC_22 rfl dX10_count_104 h ?_
              clear h; intro x13 r13 h
              rw [← hQ]
              exact q_ret1 hx hb hr hlocks hP hS r13 h dX10_count_107
            · rw [if_neg g14] at h
              by_cases g17 : a0 = 6
              · rw [if_pos g17] at h
                refine q_tabIn (tgt := 108) (v := 6) hx hb ra0 g17 dX10_count_1 (by decide) (by decide) rfl (by decide) ?_
                refine lv_aload_n hx hb dX10_count_108 rfl (lv_at hl 0 rfl) ?_
                refine q_getR hx hb hts hown hK hP fd_RX10_10 (Nat.le_of_ble_eq_true rfl) q_kdC_0 rfl q_rhC_0_0 dX10_count_109 ?_
                obtain ⟨x16, hv15, h⟩ := q_b_some h
                refine q_callV hx hb hml hts hown hK hP hS (As := []) (rest := []) (st1 := [.int (q_I x16)]) cv_RX10_154 (c_Wo_eventsInCut l D dA (Or.inl rfl) hv15) (Nat.le_of_ble_eq_true rfl) q_kdC_1 rfl ⟨rfl, rfl, Nat.le_of_ble_eq_true rfl, Nat.le_of_ble_eq_true rfl⟩ ⟨Nat.le_refl _, Nat.le_refl _⟩ rfl hl.1 rfl (Nat.le_of_ble_eq_true rfl) rfl (fun _ g => g) dX10_count_112 ?_
                clear hP hS hv15; intro H locs r16 hP hS _
                rw [← hQ]
                exact q_ret1 hx hb hr hlocks hP hS r16 h dX10_count_115
              · rw [if_neg g17] at h
                by_cases g21 : a0 = 7
                · rw [if_pos g21] at h
                  refine q_tabIn (tgt := 116) (v := 7) hx hb ra0 g21 dX10_count_1 (by decide) (by decide) rfl (by decide) ?_
                  refine lv_aload_n hx hb dX10_count_116 rfl (lv_at hl 0 rfl) ?_
                  refine q_getI hx hb hts hown hK hP fd_RX10_157 (Nat.le_of_ble_eq_true rfl) q_kdC_0 rfl dX10_count_117 h ?_
                  clear h; intro x18 r18 h
                  refine q_jn_in h (fun J => ∀ (x19 : Int) (H : Heap) (locs : List Loc) (ls : Array Slot), q_R x19 → q_P D dA q_kdC q_rhoC 77 z sz μ H → va_S (q_A z 77) s.heap H locs → lv_has ls 2 [] → J x19 = some xo → W p l e ({ frames := 1, cells := 0, slots := 0, locals := 22 } : Room) s m args below meth c H locs 0 0 Qf (F0 m 128 ls [.int (q_I x19)])) ?_ ?_
                  · clear h hl hP hS; intro x19 H locs ls r19 hP hS hl h
                    rw [← hQ]
                    exact q_ret1 hx hb hr hlocks hP hS r19 h dX10_count_128
                  · clear h; intro j128 hj128 h
                    refine q_zeq hx hb r18 (tgt := 127) dX10_count_120 (by decide) h ?_ ?_
                    · clear h; intro g20 h
                      refine lv_iconst (v := q_I 0) hx hb dX10_count_127 rfl ?_
                      exact hj128 0 _ _ _ (q_r 0 rfl) hP hS (lv_sub hl [] rfl) h
                    · clear h; intro g20 h
                      refine lv_iconst (v := q_I 1) hx hb dX10_count_123 rfl ?_
                      refine lv_goto (tgt := 128) hx hb dX10_count_124 (by decide) ?_
                      exact hj128 1 _ _ _ (q_r 1 rfl) hP hS (lv_sub hl [] rfl) h
                · rw [if_neg g21] at h
                  refine q_tabOut (tgt := 129) hx hb ra0 dX10_count_1 (by omega) (by decide) ?_
                  refine lv_ldc hx hb hown (hts _ ck_RX10_62) dX10_count_129 ?_
                  rw [← hQ]
                  exact q_ret1 hx hb hr hlocks hP hS (q_r (-100002) rfl) h dX10_count_131
set_option maxHeartbeats 4000000 in
set_option maxRecDepth 100000 in
theorem c_CR_eventsOf (l : Launch) (D : va_G) (dA : Nat → ClassId) {z sz : Nat} {a0 : Int} (ra0 : q_R a0) {μ : q_M} {xo : Int} (h : f_CR_eventsOf a0 μ = some xo) : Met l yX10_eventsOf (q_wc yX10_eventsOf cX10_eventsOf 2 (some .int)) ({ frames := 2, cells := 0, slots := 0, locals := 43 } : Room) (va_Pc [.ref (z + 0), .int (q_I a0)] (q_B (q_P D dA q_kdC q_rhoC 77 z sz μ) D dA)) (q_Q (some (.int (q_I xo))) (q_R xo) (q_P D dA q_kdC q_rhoC 77 z sz μ) (q_A z 77)) 0 0 (q_A z 77) := by
  refine Met.ofW (cc := cX10_eventsOf) (maxL := 2) (ret := (some .int)) (by decide) rfl ?_
  intro p e s m args below meth c s₁ B hml hv
  obtain ⟨hargs, hP, hK⟩ := hv
  have hx := B.exec
  have hb := B.bytes
  have hr := B.returns
  have hts : ∀ w ∈ q_W, w.before args s = true := fun w hw => atoms_spec (ws := q_wc yX10_eventsOf cX10_eventsOf 2 (some .int)) B.pre w (List.mem_cons_of_mem _ hw)
  have hown : s.vm.findClass RX10 = some m.cls := findClass_of_methodNamed B.named
  have hlocks := B.notSynchronized
  have hS : va_S (q_A z 77) s.heap s.heap [] := va_S.rf
  have hA : ∀ k, k < 77 → q_A z 77 (z + k) := fun k hk => ⟨Nat.le_add_right z k, Nat.add_lt_add_left hk z⟩
  have hl := lv_entry [.ref (z + 0), .int (q_I a0)] (n := 2) (Nat.le_of_ble_eq_true rfl)
  refine W.eq (by rw [hargs, lg_entry_eq]) ?_
  generalize (lg_sl [.ref (z + 0), .int (q_I a0)] ++ List.replicate (2 - (lg_sl [.ref (z + 0), .int (q_I a0)]).length) Slot.unset).toArray = ls at hl ⊢
  have hl : lv_has ls 2 [(0, .ref (z + 0)), (1, .int (q_I a0))] := hl
  generalize hQ : MQ below _ args s 0 0 _ = Qf
  change W p l e ({ frames := 2, cells := 0, slots := 0, locals := 43 } : Room) s m args below meth c s.heap [] 0 0 Qf (F0 m 0 ls [])
  unfold f_CR_eventsOf at h
  refine lv_aload_n hx hb dX10_eventsOf_0 rfl (lv_at hl 0 rfl) ?_
  refine lv_iload_n hx hb dX10_eventsOf_1 rfl (lv_at hl 1 rfl) ?_
  obtain ⟨x2, hv1, h⟩ := q_b_some h
  refine q_callV hx hb hml hts hown hK hP hS (As := [.int (q_I a0)]) (rest := []) (st1 := [.int (q_I x2)]) cv_RX10_67 (c_CR_isProcess l D dA ra0 hv1) (Nat.le_of_ble_eq_true rfl) q_kdC_0 rfl ⟨rfl, rfl, Nat.le_of_ble_eq_true rfl, Nat.le_of_ble_eq_true rfl⟩ ⟨Nat.le_refl _, Nat.le_refl _⟩ rfl hl.1 rfl (Nat.le_of_ble_eq_true rfl) rfl (fun _ g => g) dX10_eventsOf_2 ?_
  clear hP hS hv1; intro H locs r2 hP hS _
  refine q_jn_in h (fun J => ∀ (x3 : Int) (H : Heap) (locs : List Loc) (ls : Array Slot), q_R x3 → q_P D dA q_kdC q_rhoC 77 z sz μ H → va_S (q_A z 77) s.heap H locs → lv_has ls 2 [] → J x3 = some xo → W p l e ({ frames := 2, cells := 0, slots := 0, locals := 43 } : Room) s m args below meth c H locs 0 0 Qf (F0 m 25 ls [.int (q_I x3)])) ?_ ?_
  · clear h hl hP hS; intro x3 H locs ls r3 hP hS hl h
    rw [← hQ]
    exact q_ret1 hx hb hr hlocks hP hS r3 h dX10_eventsOf_25
  · clear h; intro j25 hj25 h
    refine q_zeq hx hb r2 (tgt := 23) dX10_eventsOf_5 (by decide) h ?_ ?_
    · clear h; intro g5 h
      refine lv_ldc hx hb hown (hts _ ck_RX10_74) dX10_eventsOf_23 ?_
      exact hj25 ((-100001)) _ _ _ (q_r (-100001) rfl) hP hS (lv_sub hl [] rfl) h
    · clear h; intro g5 h
      refine lv_aload_n hx hb dX10_eventsOf_8 rfl (lv_at hl 0 rfl) ?_
      refine q_getR hx hb hts hown hK hP fd_RX10_10 (Nat.le_of_ble_eq_true rfl) q_kdC_0 rfl q_rhC_0_0 dX10_eventsOf_9 ?_
      refine q_getR hx hb hts hown hK hP fd_RX10_75 (Nat.le_of_ble_eq_true rfl) q_kdC_1 rfl q_rhC_1_4 dX10_eventsOf_12 ?_
      refine q_getR hx hb hts hown hK hP fd_RX10_161 (Nat.le_of_ble_eq_true rfl) q_kdC_5 rfl q_rhC_5_9 dX10_eventsOf_15 ?_
      refine lv_iload_n hx hb dX10_eventsOf_18 rfl (lv_at hl 1 rfl) ?_
      refine q_iald hx hb hK hP (Nat.le_of_ble_eq_true rfl) q_kdC_14 ra0 dX10_eventsOf_19 h ?_
      clear h; intro x4 r4 h
      refine lv_goto (tgt := 25) hx hb dX10_eventsOf_20 (by decide) ?_
      exact hj25 x4 _ _ _ r4 hP hS (lv_sub hl [] rfl) h
set_option maxHeartbeats 4000000 in
set_option maxRecDepth 100000 in
theorem c_CR_beginSnapshot (l : Launch) (D : va_G) (dA : Nat → ClassId) {z sz : Nat} {N : Nat} {a0 : Int} (ra0 : q_R a0) {μ : q_M} {xo : Int} {μo : q_M} (h : f_CR_beginSnapshot N a0 μ = some (xo, μo)) : Met l yX10_beginSnapshot (q_wc yX10_beginSnapshot cX10_beginSnapshot 2 (some .int)) ({ frames := 2, cells := 0, slots := 0, locals := 44 } : Room) (va_Pc [.ref (z + 0), .int (q_I a0)] (q_B (q_P D dA q_kdC q_rhoC 77 z sz μ) D dA)) (q_Q (some (.int (q_I xo))) (q_R xo) (q_P D dA q_kdC q_rhoC 77 z sz μo) (q_A z 77)) 0 0 (q_A z 77) := by
  refine Met.ofW (cc := cX10_beginSnapshot) (maxL := 2) (ret := (some .int)) (by decide) rfl ?_
  intro p e s m args below meth c s₁ B hml hv
  obtain ⟨hargs, hP, hK⟩ := hv
  have hx := B.exec
  have hb := B.bytes
  have hr := B.returns
  have hts : ∀ w ∈ q_W, w.before args s = true := fun w hw => atoms_spec (ws := q_wc yX10_beginSnapshot cX10_beginSnapshot 2 (some .int)) B.pre w (List.mem_cons_of_mem _ hw)
  have hown : s.vm.findClass RX10 = some m.cls := findClass_of_methodNamed B.named
  have hlocks := B.notSynchronized
  have hS : va_S (q_A z 77) s.heap s.heap [] := va_S.rf
  have hA : ∀ k, k < 77 → q_A z 77 (z + k) := fun k hk => ⟨Nat.le_add_right z k, Nat.add_lt_add_left hk z⟩
  have hl := lv_entry [.ref (z + 0), .int (q_I a0)] (n := 2) (Nat.le_of_ble_eq_true rfl)
  refine W.eq (by rw [hargs, lg_entry_eq]) ?_
  generalize (lg_sl [.ref (z + 0), .int (q_I a0)] ++ List.replicate (2 - (lg_sl [.ref (z + 0), .int (q_I a0)]).length) Slot.unset).toArray = ls at hl ⊢
  have hl : lv_has ls 2 [(0, .ref (z + 0)), (1, .int (q_I a0))] := hl
  generalize hQ : MQ below _ args s 0 0 _ = Qf
  change W p l e ({ frames := 2, cells := 0, slots := 0, locals := 44 } : Room) s m args below meth c s.heap [] 0 0 Qf (F0 m 0 ls [])
  unfold f_CR_beginSnapshot at h
  refine lv_aload_n hx hb dX10_beginSnapshot_0 rfl (lv_at hl 0 rfl) ?_
  refine lv_iload_n hx hb dX10_beginSnapshot_1 rfl (lv_at hl 1 rfl) ?_
  obtain ⟨x2, hv1, h⟩ := q_b_some h
  refine q_callV hx hb hml hts hown hK hP hS (As := [.int (q_I a0)]) (rest := []) (st1 := [.int (q_I x2)]) cv_RX10_67 (c_CR_isProcess l D dA ra0 hv1) (Nat.le_of_ble_eq_true rfl) q_kdC_0 rfl ⟨rfl, rfl, Nat.le_of_ble_eq_true rfl, Nat.le_of_ble_eq_true rfl⟩ ⟨Nat.le_refl _, Nat.le_refl _⟩ rfl hl.1 rfl (Nat.le_of_ble_eq_true rfl) rfl (fun _ g => g) dX10_beginSnapshot_2 ?_
  clear hP hS hv1; intro H locs r2 hP hS _
  refine q_zne hx hb r2 (tgt := 11) dX10_beginSnapshot_5 (by decide) h ?_ ?_
  · clear h; intro g12 h
    refine lv_ldc hx hb hown (hts _ ck_RX10_74) dX10_beginSnapshot_8 ?_
    rw [← hQ]
    exact q_ret2 hx hb hr hlocks hP hS (q_r (-100001) rfl) h dX10_beginSnapshot_10
  · clear h; intro g12 h
    refine lv_aload_n hx hb dX10_beginSnapshot_11 rfl (lv_at hl 0 rfl) ?_
    refine q_getR hx hb hts hown hK hP fd_RX10_10 (Nat.le_of_ble_eq_true rfl) q_kdC_0 rfl q_rhC_0_0 dX10_beginSnapshot_12 ?_
    refine q_getR hx hb hts hown hK hP fd_RX10_145 (Nat.le_of_ble_eq_true rfl) q_kdC_1 rfl q_rhC_1_6 dX10_beginSnapshot_15 ?_
    refine q_getI hx hb hts hown hK hP fd_RX10_149 (Nat.le_of_ble_eq_true rfl) q_kdC_22 rfl dX10_beginSnapshot_18 h ?_
    clear h; intro x3 r3 h
    refine lv_iconst (v := q_I 1) hx hb dX10_beginSnapshot_21 rfl ?_
    refine q_cne hx hb r3 (q_r 1 rfl) (tgt := 28) dX10_beginSnapshot_22 (by decide) h ?_ ?_
    · clear h; intro g11 h
      refine lv_ldc hx hb hown (hts _ ck_RX10_84) dX10_beginSnapshot_25 ?_
      rw [← hQ]
      exact q_ret2 hx hb hr hlocks hP hS (q_r (-100003) rfl) h dX10_beginSnapshot_27
    · clear h; intro g11 h
      refine lv_aload_n hx hb dX10_beginSnapshot_28 rfl (lv_at hl 0 rfl) ?_
      refine q_getR hx hb hts hown hK hP fd_RX10_10 (Nat.le_of_ble_eq_true rfl) q_kdC_0 rfl q_rhC_0_0 dX10_beginSnapshot_29 ?_
      refine q_getR hx hb hts hown hK hP fd_RX10_145 (Nat.le_of_ble_eq_true rfl) q_kdC_1 rfl q_rhC_1_6 dX10_beginSnapshot_32 ?_
      obtain ⟨μ5, hv4, h⟩ := q_b_some h
      refine q_callV hx hb hml hts hown hK hP hS (As := []) (rest := []) (st1 := []) cv_RX10_164 (c_Sn_forget l D dA (Or.inl rfl) hv4) (Nat.le_of_ble_eq_true rfl) q_kdC_22 rfl ⟨rfl, rfl, Nat.le_of_ble_eq_true rfl, Nat.le_of_ble_eq_true rfl⟩ ⟨Nat.le_refl _, Nat.le_refl _⟩ rfl hl.1 rfl (Nat.le_of_ble_eq_true rfl) rfl (fun _ g => g) dX10_beginSnapshot_35 ?_
      clear hP hS hv4; intro H locs _ hP hS _
      refine lv_aload_n hx hb dX10_beginSnapshot_38 rfl (lv_at hl 0 rfl) ?_
      refine q_getR hx hb hts hown hK hP fd_RX10_10 (Nat.le_of_ble_eq_true rfl) q_kdC_0 rfl q_rhC_0_0 dX10_beginSnapshot_39 ?_
      refine q_getR hx hb hts hown hK hP fd_RX10_145 (Nat.le_of_ble_eq_true rfl) q_kdC_1 rfl q_rhC_1_6 dX10_beginSnapshot_42 ?_
      refine lv_iconst (v := q_I 1) hx hb dX10_beginSnapshot_45 rfl ?_
      refine q_putI hx hb hts hown hK hP hS hA fd_RX10_149 (Nat.le_of_ble_eq_true rfl) q_kdC_22 rfl (q_r 1 rfl) dX10_beginSnapshot_46 h ?_
      clear h hP hS; intro μ6 H locs hP hS h
      refine lv_aload_n hx hb dX10_beginSnapshot_49 rfl (lv_at hl 0 rfl) ?_
      refine q_getR hx hb hts hown hK hP fd_RX10_10 (Nat.le_of_ble_eq_true rfl) q_kdC_0 rfl q_rhC_0_0 dX10_beginSnapshot_50 ?_
      refine lv_iload_n hx hb dX10_beginSnapshot_53 rfl (lv_at hl 1 rfl) ?_
      obtain ⟨μ8, hv7, h⟩ := q_b_some h
      refine q_callV hx hb hml hts hown hK hP hS (As := [.int (q_I a0)]) (rest := []) (st1 := []) cv_RX10_167 (c_Wo_noteEvents l D dA (Or.inl rfl) ra0 hv7) (Nat.le_of_ble_eq_true rfl) q_kdC_1 rfl ⟨rfl, rfl, Nat.le_of_ble_eq_true rfl, Nat.le_of_ble_eq_true rfl⟩ ⟨Nat.le_refl _, Nat.le_refl _⟩ rfl hl.1 rfl (Nat.le_of_ble_eq_true rfl) rfl (fun _ g => g) dX10_beginSnapshot_54 ?_
      clear hP hS hv7; intro H locs _ hP hS _
      refine lv_aload_n hx hb dX10_beginSnapshot_57 rfl (lv_at hl 0 rfl) ?_
      refine q_getR hx hb hts hown hK hP fd_RX10_10 (Nat.le_of_ble_eq_true rfl) q_kdC_0 rfl q_rhC_0_0 dX10_beginSnapshot_58 ?_
      refine q_getR hx hb hts hown hK hP fd_RX10_111 (Nat.le_of_ble_eq_true rfl) q_kdC_1 rfl q_rhC_1_5 dX10_beginSnapshot_61 ?_
      obtain ⟨x10, hv9, h⟩ := q_b_some h
      refine q_callV hx hb hml hts hown hK hP hS (As := []) (rest := []) (st1 := [.int (q_I x10)]) cv_RX10_139 (c_Ch_waitingMarkers l D dA (Or.inl rfl) hv9) (Nat.le_of_ble_eq_true rfl) q_kdC_15 rfl ⟨rfl, rfl, Nat.le_of_ble_eq_true rfl, Nat.le_of_ble_eq_true rfl⟩ ⟨Nat.le_refl _, Nat.le_refl _⟩ rfl hl.1 rfl (Nat.le_of_ble_eq_true rfl) rfl (fun _ g => g) dX10_beginSnapshot_64 ?_
      clear hP hS hv9; intro H locs r10 hP hS _
      rw [← hQ]
      exact q_ret2 hx hb hr hlocks hP hS r10 h dX10_beginSnapshot_67
set_option maxHeartbeats 4000000 in
set_option maxRecDepth 100000 in
theorem c_CR_abandonSnapshot (l : Launch) (D : va_G) (dA : Nat → ClassId) {z sz : Nat} {N : Nat} {μ : q_M} {xo : Int} {μo : q_M} (h : f_CR_abandonSnapshot N μ = some (xo, μo)) : Met l yX10_abandonSnapshot (q_wc yX10_abandonSnapshot cX10_abandonSnapshot 2 (some .int)) ({ frames := 2, cells := 0, slots := 0, locals := 44 } : Room) (va_Pc [.ref (z + 0)] (q_B (q_P D dA q_kdC q_rhoC 77 z sz μ) D dA)) (q_Q (some (.int (q_I xo))) (q_R xo) (q_P D dA q_kdC q_rhoC 77 z sz μo) (q_A z 77)) 0 0 (q_A z 77) := by
  refine Met.ofW (cc := cX10_abandonSnapshot) (maxL := 2) (ret := (some .int)) (by decide) rfl ?_
  intro p e s m args below meth c s₁ B hml hv
  obtain ⟨hargs, hP, hK⟩ := hv
  have hx := B.exec
  have hb := B.bytes
  have hr := B.returns
  have hts : ∀ w ∈ q_W, w.before args s = true := fun w hw => atoms_spec (ws := q_wc yX10_abandonSnapshot cX10_abandonSnapshot 2 (some .int)) B.pre w (List.mem_cons_of_mem _ hw)
  have hown : s.vm.findClass RX10 = some m.cls := findClass_of_methodNamed B.named
  have hlocks := B.notSynchronized
  have hS : va_S (q_A z 77) s.heap s.heap [] := va_S.rf
  have hA : ∀ k, k < 77 → q_A z 77 (z + k) := fun k hk => ⟨Nat.le_add_right z k, Nat.add_lt_add_left hk z⟩
  have hl := lv_entry [.ref (z + 0)] (n := 2) (Nat.le_of_ble_eq_true rfl)
  refine W.eq (by rw [hargs, lg_entry_eq]) ?_
  generalize (lg_sl [.ref (z + 0)] ++ List.replicate (2 - (lg_sl [.ref (z + 0)]).length) Slot.unset).toArray = ls at hl ⊢
  have hl : lv_has ls 2 [(0, .ref (z + 0))] := hl
  generalize hQ : MQ below _ args s 0 0 _ = Qf
  change W p l e ({ frames := 2, cells := 0, slots := 0, locals := 44 } : Room) s m args below meth c s.heap [] 0 0 Qf (F0 m 0 ls [])
  unfold f_CR_abandonSnapshot at h
  refine lv_aload_n hx hb dX10_abandonSnapshot_0 rfl (lv_at hl 0 rfl) ?_
  refine q_getR hx hb hts hown hK hP fd_RX10_10 (Nat.le_of_ble_eq_true rfl) q_kdC_0 rfl q_rhC_0_0 dX10_abandonSnapshot_1 ?_
  refine q_getR hx hb hts hown hK hP fd_RX10_145 (Nat.le_of_ble_eq_true rfl) q_kdC_1 rfl q_rhC_1_6 dX10_abandonSnapshot_4 ?_
  refine q_getI hx hb hts hown hK hP fd_RX10_149 (Nat.le_of_ble_eq_true rfl) q_kdC_22 rfl dX10_abandonSnapshot_7 h ?_
  clear h; intro x1 r1 h
  refine lv_iconst (v := q_I 1) hx hb dX10_abandonSnapshot_10 rfl ?_
  refine q_ceq hx hb r1 (q_r 1 rfl) (tgt := 17) dX10_abandonSnapshot_11 (by decide) h ?_ ?_
  · clear h; intro g8 h
    refine lv_aload_n hx hb dX10_abandonSnapshot_17 rfl (lv_at hl 0 rfl) ?_
    refine q_getR hx hb hts hown hK hP fd_RX10_10 (Nat.le_of_ble_eq_true rfl) q_kdC_0 rfl q_rhC_0_0 dX10_abandonSnapshot_18 ?_
    refine q_getR hx hb hts hown hK hP fd_RX10_111 (Nat.le_of_ble_eq_true rfl) q_kdC_1 rfl q_rhC_1_5 dX10_abandonSnapshot_21 ?_
    obtain ⟨x3, hv2, h⟩ := q_b_some h
    refine q_callV hx hb hml hts hown hK hP hS (As := []) (rest := []) (st1 := [.int (q_I x3)]) cv_RX10_139 (c_Ch_waitingMarkers l D dA (Or.inl rfl) hv2) (Nat.le_of_ble_eq_true rfl) q_kdC_15 rfl ⟨rfl, rfl, Nat.le_of_ble_eq_true rfl, Nat.le_of_ble_eq_true rfl⟩ ⟨Nat.le_refl _, Nat.le_refl _⟩ rfl hl.1 rfl (Nat.le_of_ble_eq_true rfl) rfl (fun _ g => g) dX10_abandonSnapshot_24 ?_
    clear hP hS hv2; intro H locs r3 hP hS _
    refine lv_istore_n (lv' := [(1, .int (q_I x3)), (0, .ref (z + 0))]) hx hb dX10_abandonSnapshot_27 rfl hl (by decide) rfl ?_
    clear hl; intro ls hl
    refine lv_aload_n hx hb dX10_abandonSnapshot_28 rfl (lv_at hl 1 rfl) ?_
    refine q_getR hx hb hts hown hK hP fd_RX10_10 (Nat.le_of_ble_eq_true rfl) q_kdC_0 rfl q_rhC_0_0 dX10_abandonSnapshot_29 ?_
    refine q_getR hx hb hts hown hK hP fd_RX10_111 (Nat.le_of_ble_eq_true rfl) q_kdC_1 rfl q_rhC_1_5 dX10_abandonSnapshot_32 ?_
    obtain ⟨μ5, hv4, h⟩ := q_b_some h
    refine q_callV hx hb hml hts hown hK hP hS (As := []) (rest := []) (st1 := []) cv_RX10_170 (c_Ch_dropMarkers l D dA (Or.inl rfl) hv4) (Nat.le_of_ble_eq_true rfl) q_kdC_15 rfl ⟨rfl, rfl, Nat.le_of_ble_eq_true rfl, Nat.le_of_ble_eq_true rfl⟩ ⟨Nat.le_refl _, Nat.le_refl _⟩ rfl hl.1 rfl (Nat.le_of_ble_eq_true rfl) rfl (fun _ g => g) dX10_abandonSnapshot_35 ?_
    clear hP hS hv4; intro H locs _ hP hS _
    refine lv_aload_n hx hb dX10_abandonSnapshot_38 rfl (lv_at hl 1 rfl) ?_
    refine q_getR hx hb hts hown hK hP fd_RX10_10 (Nat.le_of_ble_eq_true rfl) q_kdC_0 rfl q_rhC_0_0 dX10_abandonSnapshot_39 ?_
    refine q_getR hx hb hts hown hK hP fd_RX10_145 (Nat.le_of_ble_eq_true rfl) q_kdC_1 rfl q_rhC_1_6 dX10_abandonSnapshot_42 ?_
    obtain ⟨μ7, hv6, h⟩ := q_b_some h
    refine q_callV hx hb hml hts hown hK hP hS (As := []) (rest := []) (st1 := []) cv_RX10_164 (c_Sn_forget l D dA (Or.inl rfl) hv6) (Nat.le_of_ble_eq_true rfl) q_kdC_22 rfl ⟨rfl, rfl, Nat.le_of_ble_eq_true rfl, Nat.le_of_ble_eq_true rfl⟩ ⟨Nat.le_refl _, Nat.le_refl _⟩ rfl hl.1 rfl (Nat.le_of_ble_eq_true rfl) rfl (fun _ g => g) dX10_abandonSnapshot_45 ?_
    clear hP hS hv6; intro H locs _ hP hS _
    refine lv_iload_n hx hb dX10_abandonSnapshot_48 rfl (lv_at hl 0 rfl) ?_
    rw [← hQ]
    exact q_ret2 hx hb hr hlocks hP hS r3 h dX10_abandonSnapshot_49
  · clear h; intro g8 h
    refine lv_ldc hx hb hown (hts _ ck_RX10_84) dX10_abandonSnapshot_14 ?_
    rw [← hQ]
    exact q_ret2 hx hb hr hlocks hP hS (q_r (-100003) rfl) h dX10_abandonSnapshot_16
set_option maxHeartbeats 4000000 in
set_option maxRecDepth 100000 in
theorem c_CR_recorded (l : Launch) (D : va_G) (dA : Nat → ClassId) {z sz : Nat} {a0 : Int} (ra0 : q_R a0) {μ : q_M} {xo : Int} (h : f_CR_recorded a0 μ = some xo) : Met l yX10_recorded (q_wc yX10_recorded cX10_recorded 3 (some .int)) ({ frames := 2, cells := 0, slots := 0, locals := 43 } : Room) (va_Pc [.ref (z + 0), .int (q_I a0)] (q_B (q_P D dA q_kdC q_rhoC 77 z sz μ) D dA)) (q_Q (some (.int (q_I xo))) (q_R xo) (q_P D dA q_kdC q_rhoC 77 z sz μ) (q_A z 77)) 0 0 (q_A z 77) := by
  refine Met.ofW (cc := cX10_recorded) (maxL := 3) (ret := (some .int)) (by decide) rfl ?_
  intro p e s m args below meth c s₁ B hml hv
  obtain ⟨hargs, hP, hK⟩ := hv
  have hx := B.exec
  have hb := B.bytes
  have hr := B.returns
  have hts : ∀ w ∈ q_W, w.before args s = true := fun w hw => atoms_spec (ws := q_wc yX10_recorded cX10_recorded 3 (some .int)) B.pre w (List.mem_cons_of_mem _ hw)
  have hown : s.vm.findClass RX10 = some m.cls := findClass_of_methodNamed B.named
  have hlocks := B.notSynchronized
  have hS : va_S (q_A z 77) s.heap s.heap [] := va_S.rf
  have hA : ∀ k, k < 77 → q_A z 77 (z + k) := fun k hk => ⟨Nat.le_add_right z k, Nat.add_lt_add_left hk z⟩
  have hl := lv_entry [.ref (z + 0), .int (q_I a0)] (n := 3) (Nat.le_of_ble_eq_true rfl)
  refine W.eq (by rw [hargs, lg_entry_eq]) ?_
  generalize (lg_sl [.ref (z + 0), .int (q_I a0)] ++ List.replicate (3 - (lg_sl [.ref (z + 0), .int (q_I a0)]).length) Slot.unset).toArray = ls at hl ⊢
  have hl : lv_has ls 3 [(0, .ref (z + 0)), (1, .int (q_I a0))] := hl
  generalize hQ : MQ below _ args s 0 0 _ = Qf
  change W p l e ({ frames := 2, cells := 0, slots := 0, locals := 43 } : Room) s m args below meth c s.heap [] 0 0 Qf (F0 m 0 ls [])
  unfold f_CR_recorded at h
  refine lv_aload_n hx hb dX10_recorded_0 rfl (lv_at hl 0 rfl) ?_
  refine lv_iload_n hx hb dX10_recorded_1 rfl (lv_at hl 1 rfl) ?_
  obtain ⟨x2, hv1, h⟩ := q_b_some h
  refine q_callV hx hb hml hts hown hK hP hS (As := [.int (q_I a0)]) (rest := []) (st1 := [.int (q_I x2)]) cv_RX10_67 (c_CR_isProcess l D dA ra0 hv1) (Nat.le_of_ble_eq_true rfl) q_kdC_0 rfl ⟨rfl, rfl, Nat.le_of_ble_eq_true rfl, Nat.le_of_ble_eq_true rfl⟩ ⟨Nat.le_refl _, Nat.le_refl _⟩ rfl hl.1 rfl (Nat.le_of_ble_eq_true rfl) rfl (fun _ g => g) dX10_recorded_2 ?_
  clear hP hS hv1; intro H locs r2 hP hS _
  refine q_zne hx hb r2 (tgt := 11) dX10_recorded_5 (by decide) h ?_ ?_
  · clear h; intro g6 h
    refine lv_ldc hx hb hown (hts _ ck_RX10_74) dX10_recorded_8 ?_
    rw [← hQ]
    exact q_ret1 hx hb hr hlocks hP hS (q_r (-100001) rfl) h dX10_recorded_10
  · clear h; intro g6 h
    refine lv_aload_n hx hb dX10_recorded_11 rfl (lv_at hl 0 rfl) ?_
    refine q_getR hx hb hts hown hK hP fd_RX10_10 (Nat.le_of_ble_eq_true rfl) q_kdC_0 rfl q_rhC_0_0 dX10_recorded_12 ?_
    refine q_getR hx hb hts hown hK hP fd_RX10_145 (Nat.le_of_ble_eq_true rfl) q_kdC_1 rfl q_rhC_1_6 dX10_recorded_15 ?_
    refine q_getR hx hb hts hown hK hP fd_RX10_173 (Nat.le_of_ble_eq_true rfl) q_kdC_22 rfl q_rhC_22_1 dX10_recorded_18 ?_
    refine lv_iload_n hx hb dX10_recorded_21 rfl (lv_at hl 1 rfl) ?_
    refine q_iald hx hb hK hP (Nat.le_of_ble_eq_true rfl) q_kdC_23 ra0 dX10_recorded_22 h ?_
    clear h; intro x3 r3 h
    refine lv_istore_n (lv' := [(2, .int (q_I x3)), (0, .ref (z + 0)), (1, .int (q_I a0))]) hx hb dX10_recorded_23 rfl hl (by decide) rfl ?_
    clear hl; intro ls hl
    refine lv_iload_n hx hb dX10_recorded_24 rfl (lv_at hl 0 rfl) ?_
    refine lv_iconst (v := q_I (-1)) hx hb dX10_recorded_25 rfl ?_
    refine q_jn_in h (fun J => ∀ (x4 : Int) (H : Heap) (locs : List Loc) (ls : Array Slot), q_R x4 → q_P D dA q_kdC q_rhoC 77 z sz μ H → va_S (q_A z 77) s.heap H locs → lv_has ls 3 [] → J x4 = some xo → W p l e ({ frames := 2, cells := 0, slots := 0, locals := 43 } : Room) s m args below meth c H locs 0 0 Qf (F0 m 35 ls [.int (q_I x4)])) ?_ ?_
    · clear h hl hP hS; intro x4 H locs ls r4 hP hS hl h
      rw [← hQ]
      exact q_ret1 hx hb hr hlocks hP hS r4 h dX10_recorded_35
    · clear h; intro j35 hj35 h
      refine q_cne hx hb r3 (q_r (-1) rfl) (tgt := 34) dX10_recorded_26 (by decide) h ?_ ?_
      · clear h; intro g5 h
        refine lv_ldc hx hb hown (hts _ ck_RX10_176) dX10_recorded_29 ?_
        refine lv_goto (tgt := 35) hx hb dX10_recorded_31 (by decide) ?_
        exact hj35 ((-100006)) _ _ _ (q_r (-100006) rfl) hP hS (lv_sub hl [] rfl) h
      · clear h; intro g5 h
        refine lv_iload_n hx hb dX10_recorded_34 rfl (lv_at hl 0 rfl) ?_
        exact hj35 x3 _ _ _ r3 hP hS (lv_sub hl [] rfl) h
set_option maxHeartbeats 4000000 in
set_option maxRecDepth 100000 in
theorem c_CR_takeSnapshot (l : Launch) (D : va_G) (dA : Nat → ClassId) {z sz : Nat} {N : Nat} {μ : q_M} {xo : Int} {μo : q_M} (h : f_CR_takeSnapshot N μ = some (xo, μo)) : Met l yX10_takeSnapshot (q_wc yX10_takeSnapshot cX10_takeSnapshot 2 (some .int)) ({ frames := 1, cells := 0, slots := 0, locals := 22 } : Room) (va_Pc [.ref (z + 0)] (q_B (q_P D dA q_kdC q_rhoC 77 z sz μ) D dA)) (q_Q (some (.int (q_I xo))) (q_R xo) (q_P D dA q_kdC q_rhoC 77 z sz μo) (q_A z 77)) 0 0 (q_A z 77) := by
  refine Met.ofW (cc := cX10_takeSnapshot) (maxL := 2) (ret := (some .int)) (by decide) rfl ?_
  intro p e s m args below meth c s₁ B hml hv
  obtain ⟨hargs, hP, hK⟩ := hv
  have hx := B.exec
  have hb := B.bytes
  have hr := B.returns
  have hts : ∀ w ∈ q_W, w.before args s = true := fun w hw => atoms_spec (ws := q_wc yX10_takeSnapshot cX10_takeSnapshot 2 (some .int)) B.pre w (List.mem_cons_of_mem _ hw)
  have hown : s.vm.findClass RX10 = some m.cls := findClass_of_methodNamed B.named
  have hlocks := B.notSynchronized
  have hS : va_S (q_A z 77) s.heap s.heap [] := va_S.rf
  have hA : ∀ k, k < 77 → q_A z 77 (z + k) := fun k hk => ⟨Nat.le_add_right z k, Nat.add_lt_add_left hk z⟩
  have hl := lv_entry [.ref (z + 0)] (n := 2) (Nat.le_of_ble_eq_true rfl)
  refine W.eq (by rw [hargs, lg_entry_eq]) ?_
  generalize (lg_sl [.ref (z + 0)] ++ List.replicate (2 - (lg_sl [.ref (z + 0)]).length) Slot.unset).toArray = ls at hl ⊢
  have hl : lv_has ls 2 [(0, .ref (z + 0))] := hl
  generalize hQ : MQ below _ args s 0 0 _ = Qf
  change W p l e ({ frames := 1, cells := 0, slots := 0, locals := 22 } : Room) s m args below meth c s.heap [] 0 0 Qf (F0 m 0 ls [])
  unfold f_CR_takeSnapshot at h
  refine lv_aload_n hx hb dX10_takeSnapshot_0 rfl (lv_at hl 0 rfl) ?_
  refine q_getR hx hb hts hown hK hP fd_RX10_10 (Nat.le_of_ble_eq_true rfl) q_kdC_0 rfl q_rhC_0_0 dX10_takeSnapshot_1 ?_
  refine q_getR hx hb hts hown hK hP fd_RX10_145 (Nat.le_of_ble_eq_true rfl) q_kdC_1 rfl q_rhC_1_6 dX10_takeSnapshot_4 ?_
  refine q_getI hx hb hts hown hK hP fd_RX10_149 (Nat.le_of_ble_eq_true rfl) q_kdC_22 rfl dX10_takeSnapshot_7 h ?_
  clear h; intro x1 r1 h
  refine lv_iconst (v := q_I 2) hx hb dX10_takeSnapshot_10 rfl ?_
  refine q_ceq hx hb r1 (q_r 2 rfl) (tgt := 17) dX10_takeSnapshot_11 (by decide) h ?_ ?_
  · clear h; intro g12 h
    refine lv_iconst (v := q_I 0) hx hb dX10_takeSnapshot_17 rfl ?_
    refine lv_istore_n (lv' := [(1, .int (q_I 0)), (0, .ref (z + 0))]) hx hb dX10_takeSnapshot_18 rfl hl (by decide) rfl ?_
    clear hl; intro ls hl
    have L19 : ∀ (k57 : q_M → Option (Int × q_M)), (∀ (μ4 : q_M) (H : Heap) (locs : List Loc) (ls : Array Slot), q_P D dA q_kdC q_rhoC 77 z sz μ4 H → va_S (q_A z 77) s.heap H locs → lv_has ls 2 [(0, .ref (z + 0))] → k57 μ4 = some (xo, μo) → W p l e ({ frames := 1, cells := 0, slots := 0, locals := 22 } : Room) s m args below meth c H locs 0 0 Qf (F0 m 57 ls [])) → ∀ (nf19 : Nat) (x2 : Int) (μ3 : q_M) (H : Heap) (locs : List Loc) (ls : Array Slot), q_R x2 → q_P D dA q_kdC q_rhoC 77 z sz μ3 H → va_S (q_A z 77) s.heap H locs → lv_has ls 2 [(0, .ref (z + 0)), (1, .int (q_I x2))] → f_CR_takeSnapshot_L19  k57 nf19 x2 μ3 = some (xo, μo) → W p l e ({ frames := 1, cells := 0, slots := 0, locals := 22 } : Room) s m args below meth c H locs 0 0 Qf (F0 m 19 ls []) := by
      clear h hl hP hS
      intro k57 hk57 nf19
      induction nf19 with
      | zero =>
        intro x2 μ3 H locs ls r2 hP hS hl h
        rw [f_CR_takeSnapshot_L19] at h
        cases h
      | succ nf19 ih19 =>
        intro x2 μ3 H locs ls r2 hP hS hl h
        rw [f_CR_takeSnapshot_L19] at h
        refine lv_iload_n hx hb dX10_takeSnapshot_19 rfl (lv_at hl 1 rfl) ?_
        refine lv_aload_n hx hb dX10_takeSnapshot_20 rfl (lv_at hl 0 rfl) ?_
        refine q_getR hx hb hts hown hK hP fd_RX10_10 (Nat.le_of_ble_eq_true rfl) q_kdC_0 rfl q_rhC_0_0 dX10_takeSnapshot_21 ?_
        refine q_getI hx hb hts hown hK hP fd_RX10_63 (Nat.le_of_ble_eq_true rfl) q_kdC_1 rfl dX10_takeSnapshot_24 h ?_
        clear h; intro x5 r5 h
        refine q_cge hx hb r2 r5 (tgt := 57) dX10_takeSnapshot_27 (by decide) h ?_ ?_
        · clear h; intro g9 h
          exact hk57 μ3 _ _ _ hP hS (lv_sub hl [0] rfl) h
        · clear h; intro g9 h
          refine lv_aload_n hx hb dX10_takeSnapshot_30 rfl (lv_at hl 0 rfl) ?_
          refine q_getR hx hb hts hown hK hP fd_RX10_10 (Nat.le_of_ble_eq_true rfl) q_kdC_0 rfl q_rhC_0_0 dX10_takeSnapshot_31 ?_
          refine q_getR hx hb hts hown hK hP fd_RX10_177 (Nat.le_of_ble_eq_true rfl) q_kdC_1 rfl q_rhC_1_3 dX10_takeSnapshot_34 ?_
          refine lv_iload_n hx hb dX10_takeSnapshot_37 rfl (lv_at hl 1 rfl) ?_
          refine lv_aload_n hx hb dX10_takeSnapshot_38 rfl (lv_at hl 0 rfl) ?_
          refine q_getR hx hb hts hown hK hP fd_RX10_10 (Nat.le_of_ble_eq_true rfl) q_kdC_0 rfl q_rhC_0_0 dX10_takeSnapshot_39 ?_
          refine q_getR hx hb hts hown hK hP fd_RX10_145 (Nat.le_of_ble_eq_true rfl) q_kdC_1 rfl q_rhC_1_6 dX10_takeSnapshot_42 ?_
          refine q_getR hx hb hts hown hK hP fd_RX10_173 (Nat.le_of_ble_eq_true rfl) q_kdC_22 rfl q_rhC_22_1 dX10_takeSnapshot_45 ?_
          refine lv_iload_n hx hb dX10_takeSnapshot_48 rfl (lv_at hl 1 rfl) ?_
          refine q_iald hx hb hK hP (Nat.le_of_ble_eq_true rfl) q_kdC_23 r2 dX10_takeSnapshot_49 h ?_
          clear h; intro x6 r6 h
          refine q_iast hx hb hK hP hS hA (Nat.le_of_ble_eq_true rfl) q_kdC_4 r2 r6 dX10_takeSnapshot_50 h ?_
          clear h hP hS; intro μ7 H locs hP hS h
          refine q_iinc (k := 1) (lv' := fun t => [(1, .int (q_I t)), (0, .ref (z + 0))]) hx hb dX10_takeSnapshot_51 hl rfl (by decide) (fun _ => rfl) h ?_
          clear h hl; intro x8 ls r8 hl h
          refine lv_goto (tgt := 19) hx hb dX10_takeSnapshot_54 (by decide) ?_
          exact ih19 x8 μ7 _ _ _ r8 hP hS (lv_sub hl [1, 0] rfl) h
    refine L19 _ ?_  _ 0 μ _ _ _ (q_r 0 rfl) hP hS (lv_sub hl [1, 0] rfl) h
    · clear h hl hP hS; intro μ4 H locs ls  hP hS hl h
      refine lv_aload_n hx hb dX10_takeSnapshot_57 rfl (lv_at hl 0 rfl) ?_
      refine q_getR hx hb hts hown hK hP fd_RX10_10 (Nat.le_of_ble_eq_true rfl) q_kdC_0 rfl q_rhC_0_0 dX10_takeSnapshot_58 ?_
      obtain ⟨x11, hv10, h⟩ := q_b_some h
      refine q_callV hx hb hml hts hown hK hP hS (As := []) (rest := []) (st1 := [.int (q_I x11)]) cv_RX10_154 (c_Wo_eventsInCut l D dA (Or.inl rfl) hv10) (Nat.le_of_ble_eq_true rfl) q_kdC_1 rfl ⟨rfl, rfl, Nat.le_of_ble_eq_true rfl, Nat.le_of_ble_eq_true rfl⟩ ⟨Nat.le_refl _, Nat.le_refl _⟩ rfl hl.1 rfl (Nat.le_of_ble_eq_true rfl) rfl (fun _ g => g) dX10_takeSnapshot_61 ?_
      clear hP hS hv10; intro H locs r11 hP hS _
      rw [← hQ]
      exact q_ret2 hx hb hr hlocks hP hS r11 h dX10_takeSnapshot_64
  · clear h; intro g12 h
    refine lv_ldc hx hb hown (hts _ ck_RX10_84) dX10_takeSnapshot_14 ?_
    rw [← hQ]
    exact q_ret2 hx hb hr hlocks hP hS (q_r (-100003) rfl) h dX10_takeSnapshot_16
set_option maxHeartbeats 4000000 in
set_option maxRecDepth 100000 in
theorem c_CR_setCut (l : Launch) (D : va_G) (dA : Nat → ClassId) {z sz : Nat} {a0 : Int} (ra0 : q_R a0) {a1 : Int} (ra1 : q_R a1) {μ : q_M} {xo : Int} {μo : q_M} (h : f_CR_setCut a0 a1 μ = some (xo, μo)) : Met l yX10_setCut (q_wc yX10_setCut cX10_setCut 4 (some .int)) ({ frames := 2, cells := 0, slots := 0, locals := 43 } : Room) (va_Pc [.ref (z + 0), .int (q_I a0), .int (q_I a1)] (q_B (q_P D dA q_kdC q_rhoC 77 z sz μ) D dA)) (q_Q (some (.int (q_I xo))) (q_R xo) (q_P D dA q_kdC q_rhoC 77 z sz μo) (q_A z 77)) 0 0 (q_A z 77) := by
  refine Met.ofW (cc := cX10_setCut) (maxL := 4) (ret := (some .int)) (by decide) rfl ?_
  intro p e s m args below meth c s₁ B hml hv
  obtain ⟨hargs, hP, hK⟩ := hv
  have hx := B.exec
  have hb := B.bytes
  have hr := B.returns
  have hts : ∀ w ∈ q_W, w.before args s = true := fun w hw => atoms_spec (ws := q_wc yX10_setCut cX10_setCut 4 (some .int)) B.pre w (List.mem_cons_of_mem _ hw)
  have hown : s.vm.findClass RX10 = some m.cls := findClass_of_methodNamed B.named
  have hlocks := B.notSynchronized
  have hS : va_S (q_A z 77) s.heap s.heap [] := va_S.rf
  have hA : ∀ k, k < 77 → q_A z 77 (z + k) := fun k hk => ⟨Nat.le_add_right z k, Nat.add_lt_add_left hk z⟩
  have hl := lv_entry [.ref (z + 0), .int (q_I a0), .int (q_I a1)] (n := 4) (Nat.le_of_ble_eq_true rfl)
  refine W.eq (by rw [hargs, lg_entry_eq]) ?_
  generalize (lg_sl [.ref (z + 0), .int (q_I a0), .int (q_I a1)] ++ List.replicate (4 - (lg_sl [.ref (z + 0), .int (q_I a0), .int (q_I a1)]).length) Slot.unset).toArray = ls at hl ⊢
  have hl : lv_has ls 4 [(0, .ref (z + 0)), (1, .int (q_I a0)), (2, .int (q_I a1))] := hl
  generalize hQ : MQ below _ args s 0 0 _ = Qf
  change W p l e ({ frames := 2, cells := 0, slots := 0, locals := 43 } : Room) s m args below meth c s.heap [] 0 0 Qf (F0 m 0 ls [])
  unfold f_CR_setCut at h
  refine lv_aload_n hx hb dX10_setCut_0 rfl (lv_at hl 0 rfl) ?_
  refine lv_iload_n hx hb dX10_setCut_1 rfl (lv_at hl 1 rfl) ?_
  obtain ⟨x2, hv1, h⟩ := q_b_some h
  refine q_callV hx hb hml hts hown hK hP hS (As := [.int (q_I a0)]) (rest := []) (st1 := [.int (q_I x2)]) cv_RX10_67 (c_CR_isProcess l D dA ra0 hv1) (Nat.le_of_ble_eq_true rfl) q_kdC_0 rfl ⟨rfl, rfl, Nat.le_of_ble_eq_true rfl, Nat.le_of_ble_eq_true rfl⟩ ⟨Nat.le_refl _, Nat.le_refl _⟩ rfl hl.1 rfl (Nat.le_of_ble_eq_true rfl) rfl (fun _ g => g) dX10_setCut_2 ?_
  clear hP hS hv1; intro H locs r2 hP hS _
  refine q_zne hx hb r2 (tgt := 11) dX10_setCut_5 (by decide) h ?_ ?_
  · clear h; intro g9 h
    refine lv_ldc hx hb hown (hts _ ck_RX10_74) dX10_setCut_8 ?_
    rw [← hQ]
    exact q_ret2 hx hb hr hlocks hP hS (q_r (-100001) rfl) h dX10_setCut_10
  · clear h; intro g9 h
    refine lv_iload_n hx hb dX10_setCut_11 rfl (lv_at hl 2 rfl) ?_
    refine lv_iconst (v := q_I 0) hx hb dX10_setCut_12 rfl ?_
    refine lv_aload_n hx hb dX10_setCut_13 rfl (lv_at hl 0 rfl) ?_
    refine q_getR hx hb hts hown hK hP fd_RX10_10 (Nat.le_of_ble_eq_true rfl) q_kdC_0 rfl q_rhC_0_0 dX10_setCut_14 ?_
    refine q_getR hx hb hts hown hK hP fd_RX10_75 (Nat.le_of_ble_eq_true rfl) q_kdC_1 rfl q_rhC_1_4 dX10_setCut_17 ?_
    refine q_getR hx hb hts hown hK hP fd_RX10_161 (Nat.le_of_ble_eq_true rfl) q_kdC_5 rfl q_rhC_5_9 dX10_setCut_20 ?_
    refine lv_iload_n hx hb dX10_setCut_23 rfl (lv_at hl 1 rfl) ?_
    refine q_iald hx hb hK hP (Nat.le_of_ble_eq_true rfl) q_kdC_14 ra0 dX10_setCut_24 h ?_
    clear h; intro x3 r3 h
    obtain ⟨x5, hv4, h⟩ := q_b_some h
    refine q_callS hx hb hml hts hown hK hP hS (As := [.int (q_I a1), .int (q_I 0), .int (q_I x3)]) (rest := []) (st1 := [.int (q_I x5)]) cs_RX10_58 (c_CR_within l D dA ra1 (q_r 0 rfl) r3 hv4) ⟨rfl, rfl, Nat.le_of_ble_eq_true rfl, Nat.le_of_ble_eq_true rfl⟩ ⟨Nat.le_refl _, Nat.le_refl _⟩ rfl hl.1 rfl (Nat.le_of_ble_eq_true rfl) rfl (fun _ g => g) dX10_setCut_25 ?_
    clear hP hS hv4; intro H locs r5 hP hS _
    refine q_zne hx hb r5 (tgt := 34) dX10_setCut_28 (by decide) h ?_ ?_
    · clear h; intro g8 h
      refine lv_ldc hx hb hown (hts _ ck_RX10_62) dX10_setCut_31 ?_
      rw [← hQ]
      exact q_ret2 hx hb hr hlocks hP hS (q_r (-100002) rfl) h dX10_setCut_33
    · clear h; intro g8 h
      refine lv_aload_n hx hb dX10_setCut_34 rfl (lv_at hl 0 rfl) ?_
      refine q_getR hx hb hts hown hK hP fd_RX10_10 (Nat.le_of_ble_eq_true rfl) q_kdC_0 rfl q_rhC_0_0 dX10_setCut_35 ?_
      refine q_getR hx hb hts hown hK hP fd_RX10_177 (Nat.le_of_ble_eq_true rfl) q_kdC_1 rfl q_rhC_1_3 dX10_setCut_38 ?_
      refine lv_iload_n hx hb dX10_setCut_41 rfl (lv_at hl 1 rfl) ?_
      refine q_iald hx hb hK hP (Nat.le_of_ble_eq_true rfl) q_kdC_4 ra0 dX10_setCut_42 h ?_
      clear h; intro x6 r6 h
      refine lv_istore_n (lv' := [(3, .int (q_I x6)), (0, .ref (z + 0)), (1, .int (q_I a0)), (2, .int (q_I a1))]) hx hb dX10_setCut_43 rfl hl (by decide) rfl ?_
      clear hl; intro ls hl
      refine lv_aload_n hx hb dX10_setCut_44 rfl (lv_at hl 1 rfl) ?_
      refine q_getR hx hb hts hown hK hP fd_RX10_10 (Nat.le_of_ble_eq_true rfl) q_kdC_0 rfl q_rhC_0_0 dX10_setCut_45 ?_
      refine q_getR hx hb hts hown hK hP fd_RX10_177 (Nat.le_of_ble_eq_true rfl) q_kdC_1 rfl q_rhC_1_3 dX10_setCut_48 ?_
      refine lv_iload_n hx hb dX10_setCut_51 rfl (lv_at hl 2 rfl) ?_
      refine lv_iload_n hx hb dX10_setCut_52 rfl (lv_at hl 3 rfl) ?_
      refine q_iast hx hb hK hP hS hA (Nat.le_of_ble_eq_true rfl) q_kdC_4 ra0 ra1 dX10_setCut_53 h ?_
      clear h hP hS; intro μ7 H locs hP hS h
      refine lv_iload_n hx hb dX10_setCut_54 rfl (lv_at hl 0 rfl) ?_
      rw [← hQ]
      exact q_ret2 hx hb hr hlocks hP hS r6 h dX10_setCut_55
set_option maxHeartbeats 4000000 in
set_option maxRecDepth 100000 in
theorem c_CR_cut (l : Launch) (D : va_G) (dA : Nat → ClassId) {z sz : Nat} {a0 : Int} (ra0 : q_R a0) {μ : q_M} {xo : Int} (h : f_CR_cut a0 μ = some xo) : Met l yX10_cut (q_wc yX10_cut cX10_cut 2 (some .int)) ({ frames := 2, cells := 0, slots := 0, locals := 43 } : Room) (va_Pc [.ref (z + 0), .int (q_I a0)] (q_B (q_P D dA q_kdC q_rhoC 77 z sz μ) D dA)) (q_Q (some (.int (q_I xo))) (q_R xo) (q_P D dA q_kdC q_rhoC 77 z sz μ) (q_A z 77)) 0 0 (q_A z 77) := by
  refine Met.ofW (cc := cX10_cut) (maxL := 2) (ret := (some .int)) (by decide) rfl ?_
  intro p e s m args below meth c s₁ B hml hv
  obtain ⟨hargs, hP, hK⟩ := hv
  have hx := B.exec
  have hb := B.bytes
  have hr := B.returns
  have hts : ∀ w ∈ q_W, w.before args s = true := fun w hw => atoms_spec (ws := q_wc yX10_cut cX10_cut 2 (some .int)) B.pre w (List.mem_cons_of_mem _ hw)
  have hown : s.vm.findClass RX10 = some m.cls := findClass_of_methodNamed B.named
  have hlocks := B.notSynchronized
  have hS : va_S (q_A z 77) s.heap s.heap [] := va_S.rf
  have hA : ∀ k, k < 77 → q_A z 77 (z + k) := fun k hk => ⟨Nat.le_add_right z k, Nat.add_lt_add_left hk z⟩
  have hl := lv_entry [.ref (z + 0), .int (q_I a0)] (n := 2) (Nat.le_of_ble_eq_true rfl)
  refine W.eq (by rw [hargs, lg_entry_eq]) ?_
  generalize (lg_sl [.ref (z + 0), .int (q_I a0)] ++ List.replicate (2 - (lg_sl [.ref (z + 0), .int (q_I a0)]).length) Slot.unset).toArray = ls at hl ⊢
  have hl : lv_has ls 2 [(0, .ref (z + 0)), (1, .int (q_I a0))] := hl
  generalize hQ : MQ below _ args s 0 0 _ = Qf
  change W p l e ({ frames := 2, cells := 0, slots := 0, locals := 43 } : Room) s m args below meth c s.heap [] 0 0 Qf (F0 m 0 ls [])
  unfold f_CR_cut at h
  refine lv_aload_n hx hb dX10_cut_0 rfl (lv_at hl 0 rfl) ?_
  refine lv_iload_n hx hb dX10_cut_1 rfl (lv_at hl 1 rfl) ?_
  obtain ⟨x2, hv1, h⟩ := q_b_some h
  refine q_callV hx hb hml hts hown hK hP hS (As := [.int (q_I a0)]) (rest := []) (st1 := [.int (q_I x2)]) cv_RX10_67 (c_CR_isProcess l D dA ra0 hv1) (Nat.le_of_ble_eq_true rfl) q_kdC_0 rfl ⟨rfl, rfl, Nat.le_of_ble_eq_true rfl, Nat.le_of_ble_eq_true rfl⟩ ⟨Nat.le_refl _, Nat.le_refl _⟩ rfl hl.1 rfl (Nat.le_of_ble_eq_true rfl) rfl (fun _ g => g) dX10_cut_2 ?_
  clear hP hS hv1; intro H locs r2 hP hS _
  refine q_jn_in h (fun J => ∀ (x3 : Int) (H : Heap) (locs : List Loc) (ls : Array Slot), q_R x3 → q_P D dA q_kdC q_rhoC 77 z sz μ H → va_S (q_A z 77) s.heap H locs → lv_has ls 2 [] → J x3 = some xo → W p l e ({ frames := 2, cells := 0, slots := 0, locals := 43 } : Room) s m args below meth c H locs 0 0 Qf (F0 m 22 ls [.int (q_I x3)])) ?_ ?_
  · clear h hl hP hS; intro x3 H locs ls r3 hP hS hl h
    rw [← hQ]
    exact q_ret1 hx hb hr hlocks hP hS r3 h dX10_cut_22
  · clear h; intro j22 hj22 h
    refine q_zeq hx hb r2 (tgt := 20) dX10_cut_5 (by decide) h ?_ ?_
    · clear h; intro g5 h
      refine lv_ldc hx hb hown (hts _ ck_RX10_74) dX10_cut_20 ?_
      exact hj22 ((-100001)) _ _ _ (q_r (-100001) rfl) hP hS (lv_sub hl [] rfl) h
    · clear h; intro g5 h
      refine lv_aload_n hx hb dX10_cut_8 rfl (lv_at hl 0 rfl) ?_
      refine q_getR hx hb hts hown hK hP fd_RX10_10 (Nat.le_of_ble_eq_true rfl) q_kdC_0 rfl q_rhC_0_0 dX10_cut_9 ?_
      refine q_getR hx hb hts hown hK hP fd_RX10_177 (Nat.le_of_ble_eq_true rfl) q_kdC_1 rfl q_rhC_1_3 dX10_cut_12 ?_
      refine lv_iload_n hx hb dX10_cut_15 rfl (lv_at hl 1 rfl) ?_
      refine q_iald hx hb hK hP (Nat.le_of_ble_eq_true rfl) q_kdC_4 ra0 dX10_cut_16 h ?_
      clear h; intro x4 r4 h
      refine lv_goto (tgt := 22) hx hb dX10_cut_17 (by decide) ?_
      exact hj22 x4 _ _ _ r4 hP hS (lv_sub hl [] rfl) h
set_option maxHeartbeats 4000000 in
set_option maxRecDepth 100000 in
theorem c_Wo_inCut (l : Launch) (D : va_G) (dA : Nat → ClassId) {z sz : Nat} {o : Nat} (ho : o = 1 ∨ o = 24) {a0 : Int} (ra0 : q_R a0) {μ : q_M} {xo : Int} (h : f_Wo_inCut o a0 μ = some xo) : Met l yX9_inCut (q_wc yX9_inCut cX9_inCut 2 (some .boolean)) ({ frames := 1, cells := 0, slots := 0, locals := 22 } : Room) (va_Pc [.ref (z + o), .int (q_I a0)] (q_B (q_P D dA q_kdC q_rhoC 77 z sz μ) D dA)) (q_Q (some (.int (q_I xo))) (q_R xo) (q_P D dA q_kdC q_rhoC 77 z sz μ) (q_A z 77)) 0 0 (q_A z 77) := by
  refine Met.ofW (cc := cX9_inCut) (maxL := 2) (ret := (some .boolean)) (by decide) rfl ?_
  intro p e s m args below meth c s₁ B hml hv
  obtain ⟨hargs, hP, hK⟩ := hv
  have hx := B.exec
  have hb := B.bytes
  have hr := B.returns
  have hts : ∀ w ∈ q_W, w.before args s = true := fun w hw => atoms_spec (ws := q_wc yX9_inCut cX9_inCut 2 (some .boolean)) B.pre w (List.mem_cons_of_mem _ hw)
  have hown : s.vm.findClass RX9 = some m.cls := findClass_of_methodNamed B.named
  have hlocks := B.notSynchronized
  have hS : va_S (q_A z 77) s.heap s.heap [] := va_S.rf
  have hA : ∀ k, k < 77 → q_A z 77 (z + k) := fun k hk => ⟨Nat.le_add_right z k, Nat.add_lt_add_left hk z⟩
  have hl := lv_entry [.ref (z + o), .int (q_I a0)] (n := 2) (Nat.le_of_ble_eq_true rfl)
  refine W.eq (by rw [hargs, lg_entry_eq]) ?_
  generalize (lg_sl [.ref (z + o), .int (q_I a0)] ++ List.replicate (2 - (lg_sl [.ref (z + o), .int (q_I a0)]).length) Slot.unset).toArray = ls at hl ⊢
  have hl : lv_has ls 2 [(0, .ref (z + o)), (1, .int (q_I a0))] := hl
  generalize hQ : MQ below _ args s 0 0 _ = Qf
  change W p l e ({ frames := 1, cells := 0, slots := 0, locals := 22 } : Room) s m args below meth c s.heap [] 0 0 Qf (F0 m 0 ls [])
  unfold f_Wo_inCut at h
  refine lv_iload_n hx hb dX9_inCut_0 rfl (lv_at hl 1 rfl) ?_
  refine lv_iconst (v := q_I 0) hx hb dX9_inCut_1 rfl ?_
  refine lv_aload_n hx hb dX9_inCut_2 rfl (lv_at hl 0 rfl) ?_
  refine q_getR hx hb hts hown hK hP fd_RX9_24 (q_ltW0 ho) (q_kdW_0 ho) rfl (q_rhW_0_4 ho) dX9_inCut_3 ?_
  refine q_getI hx hb hts hown hK hP fd_RX9_106 (q_ltW ho rfl) (q_kdW_4 ho) rfl dX9_inCut_6 h ?_
  clear h; intro x1 r1 h
  refine lv_iconst (v := q_I 1) hx hb dX9_inCut_9 rfl ?_
  refine q_isub hx hb dX9_inCut_10 h ?_
  clear h; intro x2 r2 h
  obtain ⟨x4, hv3, h⟩ := q_b_some h
  refine q_callN hx hb hml hts hown hK hP hS (As := [.int (q_I a0), .int (q_I 0), .int (q_I x2)]) (rest := []) (st1 := [.int (q_I x4)]) cn_RX9_101 (c_CR_within l D dA ra0 (q_r 0 rfl) r2 hv3) ⟨rfl, rfl, Nat.le_of_ble_eq_true rfl, Nat.le_of_ble_eq_true rfl⟩ ⟨Nat.le_refl _, Nat.le_refl _⟩ rfl hl.1 rfl (Nat.le_of_ble_eq_true rfl) rfl (fun _ g => g) dX9_inCut_11 ?_
  clear hP hS hv3; intro H locs r4 hP hS _
  refine q_jn_in h (fun J => ∀ (x5 : Int) (H : Heap) (locs : List Loc) (ls : Array Slot), q_R x5 → q_P D dA q_kdC q_rhoC 77 z sz μ H → va_S (q_A z 77) s.heap H locs → lv_has ls 2 [] → J x5 = some xo → W p l e ({ frames := 1, cells := 0, slots := 0, locals := 22 } : Room) s m args below meth c H locs 0 0 Qf (F0 m 48 ls [.int (q_I x5)])) ?_ ?_
  · clear h hl hP hS; intro x5 H locs ls r5 hP hS hl h
    rw [← hQ]
    obtain ⟨hz, h⟩ := q_rz_some h
    exact q_retz1 hx hb hr hlocks hP hS hz h dX9_inCut_48
  · clear h; intro j48 hj48 h
    refine q_jn_in h (fun J => ∀ (H : Heap) (locs : List Loc) (ls : Array Slot), q_P D dA q_kdC q_rhoC 77 z sz μ H → va_S (q_A z 77) s.heap H locs → lv_has ls 2 [] → J = some xo → W p l e ({ frames := 1, cells := 0, slots := 0, locals := 22 } : Room) s m args below meth c H locs 0 0 Qf (F0 m 47 ls [])) ?_ ?_
    · clear h hl hP hS; intro  H locs ls  hP hS hl h
      refine lv_iconst (v := q_I 0) hx hb dX9_inCut_47 rfl ?_
      exact hj48 0 _ _ _ (q_r 0 rfl) hP hS (lv_sub hl [] rfl) h
    · clear h; intro j47 hj47 h
      refine q_zeq hx hb r4 (tgt := 47) dX9_inCut_14 (by decide) h ?_ ?_
      · clear h; intro g10 h
        exact hj47  _ _ _ hP hS (lv_sub hl [] rfl) h
      · clear h; intro g10 h
        refine lv_aload_n hx hb dX9_inCut_17 rfl (lv_at hl 0 rfl) ?_
        refine q_getR hx hb hts hown hK hP fd_RX9_24 (q_ltW0 ho) (q_kdW_0 ho) rfl (q_rhW_0_4 ho) dX9_inCut_18 ?_
        refine q_getR hx hb hts hown hK hP fd_RX9_184 (q_ltW ho rfl) (q_kdW_4 ho) rfl (q_rhW_4_7 ho) dX9_inCut_21 ?_
        refine lv_iload_n hx hb dX9_inCut_24 rfl (lv_at hl 1 rfl) ?_
        refine q_iald hx hb hK hP (q_ltW ho rfl) (q_kdW_11 ho) ra0 dX9_inCut_25 h ?_
        clear h; intro x6 r6 h
        refine lv_aload_n hx hb dX9_inCut_26 rfl (lv_at hl 0 rfl) ?_
        refine q_getR hx hb hts hown hK hP fd_RX9_18 (q_ltW0 ho) (q_kdW_0 ho) rfl (q_rhW_0_3 ho) dX9_inCut_27 ?_
        refine lv_aload_n hx hb dX9_inCut_30 rfl (lv_at hl 0 rfl) ?_
        refine q_getR hx hb hts hown hK hP fd_RX9_24 (q_ltW0 ho) (q_kdW_0 ho) rfl (q_rhW_0_4 ho) dX9_inCut_31 ?_
        refine q_getR hx hb hts hown hK hP fd_RX9_167 (q_ltW ho rfl) (q_kdW_4 ho) rfl (q_rhW_4_1 ho) dX9_inCut_34 ?_
        refine lv_iload_n hx hb dX9_inCut_37 rfl (lv_at hl 1 rfl) ?_
        refine q_iald hx hb hK hP (q_ltW ho rfl) (q_kdW_5 ho) ra0 dX9_inCut_38 h ?_
        clear h; intro x7 r7 h
        refine q_iald hx hb hK hP (q_ltW ho rfl) (q_kdW_3 ho) r7 dX9_inCut_39 h ?_
        clear h; intro x8 r8 h
        refine q_cge hx hb r6 r8 (tgt := 47) dX9_inCut_40 (by decide) h ?_ ?_
        · clear h; intro g9 h
          exact hj47  _ _ _ hP hS (lv_sub hl [] rfl) h
        · clear h; intro g9 h
          refine lv_iconst (v := q_I 1) hx hb dX9_inCut_43 rfl ?_
          refine lv_goto (tgt := 48) hx hb dX9_inCut_44 (by decide) ?_
          exact hj48 1 _ _ _ (q_r 1 rfl) hP hS (lv_sub hl [] rfl) h
set_option maxHeartbeats 4000000 in
set_option maxRecDepth 100000 in
theorem c_Wo_isOrphan (l : Launch) (D : va_G) (dA : Nat → ClassId) {z sz : Nat} {o : Nat} (ho : o = 1 ∨ o = 24) {a0 : Int} (ra0 : q_R a0) {μ : q_M} {xo : Int} (h : f_Wo_isOrphan o a0 μ = some xo) : Met l yX9_isOrphan (q_wc yX9_isOrphan cX9_isOrphan 3 (some .boolean)) ({ frames := 2, cells := 0, slots := 0, locals := 43 } : Room) (va_Pc [.ref (z + o), .int (q_I a0)] (q_B (q_P D dA q_kdC q_rhoC 77 z sz μ) D dA)) (q_Q (some (.int (q_I xo))) (q_R xo) (q_P D dA q_kdC q_rhoC 77 z sz μ) (q_A z 77)) 0 0 (q_A z 77) := by
  refine Met.ofW (cc := cX9_isOrphan) (maxL := 3) (ret := (some .boolean)) (by decide) rfl ?_
  intro p e s m args below meth c s₁ B hml hv
  obtain ⟨hargs, hP, hK⟩ := hv
  have hx := B.exec
  have hb := B.bytes
  have hr := B.returns
  have hts : ∀ w ∈ q_W, w.before args s = true := fun w hw => atoms_spec (ws := q_wc yX9_isOrphan cX9_isOrphan 3 (some .boolean)) B.pre w (List.mem_cons_of_mem _ hw)
  have hown : s.vm.findClass RX9 = some m.cls := findClass_of_methodNamed B.named
  have hlocks := B.notSynchronized
  have hS : va_S (q_A z 77) s.heap s.heap [] := va_S.rf
  have hA : ∀ k, k < 77 → q_A z 77 (z + k) := fun k hk => ⟨Nat.le_add_right z k, Nat.add_lt_add_left hk z⟩
  have hl := lv_entry [.ref (z + o), .int (q_I a0)] (n := 3) (Nat.le_of_ble_eq_true rfl)
  refine W.eq (by rw [hargs, lg_entry_eq]) ?_
  generalize (lg_sl [.ref (z + o), .int (q_I a0)] ++ List.replicate (3 - (lg_sl [.ref (z + o), .int (q_I a0)]).length) Slot.unset).toArray = ls at hl ⊢
  have hl : lv_has ls 3 [(0, .ref (z + o)), (1, .int (q_I a0))] := hl
  generalize hQ : MQ below _ args s 0 0 _ = Qf
  change W p l e ({ frames := 2, cells := 0, slots := 0, locals := 43 } : Room) s m args below meth c s.heap [] 0 0 Qf (F0 m 0 ls [])
  unfold f_Wo_isOrphan at h
  refine lv_aload_n hx hb dX9_isOrphan_0 rfl (lv_at hl 0 rfl) ?_
  refine q_getR hx hb hts hown hK hP fd_RX9_31 (q_ltW0 ho) (q_kdW_0 ho) rfl (q_rhW_0_5 ho) dX9_isOrphan_1 ?_
  refine q_getR hx hb hts hown hK hP fd_RX9_133 (q_ltW ho rfl) (q_kdW_14 ho) rfl (q_rhW_14_4 ho) dX9_isOrphan_4 ?_
  refine lv_iload_n hx hb dX9_isOrphan_7 rfl (lv_at hl 1 rfl) ?_
  refine q_iald hx hb hK hP (q_ltW ho rfl) (q_kdW_18 ho) ra0 dX9_isOrphan_8 h ?_
  clear h; intro x1 r1 h
  refine lv_istore_n (lv' := [(2, .int (q_I x1)), (0, .ref (z + o)), (1, .int (q_I a0))]) hx hb dX9_isOrphan_9 rfl hl (by decide) rfl ?_
  clear hl; intro ls hl
  refine lv_iload_n hx hb dX9_isOrphan_10 rfl (lv_at hl 0 rfl) ?_
  refine lv_iconst (v := q_I (-1)) hx hb dX9_isOrphan_11 rfl ?_
  refine q_jn_in h (fun J => ∀ (x2 : Int) (H : Heap) (locs : List Loc) (ls : Array Slot), q_R x2 → q_P D dA q_kdC q_rhoC 77 z sz μ H → va_S (q_A z 77) s.heap H locs → lv_has ls 3 [] → J x2 = some xo → W p l e ({ frames := 2, cells := 0, slots := 0, locals := 43 } : Room) s m args below meth c H locs 0 0 Qf (F0 m 44 ls [.int (q_I x2)])) ?_ ?_
  · clear h hl hP hS; intro x2 H locs ls r2 hP hS hl h
    rw [← hQ]
    obtain ⟨hz, h⟩ := q_rz_some h
    exact q_retz1 hx hb hr hlocks hP hS hz h dX9_isOrphan_44
  · clear h; intro j44 hj44 h
    refine q_jn_in h (fun J => ∀ (H : Heap) (locs : List Loc) (ls : Array Slot), q_P D dA q_kdC q_rhoC 77 z sz μ H → va_S (q_A z 77) s.heap H locs → lv_has ls 3 [] → J = some xo → W p l e ({ frames := 2, cells := 0, slots := 0, locals := 43 } : Room) s m args below meth c H locs 0 0 Qf (F0 m 43 ls [])) ?_ ?_
    · clear h hl hP hS; intro  H locs ls  hP hS hl h
      refine lv_iconst (v := q_I 0) hx hb dX9_isOrphan_43 rfl ?_
      exact hj44 0 _ _ _ (q_r 0 rfl) hP hS (lv_sub hl [] rfl) h
    · clear h; intro j43 hj43 h
      refine q_ceq hx hb r1 (q_r (-1) rfl) (tgt := 43) dX9_isOrphan_12 (by decide) h ?_ ?_
      · clear h; intro g10 h
        exact hj43  _ _ _ hP hS (lv_sub hl [] rfl) h
      · clear h; intro g10 h
        refine lv_aload_n hx hb dX9_isOrphan_15 rfl (lv_at hl 1 rfl) ?_
        refine lv_iload_n hx hb dX9_isOrphan_16 rfl (lv_at hl 0 rfl) ?_
        obtain ⟨x4, hv3, h⟩ := q_b_some h
        refine q_callV hx hb hml hts hown hK hP hS (As := [.int (q_I x1)]) (rest := []) (st1 := [.int (q_I x4)]) cv_RX9_187 (c_Wo_inCut l D dA ho r1 hv3) (q_ltW0 ho) (q_kdW_0 ho) rfl ⟨rfl, rfl, Nat.le_of_ble_eq_true rfl, Nat.le_of_ble_eq_true rfl⟩ ⟨Nat.le_refl _, Nat.le_refl _⟩ rfl hl.1 rfl (Nat.le_of_ble_eq_true rfl) rfl (fun _ g => g) dX9_isOrphan_17 ?_
        clear hP hS hv3; intro H locs r4 hP hS _
        refine q_zne hx hb r4 (tgt := 43) dX9_isOrphan_20 (by decide) h ?_ ?_
        · clear h; intro g9 h
          refine lv_aload_n hx hb dX9_isOrphan_23 rfl (lv_at hl 1 rfl) ?_
          refine lv_aload_n hx hb dX9_isOrphan_24 rfl (lv_at hl 1 rfl) ?_
          refine q_getR hx hb hts hown hK hP fd_RX9_31 (q_ltW0 ho) (q_kdW_0 ho) rfl (q_rhW_0_5 ho) dX9_isOrphan_25 ?_
          refine q_getR hx hb hts hown hK hP fd_RX9_139 (q_ltW ho rfl) (q_kdW_14 ho) rfl (q_rhW_14_5 ho) dX9_isOrphan_28 ?_
          refine lv_iload_n hx hb dX9_isOrphan_31 rfl (lv_at hl 2 rfl) ?_
          refine q_iald hx hb hK hP (q_ltW ho rfl) (q_kdW_19 ho) ra0 dX9_isOrphan_32 h ?_
          clear h; intro x5 r5 h
          obtain ⟨x7, hv6, h⟩ := q_b_some h
          refine q_callV hx hb hml hts hown hK hP hS (As := [.int (q_I x5)]) (rest := []) (st1 := [.int (q_I x7)]) cv_RX9_187 (c_Wo_inCut l D dA ho r5 hv6) (q_ltW0 ho) (q_kdW_0 ho) rfl ⟨rfl, rfl, Nat.le_of_ble_eq_true rfl, Nat.le_of_ble_eq_true rfl⟩ ⟨Nat.le_refl _, Nat.le_refl _⟩ rfl hl.1 rfl (Nat.le_of_ble_eq_true rfl) rfl (fun _ g => g) dX9_isOrphan_33 ?_
          clear hP hS hv6; intro H locs r7 hP hS _
          refine q_zeq hx hb r7 (tgt := 43) dX9_isOrphan_36 (by decide) h ?_ ?_
          · clear h; intro g8 h
            exact hj43  _ _ _ hP hS (lv_sub hl [] rfl) h
          · clear h; intro g8 h
            refine lv_iconst (v := q_I 1) hx hb dX9_isOrphan_39 rfl ?_
            refine lv_goto (tgt := 44) hx hb dX9_isOrphan_40 (by decide) ?_
            exact hj44 1 _ _ _ (q_r 1 rfl) hP hS (lv_sub hl [] rfl) h
        · clear h; intro g9 h
          exact hj43  _ _ _ hP hS (lv_sub hl [] rfl) h
set_option maxHeartbeats 4000000 in
set_option maxRecDepth 100000 in
theorem c_Wo_countOrphans (l : Launch) (D : va_G) (dA : Nat → ClassId) {z sz : Nat} {N : Nat} {o : Nat} (ho : o = 1 ∨ o = 24) {μ : q_M} {xo : Int} (h : f_Wo_countOrphans N o μ = some xo) : Met l yX9_countOrphans (q_wc yX9_countOrphans cX9_countOrphans 3 (some .int)) ({ frames := 3, cells := 0, slots := 0, locals := 65 } : Room) (va_Pc [.ref (z + o)] (q_B (q_P D dA q_kdC q_rhoC 77 z sz μ) D dA)) (q_Q (some (.int (q_I xo))) (q_R xo) (q_P D dA q_kdC q_rhoC 77 z sz μ) (q_A z 77)) 0 0 (q_A z 77) := by
  refine Met.ofW (cc := cX9_countOrphans) (maxL := 3) (ret := (some .int)) (by decide) rfl ?_
  intro p e s m args below meth c s₁ B hml hv
  obtain ⟨hargs, hP, hK⟩ := hv
  have hx := B.exec
  have hb := B.bytes
  have hr := B.returns
  have hts : ∀ w ∈ q_W, w.before args s = true := fun w hw => atoms_spec (ws := q_wc yX9_countOrphans cX9_countOrphans 3 (some .int)) B.pre w (List.mem_cons_of_mem _ hw)
  have hown : s.vm.findClass RX9 = some m.cls := findClass_of_methodNamed B.named
  have hlocks := B.notSynchronized
  have hS : va_S (q_A z 77) s.heap s.heap [] := va_S.rf
  have hA : ∀ k, k < 77 → q_A z 77 (z + k) := fun k hk => ⟨Nat.le_add_right z k, Nat.add_lt_add_left hk z⟩
  have hl := lv_entry [.ref (z + o)] (n := 3) (Nat.le_of_ble_eq_true rfl)
  refine W.eq (by rw [hargs, lg_entry_eq]) ?_
  generalize (lg_sl [.ref (z + o)] ++ List.replicate (3 - (lg_sl [.ref (z + o)]).length) Slot.unset).toArray = ls at hl ⊢
  have hl : lv_has ls 3 [(0, .ref (z + o))] := hl
  generalize hQ : MQ below _ args s 0 0 _ = Qf
  change W p l e ({ frames := 3, cells := 0, slots := 0, locals := 65 } : Room) s m args below meth c s.heap [] 0 0 Qf (F0 m 0 ls [])
  unfold f_Wo_countOrphans at h
  refine lv_iconst (v := q_I 0) hx hb dX9_countOrphans_0 rfl ?_
  refine lv_istore_n (lv' := [(1, .int (q_I 0)), (0, .ref (z + o))]) hx hb dX9_countOrphans_1 rfl hl (by decide) rfl ?_
  clear hl; intro ls hl
  refine lv_iconst (v := q_I 0) hx hb dX9_countOrphans_2 rfl ?_
  refine lv_istore_n (lv' := [(2, .int (q_I 0)), (1, .int (q_I 0)), (0, .ref (z + o))]) hx hb dX9_countOrphans_3 rfl hl (by decide) rfl ?_
  clear hl; intro ls hl
  have L4 : ∀ (k32 : Int → Option Int), (∀ (x3 : Int) (H : Heap) (locs : List Loc) (ls : Array Slot), q_R x3 → q_P D dA q_kdC q_rhoC 77 z sz μ H → va_S (q_A z 77) s.heap H locs → lv_has ls 3 [(1, .int (q_I x3))] → k32 x3 = some xo → W p l e ({ frames := 3, cells := 0, slots := 0, locals := 65 } : Room) s m args below meth c H locs 0 0 Qf (F0 m 32 ls [])) → ∀ (nf4 : Nat) (x1 : Int) (x2 : Int) (H : Heap) (locs : List Loc) (ls : Array Slot), q_R x1 → q_R x2 → q_P D dA q_kdC q_rhoC 77 z sz μ H → va_S (q_A z 77) s.heap H locs → lv_has ls 3 [(0, .ref (z + o)), (1, .int (q_I x1)), (2, .int (q_I x2))] → f_Wo_countOrphans_L4 o μ k32 nf4 x1 x2 = some xo → W p l e ({ frames := 3, cells := 0, slots := 0, locals := 65 } : Room) s m args below meth c H locs 0 0 Qf (F0 m 4 ls []) := by
    clear h hl hP hS
    intro k32 hk32 nf4
    induction nf4 with
    | zero =>
      intro x1 x2 H locs ls r1 r2 hP hS hl h
      rw [f_Wo_countOrphans_L4] at h
      cases h
    | succ nf4 ih4 =>
      intro x1 x2 H locs ls r1 r2 hP hS hl h
      rw [f_Wo_countOrphans_L4] at h
      refine lv_iload_n hx hb dX9_countOrphans_4 rfl (lv_at hl 2 rfl) ?_
      refine lv_aload_n hx hb dX9_countOrphans_5 rfl (lv_at hl 0 rfl) ?_
      refine q_getR hx hb hts hown hK hP fd_RX9_31 (q_ltW0 ho) (q_kdW_0 ho) rfl (q_rhW_0_5 ho) dX9_countOrphans_6 ?_
      refine q_getI hx hb hts hown hK hP fd_RX9_77 (q_ltW ho rfl) (q_kdW_14 ho) rfl dX9_countOrphans_9 h ?_
      clear h; intro x4 r4 h
      refine q_cge hx hb r2 r4 (tgt := 32) dX9_countOrphans_12 (by decide) h ?_ ?_
      · clear h; intro g11 h
        exact hk32 x1 _ _ _ r1 hP hS (lv_sub hl [1] rfl) h
      · clear h; intro g11 h
        refine lv_aload_n hx hb dX9_countOrphans_15 rfl (lv_at hl 0 rfl) ?_
        refine lv_iload_n hx hb dX9_countOrphans_16 rfl (lv_at hl 2 rfl) ?_
        obtain ⟨x6, hv5, h⟩ := q_b_some h
        refine q_callV hx hb hml hts hown hK hP hS (As := [.int (q_I x2)]) (rest := []) (st1 := [.int (q_I x6)]) cv_RX9_190 (c_Wo_isOrphan l D dA ho r2 hv5) (q_ltW0 ho) (q_kdW_0 ho) rfl ⟨rfl, rfl, Nat.le_of_ble_eq_true rfl, Nat.le_of_ble_eq_true rfl⟩ ⟨Nat.le_refl _, Nat.le_refl _⟩ rfl hl.1 rfl (Nat.le_of_ble_eq_true rfl) rfl (fun _ g => g) dX9_countOrphans_17 ?_
        clear hP hS hv5; intro H locs r6 hP hS _
        refine q_jn_in h (fun J => ∀ (x7 : Int) (H : Heap) (locs : List Loc) (ls : Array Slot), q_R x7 → q_P D dA q_kdC q_rhoC 77 z sz μ H → va_S (q_A z 77) s.heap H locs → lv_has ls 3 [(0, .ref (z + o)), (1, .int (q_I x7)), (2, .int (q_I x2))] → J x7 = some xo → W p l e ({ frames := 3, cells := 0, slots := 0, locals := 65 } : Room) s m args below meth c H locs 0 0 Qf (F0 m 26 ls [])) ?_ ?_
        · clear h hl hP hS; intro x7 H locs ls r7 hP hS hl h
          refine q_iinc (k := 2) (lv' := fun t => [(2, .int (q_I t)), (0, .ref (z + o)), (1, .int (q_I x7))]) hx hb dX9_countOrphans_26 hl rfl (by decide) (fun _ => rfl) h ?_
          clear h hl; intro x8 ls r8 hl h
          refine lv_goto (tgt := 4) hx hb dX9_countOrphans_29 (by decide) ?_
          exact ih4 x7 x8 _ _ _ r7 r8 hP hS (lv_sub hl [1, 2, 0] rfl) h
        · clear h; intro j26 hj26 h
          refine q_zeq hx hb r6 (tgt := 26) dX9_countOrphans_20 (by decide) h ?_ ?_
          · clear h; intro g10 h
            exact hj26 x1 _ _ _ r1 hP hS (lv_sub hl [0, 1, 2] rfl) h
          · clear h; intro g10 h
            refine q_iinc (k := 1) (lv' := fun t => [(1, .int (q_I t)), (0, .ref (z + o)), (2, .int (q_I x2))]) hx hb dX9_countOrphans_23 hl rfl (by decide) (fun _ => rfl) h ?_
            clear h hl; intro x9 ls r9 hl h
            exact hj26 x9 _ _ _ r9 hP hS (lv_sub hl [1, 0, 2] rfl) h
  refine L4 _ ?_  _ 0 0 _ _ _ (q_r 0 rfl) (q_r 0 rfl) hP hS (lv_sub hl [2, 1, 0] rfl) h
  · clear h hl hP hS; intro x3 H locs ls r3 hP hS hl h
    refine lv_iload_n hx hb dX9_countOrphans_32 rfl (lv_at hl 0 rfl) ?_
    rw [← hQ]
    exact q_ret1 hx hb hr hlocks hP hS r3 h dX9_countOrphans_33
set_option maxHeartbeats 4000000 in
set_option maxRecDepth 100000 in
theorem c_CR_orphans (l : Launch) (D : va_G) (dA : Nat → ClassId) {z sz : Nat} {N : Nat} {μ : q_M} {xo : Int} (h : f_CR_orphans N μ = some xo) : Met l yX10_orphans (q_wc yX10_orphans cX10_orphans 1 (some .int)) ({ frames := 4, cells := 0, slots := 0, locals := 87 } : Room) (va_Pc [.ref (z + 0)] (q_B (q_P D dA q_kdC q_rhoC 77 z sz μ) D dA)) (q_Q (some (.int (q_I xo))) (q_R xo) (q_P D dA q_kdC q_rhoC 77 z sz μ) (q_A z 77)) 0 0 (q_A z 77) := by
  refine Met.ofW (cc := cX10_orphans) (maxL := 1) (ret := (some .int)) (by decide) rfl ?_
  intro p e s m args below meth c s₁ B hml hv
  obtain ⟨hargs, hP, hK⟩ := hv
  have hx := B.exec
  have hb := B.bytes
  have hr := B.returns
  have hts : ∀ w ∈ q_W, w.before args s = true := fun w hw => atoms_spec (ws := q_wc yX10_orphans cX10_orphans 1 (some .int)) B.pre w (List.mem_cons_of_mem _ hw)
  have hown : s.vm.findClass RX10 = some m.cls := findClass_of_methodNamed B.named
  have hlocks := B.notSynchronized
  have hS : va_S (q_A z 77) s.heap s.heap [] := va_S.rf
  have hA : ∀ k, k < 77 → q_A z 77 (z + k) := fun k hk => ⟨Nat.le_add_right z k, Nat.add_lt_add_left hk z⟩
  have hl := lv_entry [.ref (z + 0)] (n := 1) (Nat.le_of_ble_eq_true rfl)
  refine W.eq (by rw [hargs, lg_entry_eq]) ?_
  generalize (lg_sl [.ref (z + 0)] ++ List.replicate (1 - (lg_sl [.ref (z + 0)]).length) Slot.unset).toArray = ls at hl ⊢
  have hl : lv_has ls 1 [(0, .ref (z + 0))] := hl
  generalize hQ : MQ below _ args s 0 0 _ = Qf
  change W p l e ({ frames := 4, cells := 0, slots := 0, locals := 87 } : Room) s m args below meth c s.heap [] 0 0 Qf (F0 m 0 ls [])
  unfold f_CR_orphans at h
  refine lv_aload_n hx hb dX10_orphans_0 rfl (lv_at hl 0 rfl) ?_
  refine q_getR hx hb hts hown hK hP fd_RX10_10 (Nat.le_of_ble_eq_true rfl) q_kdC_0 rfl q_rhC_0_0 dX10_orphans_1 ?_
  obtain ⟨x2, hv1, h⟩ := q_b_some h
  refine q_callV hx hb hml hts hown hK hP hS (As := []) (rest := []) (st1 := [.int (q_I x2)]) cv_RX10_180 (c_Wo_countOrphans l D dA (Or.inl rfl) hv1) (Nat.le_of_ble_eq_true rfl) q_kdC_1 rfl ⟨rfl, rfl, Nat.le_of_ble_eq_true rfl, Nat.le_of_ble_eq_true rfl⟩ ⟨Nat.le_refl _, Nat.le_refl _⟩ rfl hl.1 rfl (Nat.le_of_ble_eq_true rfl) rfl (fun _ g => g) dX10_orphans_4 ?_
  clear hP hS hv1; intro H locs r2 hP hS _
  rw [← hQ]
  exact q_ret1 hx hb hr hlocks hP hS r2 h dX10_orphans_7
set_option maxHeartbeats 4000000 in
set_option maxRecDepth 100000 in
theorem c_Wo_dropOrphanReceives (l : Launch) (D : va_G) (dA : Nat → ClassId) {z sz : Nat} {N : Nat} {o : Nat} (ho : o = 1 ∨ o = 24) {μ : q_M} {μo : q_M} (h : f_Wo_dropOrphanReceives N o μ = some μo) : Met l yX9_dropOrphanReceives (q_wc yX9_dropOrphanReceives cX9_dropOrphanReceives 3 none) ({ frames := 3, cells := 0, slots := 0, locals := 65 } : Room) (va_Pc [.ref (z + o)] (q_B (q_P D dA q_kdC q_rhoC 77 z sz μ) D dA)) (q_Q none True (q_P D dA q_kdC q_rhoC 77 z sz μo) (q_A z 77)) 0 0 (q_A z 77) := by
  refine Met.ofW (cc := cX9_dropOrphanReceives) (maxL := 3) (ret := none) (by decide) rfl ?_
  intro p e s m args below meth c s₁ B hml hv
  obtain ⟨hargs, hP, hK⟩ := hv
  have hx := B.exec
  have hb := B.bytes
  have hr := B.returns
  have hts : ∀ w ∈ q_W, w.before args s = true := fun w hw => atoms_spec (ws := q_wc yX9_dropOrphanReceives cX9_dropOrphanReceives 3 none) B.pre w (List.mem_cons_of_mem _ hw)
  have hown : s.vm.findClass RX9 = some m.cls := findClass_of_methodNamed B.named
  have hlocks := B.notSynchronized
  have hS : va_S (q_A z 77) s.heap s.heap [] := va_S.rf
  have hA : ∀ k, k < 77 → q_A z 77 (z + k) := fun k hk => ⟨Nat.le_add_right z k, Nat.add_lt_add_left hk z⟩
  have hl := lv_entry [.ref (z + o)] (n := 3) (Nat.le_of_ble_eq_true rfl)
  refine W.eq (by rw [hargs, lg_entry_eq]) ?_
  generalize (lg_sl [.ref (z + o)] ++ List.replicate (3 - (lg_sl [.ref (z + o)]).length) Slot.unset).toArray = ls at hl ⊢
  have hl : lv_has ls 3 [(0, .ref (z + o))] := hl
  generalize hQ : MQ below _ args s 0 0 _ = Qf
  change W p l e ({ frames := 3, cells := 0, slots := 0, locals := 65 } : Room) s m args below meth c s.heap [] 0 0 Qf (F0 m 0 ls [])
  unfold f_Wo_dropOrphanReceives at h
  refine lv_iconst (v := q_I 0) hx hb dX9_dropOrphanReceives_0 rfl ?_
  refine lv_istore_n (lv' := [(1, .int (q_I 0)), (0, .ref (z + o))]) hx hb dX9_dropOrphanReceives_1 rfl hl (by decide) rfl ?_
  clear hl; intro ls hl
  have L2 : ∀ (k60 : q_M → Option q_M), (∀ (μ3 : q_M) (H : Heap) (locs : List Loc) (ls : Array Slot), q_P D dA q_kdC q_rhoC 77 z sz μ3 H → va_S (q_A z 77) s.heap H locs → lv_has ls 3 [] → k60 μ3 = some μo → W p l e ({ frames := 3, cells := 0, slots := 0, locals := 65 } : Room) s m args below meth c H locs 0 0 Qf (F0 m 60 ls [])) → ∀ (nf2 : Nat) (x1 : Int) (μ2 : q_M) (H : Heap) (locs : List Loc) (ls : Array Slot), q_R x1 → q_P D dA q_kdC q_rhoC 77 z sz μ2 H → va_S (q_A z 77) s.heap H locs → lv_has ls 3 [(0, .ref (z + o)), (1, .int (q_I x1))] → f_Wo_dropOrphanReceives_L2 o k60 nf2 x1 μ2 = some μo → W p l e ({ frames := 3, cells := 0, slots := 0, locals := 65 } : Room) s m args below meth c H locs 0 0 Qf (F0 m 2 ls []) := by
    clear h hl hP hS
    intro k60 hk60 nf2
    induction nf2 with
    | zero =>
      intro x1 μ2 H locs ls r1 hP hS hl h
      rw [f_Wo_dropOrphanReceives_L2] at h
      cases h
    | succ nf2 ih2 =>
      intro x1 μ2 H locs ls r1 hP hS hl h
      rw [f_Wo_dropOrphanReceives_L2] at h
      refine lv_iload_n hx hb dX9_dropOrphanReceives_2 rfl (lv_at hl 1 rfl) ?_
      refine lv_aload_n hx hb dX9_dropOrphanReceives_3 rfl (lv_at hl 0 rfl) ?_
      refine q_getR hx hb hts hown hK hP fd_RX9_31 (q_ltW0 ho) (q_kdW_0 ho) rfl (q_rhW_0_5 ho) dX9_dropOrphanReceives_4 ?_
      refine q_getI hx hb hts hown hK hP fd_RX9_77 (q_ltW ho rfl) (q_kdW_14 ho) rfl dX9_dropOrphanReceives_7 h ?_
      clear h; intro x4 r4 h
      refine q_cge hx hb r1 r4 (tgt := 60) dX9_dropOrphanReceives_10 (by decide) h ?_ ?_
      · clear h; intro g14 h
        exact hk60 μ2 _ _ _ hP hS (lv_sub hl [] rfl) h
      · clear h; intro g14 h
        refine lv_aload_n hx hb dX9_dropOrphanReceives_13 rfl (lv_at hl 0 rfl) ?_
        refine lv_iload_n hx hb dX9_dropOrphanReceives_14 rfl (lv_at hl 1 rfl) ?_
        obtain ⟨x6, hv5, h⟩ := q_b_some h
        refine q_callV hx hb hml hts hown hK hP hS (As := [.int (q_I x1)]) (rest := []) (st1 := [.int (q_I x6)]) cv_RX9_190 (c_Wo_isOrphan l D dA ho r1 hv5) (q_ltW0 ho) (q_kdW_0 ho) rfl ⟨rfl, rfl, Nat.le_of_ble_eq_true rfl, Nat.le_of_ble_eq_true rfl⟩ ⟨Nat.le_refl _, Nat.le_refl _⟩ rfl hl.1 rfl (Nat.le_of_ble_eq_true rfl) rfl (fun _ g => g) dX9_dropOrphanReceives_15 ?_
        clear hP hS hv5; intro H locs r6 hP hS _
        refine q_jn_in h (fun J => ∀ (μ7 : q_M) (H : Heap) (locs : List Loc) (ls : Array Slot), q_P D dA q_kdC q_rhoC 77 z sz μ7 H → va_S (q_A z 77) s.heap H locs → lv_has ls 3 [(0, .ref (z + o)), (1, .int (q_I x1))] → J μ7 = some μo → W p l e ({ frames := 3, cells := 0, slots := 0, locals := 65 } : Room) s m args below meth c H locs 0 0 Qf (F0 m 54 ls [])) ?_ ?_
        · clear h hl hP hS; intro μ7 H locs ls  hP hS hl h
          refine q_iinc (k := 1) (lv' := fun t => [(1, .int (q_I t)), (0, .ref (z + o))]) hx hb dX9_dropOrphanReceives_54 hl rfl (by decide) (fun _ => rfl) h ?_
          clear h hl; intro x8 ls r8 hl h
          refine lv_goto (tgt := 2) hx hb dX9_dropOrphanReceives_57 (by decide) ?_
          exact ih2 x8 μ7 _ _ _ r8 hP hS (lv_sub hl [1, 0] rfl) h
        · clear h; intro j54 hj54 h
          refine q_zeq hx hb r6 (tgt := 54) dX9_dropOrphanReceives_18 (by decide) h ?_ ?_
          · clear h; intro g13 h
            exact hj54 μ2 _ _ _ hP hS (lv_sub hl [0, 1] rfl) h
          · clear h; intro g13 h
            refine lv_aload_n hx hb dX9_dropOrphanReceives_21 rfl (lv_at hl 0 rfl) ?_
            refine q_getR hx hb hts hown hK hP fd_RX9_31 (q_ltW0 ho) (q_kdW_0 ho) rfl (q_rhW_0_5 ho) dX9_dropOrphanReceives_22 ?_
            refine q_getR hx hb hts hown hK hP fd_RX9_139 (q_ltW ho rfl) (q_kdW_14 ho) rfl (q_rhW_14_5 ho) dX9_dropOrphanReceives_25 ?_
            refine lv_iload_n hx hb dX9_dropOrphanReceives_28 rfl (lv_at hl 1 rfl) ?_
            refine q_iald hx hb hK hP (q_ltW ho rfl) (q_kdW_19 ho) r1 dX9_dropOrphanReceives_29 h ?_
            clear h; intro x9 r9 h
            refine lv_istore_n (lv' := [(2, .int (q_I x9)), (0, .ref (z + o)), (1, .int (q_I x1))]) hx hb dX9_dropOrphanReceives_30 rfl hl (by decide) rfl ?_
            clear hl; intro ls hl
            refine lv_aload_n hx hb dX9_dropOrphanReceives_31 rfl (lv_at hl 1 rfl) ?_
            refine q_getR hx hb hts hown hK hP fd_RX9_18 (q_ltW0 ho) (q_kdW_0 ho) rfl (q_rhW_0_3 ho) dX9_dropOrphanReceives_32 ?_
            refine lv_aload_n hx hb dX9_dropOrphanReceives_35 rfl (lv_at hl 1 rfl) ?_
            refine q_getR hx hb hts hown hK hP fd_RX9_24 (q_ltW0 ho) (q_kdW_0 ho) rfl (q_rhW_0_4 ho) dX9_dropOrphanReceives_36 ?_
            refine q_getR hx hb hts hown hK hP fd_RX9_167 (q_ltW ho rfl) (q_kdW_4 ho) rfl (q_rhW_4_1 ho) dX9_dropOrphanReceives_39 ?_
            refine lv_iload_n hx hb dX9_dropOrphanReceives_42 rfl (lv_at hl 0 rfl) ?_
            refine q_iald hx hb hK hP (q_ltW ho rfl) (q_kdW_5 ho) r9 dX9_dropOrphanReceives_43 h ?_
            clear h; intro x10 r10 h
            refine lv_aload_n hx hb dX9_dropOrphanReceives_44 rfl (lv_at hl 1 rfl) ?_
            refine q_getR hx hb hts hown hK hP fd_RX9_24 (q_ltW0 ho) (q_kdW_0 ho) rfl (q_rhW_0_4 ho) dX9_dropOrphanReceives_45 ?_
            refine q_getR hx hb hts hown hK hP fd_RX9_184 (q_ltW ho rfl) (q_kdW_4 ho) rfl (q_rhW_4_7 ho) dX9_dropOrphanReceives_48 ?_
            refine lv_iload_n hx hb dX9_dropOrphanReceives_51 rfl (lv_at hl 0 rfl) ?_
            refine q_iald hx hb hK hP (q_ltW ho rfl) (q_kdW_11 ho) r9 dX9_dropOrphanReceives_52 h ?_
            clear h; intro x11 r11 h
            refine q_iast hx hb hK hP hS hA (q_ltW ho rfl) (q_kdW_3 ho) r10 r11 dX9_dropOrphanReceives_53 h ?_
            clear h hP hS; intro μ12 H locs hP hS h
            exact hj54 μ12 _ _ _ hP hS (lv_sub hl [1, 2] rfl) h
  refine L2 _ ?_  _ 0 μ _ _ _ (q_r 0 rfl) hP hS (lv_sub hl [1, 0] rfl) h
  · clear h hl hP hS; intro μ3 H locs ls  hP hS hl h
    rw [← hQ]
    exact q_retv hx hb hr hlocks hP hS h dX9_dropOrphanReceives_60
set_option maxHeartbeats 4000000 in
set_option maxRecDepth 100000 in
theorem c_CR_lowerCut (l : Launch) (D : va_G) (dA : Nat → ClassId) {z sz : Nat} {N : Nat} {μ : q_M} {xo : Int} {μo : q_M} (h : f_CR_lowerCut N μ = some (xo, μo)) : Met l yX10_lowerCut (q_wc yX10_lowerCut cX10_lowerCut 3 (some .int)) ({ frames := 4, cells := 0, slots := 0, locals := 87 } : Room) (va_Pc [.ref (z + 0)] (q_B (q_P D dA q_kdC q_rhoC 77 z sz μ) D dA)) (q_Q (some (.int (q_I xo))) (q_R xo) (q_P D dA q_kdC q_rhoC 77 z sz μo) (q_A z 77)) 0 0 (q_A z 77) := by
  refine Met.ofW (cc := cX10_lowerCut) (maxL := 3) (ret := (some .int)) (by decide) rfl ?_
  intro p e s m args below meth c s₁ B hml hv
  obtain ⟨hargs, hP, hK⟩ := hv
  have hx := B.exec
  have hb := B.bytes
  have hr := B.returns
  have hts : ∀ w ∈ q_W, w.before args s = true := fun w hw => atoms_spec (ws := q_wc yX10_lowerCut cX10_lowerCut 3 (some .int)) B.pre w (List.mem_cons_of_mem _ hw)
  have hown : s.vm.findClass RX10 = some m.cls := findClass_of_methodNamed B.named
  have hlocks := B.notSynchronized
  have hS : va_S (q_A z 77) s.heap s.heap [] := va_S.rf
  have hA : ∀ k, k < 77 → q_A z 77 (z + k) := fun k hk => ⟨Nat.le_add_right z k, Nat.add_lt_add_left hk z⟩
  have hl := lv_entry [.ref (z + 0)] (n := 3) (Nat.le_of_ble_eq_true rfl)
  refine W.eq (by rw [hargs, lg_entry_eq]) ?_
  generalize (lg_sl [.ref (z + 0)] ++ List.replicate (3 - (lg_sl [.ref (z + 0)]).length) Slot.unset).toArray = ls at hl ⊢
  have hl : lv_has ls 3 [(0, .ref (z + 0))] := hl
  generalize hQ : MQ below _ args s 0 0 _ = Qf
  change W p l e ({ frames := 4, cells := 0, slots := 0, locals := 87 } : Room) s m args below meth c s.heap [] 0 0 Qf (F0 m 0 ls [])
  unfold f_CR_lowerCut at h
  refine lv_aload_n hx hb dX10_lowerCut_0 rfl (lv_at hl 0 rfl) ?_
  refine q_getR hx hb hts hown hK hP fd_RX10_10 (Nat.le_of_ble_eq_true rfl) q_kdC_0 rfl q_rhC_0_0 dX10_lowerCut_1 ?_
  obtain ⟨x2, hv1, h⟩ := q_b_some h
  refine q_callV hx hb hml hts hown hK hP hS (As := []) (rest := []) (st1 := [.int (q_I x2)]) cv_RX10_154 (c_Wo_eventsInCut l D dA (Or.inl rfl) hv1) (Nat.le_of_ble_eq_true rfl) q_kdC_1 rfl ⟨rfl, rfl, Nat.le_of_ble_eq_true rfl, Nat.le_of_ble_eq_true rfl⟩ ⟨Nat.le_refl _, Nat.le_refl _⟩ rfl hl.1 rfl (Nat.le_of_ble_eq_true rfl) rfl (fun _ g => g) dX10_lowerCut_4 ?_
  clear hP hS hv1; intro H locs r2 hP hS _
  refine lv_istore_n (lv' := [(1, .int (q_I x2)), (0, .ref (z + 0))]) hx hb dX10_lowerCut_7 rfl hl (by decide) rfl ?_
  clear hl; intro ls hl
  refine lv_iconst (v := q_I 0) hx hb dX10_lowerCut_8 rfl ?_
  refine lv_istore_n (lv' := [(2, .int (q_I 0)), (1, .int (q_I x2)), (0, .ref (z + 0))]) hx hb dX10_lowerCut_9 rfl hl (by decide) rfl ?_
  clear hl; intro ls hl
  have L10 : ∀ (k39 : q_M → Option (Int × q_M)), (∀ (μ5 : q_M) (H : Heap) (locs : List Loc) (ls : Array Slot), q_P D dA q_kdC q_rhoC 77 z sz μ5 H → va_S (q_A z 77) s.heap H locs → lv_has ls 3 [(0, .ref (z + 0)), (1, .int (q_I x2))] → k39 μ5 = some (xo, μo) → W p l e ({ frames := 4, cells := 0, slots := 0, locals := 87 } : Room) s m args below meth c H locs 0 0 Qf (F0 m 39 ls [])) → ∀ (nf10 : Nat) (x3 : Int) (μ4 : q_M) (H : Heap) (locs : List Loc) (ls : Array Slot), q_R x3 → q_P D dA q_kdC q_rhoC 77 z sz μ4 H → va_S (q_A z 77) s.heap H locs → lv_has ls 3 [(0, .ref (z + 0)), (1, .int (q_I x2)), (2, .int (q_I x3))] → f_CR_lowerCut_L10 N k39 nf10 x3 μ4 = some (xo, μo) → W p l e ({ frames := 4, cells := 0, slots := 0, locals := 87 } : Room) s m args below meth c H locs 0 0 Qf (F0 m 10 ls []) := by
    clear h hl hP hS
    intro k39 hk39 nf10
    induction nf10 with
    | zero =>
      intro x3 μ4 H locs ls r3 hP hS hl h
      rw [f_CR_lowerCut_L10] at h
      cases h
    | succ nf10 ih10 =>
      intro x3 μ4 H locs ls r3 hP hS hl h
      rw [f_CR_lowerCut_L10] at h
      refine lv_iload_n hx hb dX10_lowerCut_10 rfl (lv_at hl 2 rfl) ?_
      refine lv_bipush (v := q_I 100) hx hb dX10_lowerCut_11 (by decide) ?_
      refine q_cgt hx hb r3 (q_r 100 rfl) (tgt := 39) dX10_lowerCut_13 (by decide) h ?_ ?_
      · clear h; intro g12 h
        exact hk39 μ4 _ _ _ hP hS (lv_sub hl [0, 1] rfl) h
      · clear h; intro g12 h
        refine lv_aload_n hx hb dX10_lowerCut_16 rfl (lv_at hl 0 rfl) ?_
        refine q_getR hx hb hts hown hK hP fd_RX10_10 (Nat.le_of_ble_eq_true rfl) q_kdC_0 rfl q_rhC_0_0 dX10_lowerCut_17 ?_
        obtain ⟨x7, hv6, h⟩ := q_b_some h
        refine q_callV hx hb hml hts hown hK hP hS (As := []) (rest := []) (st1 := [.int (q_I x7)]) cv_RX10_180 (c_Wo_countOrphans l D dA (Or.inl rfl) hv6) (Nat.le_of_ble_eq_true rfl) q_kdC_1 rfl ⟨rfl, rfl, Nat.le_of_ble_eq_true rfl, Nat.le_of_ble_eq_true rfl⟩ ⟨Nat.le_refl _, Nat.le_refl _⟩ rfl hl.1 rfl (Nat.le_of_ble_eq_true rfl) rfl (fun _ g => g) dX10_lowerCut_20 ?_
        clear hP hS hv6; intro H locs r7 hP hS _
        refine q_zle hx hb r7 (tgt := 39) dX10_lowerCut_23 (by decide) h ?_ ?_
        · clear h; intro g11 h
          exact hk39 μ4 _ _ _ hP hS (lv_sub hl [0, 1] rfl) h
        · clear h; intro g11 h
          refine lv_aload_n hx hb dX10_lowerCut_26 rfl (lv_at hl 0 rfl) ?_
          refine q_getR hx hb hts hown hK hP fd_RX10_10 (Nat.le_of_ble_eq_true rfl) q_kdC_0 rfl q_rhC_0_0 dX10_lowerCut_27 ?_
          obtain ⟨μ9, hv8, h⟩ := q_b_some h
          refine q_callV hx hb hml hts hown hK hP hS (As := []) (rest := []) (st1 := []) cv_RX10_183 (c_Wo_dropOrphanReceives l D dA (Or.inl rfl) hv8) (Nat.le_of_ble_eq_true rfl) q_kdC_1 rfl ⟨rfl, rfl, Nat.le_of_ble_eq_true rfl, Nat.le_of_ble_eq_true rfl⟩ ⟨Nat.le_refl _, Nat.le_refl _⟩ rfl hl.1 rfl (Nat.le_of_ble_eq_true rfl) rfl (fun _ g => g) dX10_lowerCut_30 ?_
          clear hP hS hv8; intro H locs _ hP hS _
          refine q_iinc (k := 2) (lv' := fun t => [(2, .int (q_I t)), (0, .ref (z + 0)), (1, .int (q_I x2))]) hx hb dX10_lowerCut_33 hl rfl (by decide) (fun _ => rfl) h ?_
          clear h hl; intro x10 ls r10 hl h
          refine lv_goto (tgt := 10) hx hb dX10_lowerCut_36 (by decide) ?_
          exact ih10 x10 μ9 _ _ _ r10 hP hS (lv_sub hl [1, 2, 0] rfl) h
  refine L10 _ ?_  _ 0 μ _ _ _ (q_r 0 rfl) hP hS (lv_sub hl [2, 1, 0] rfl) h
  · clear h hl hP hS; intro μ5 H locs ls  hP hS hl h
    refine lv_iload_n hx hb dX10_lowerCut_39 rfl (lv_at hl 1 rfl) ?_
    refine lv_aload_n hx hb dX10_lowerCut_40 rfl (lv_at hl 0 rfl) ?_
    refine q_getR hx hb hts hown hK hP fd_RX10_10 (Nat.le_of_ble_eq_true rfl) q_kdC_0 rfl q_rhC_0_0 dX10_lowerCut_41 ?_
    obtain ⟨x14, hv13, h⟩ := q_b_some h
    refine q_callV hx hb hml hts hown hK hP hS (As := []) (rest := [.int (q_I x2)]) (st1 := [.int (q_I x14), .int (q_I x2)]) cv_RX10_154 (c_Wo_eventsInCut l D dA (Or.inl rfl) hv13) (Nat.le_of_ble_eq_true rfl) q_kdC_1 rfl ⟨rfl, rfl, Nat.le_of_ble_eq_true rfl, Nat.le_of_ble_eq_true rfl⟩ ⟨Nat.le_refl _, Nat.le_refl _⟩ rfl hl.1 rfl (Nat.le_of_ble_eq_true rfl) rfl (fun _ g => g) dX10_lowerCut_44 ?_
    clear hP hS hv13; intro H locs r14 hP hS _
    refine q_isub hx hb dX10_lowerCut_47 h ?_
    clear h; intro x15 r15 h
    rw [← hQ]
    exact q_ret2 hx hb hr hlocks hP hS r15 h dX10_lowerCut_48
set_option maxHeartbeats 4000000 in
set_option maxRecDepth 100000 in
theorem c_Wo_includeOrphanSends (l : Launch) (D : va_G) (dA : Nat → ClassId) {z sz : Nat} {N : Nat} {o : Nat} (ho : o = 1 ∨ o = 24) {μ : q_M} {μo : q_M} (h : f_Wo_includeOrphanSends N o μ = some μo) : Met l yX9_includeOrphanSends (q_wc yX9_includeOrphanSends cX9_includeOrphanSends 3 none) ({ frames := 3, cells := 0, slots := 0, locals := 65 } : Room) (va_Pc [.ref (z + o)] (q_B (q_P D dA q_kdC q_rhoC 77 z sz μ) D dA)) (q_Q none True (q_P D dA q_kdC q_rhoC 77 z sz μo) (q_A z 77)) 0 0 (q_A z 77) := by
  refine Met.ofW (cc := cX9_includeOrphanSends) (maxL := 3) (ret := none) (by decide) rfl ?_
  intro p e s m args below meth c s₁ B hml hv
  obtain ⟨hargs, hP, hK⟩ := hv
  have hx := B.exec
  have hb := B.bytes
  have hr := B.returns
  have hts : ∀ w ∈ q_W, w.before args s = true := fun w hw => atoms_spec (ws := q_wc yX9_includeOrphanSends cX9_includeOrphanSends 3 none) B.pre w (List.mem_cons_of_mem _ hw)
  have hown : s.vm.findClass RX9 = some m.cls := findClass_of_methodNamed B.named
  have hlocks := B.notSynchronized
  have hS : va_S (q_A z 77) s.heap s.heap [] := va_S.rf
  have hA : ∀ k, k < 77 → q_A z 77 (z + k) := fun k hk => ⟨Nat.le_add_right z k, Nat.add_lt_add_left hk z⟩
  have hl := lv_entry [.ref (z + o)] (n := 3) (Nat.le_of_ble_eq_true rfl)
  refine W.eq (by rw [hargs, lg_entry_eq]) ?_
  generalize (lg_sl [.ref (z + o)] ++ List.replicate (3 - (lg_sl [.ref (z + o)]).length) Slot.unset).toArray = ls at hl ⊢
  have hl : lv_has ls 3 [(0, .ref (z + o))] := hl
  generalize hQ : MQ below _ args s 0 0 _ = Qf
  change W p l e ({ frames := 3, cells := 0, slots := 0, locals := 65 } : Room) s m args below meth c s.heap [] 0 0 Qf (F0 m 0 ls [])
  unfold f_Wo_includeOrphanSends at h
  refine lv_iconst (v := q_I 0) hx hb dX9_includeOrphanSends_0 rfl ?_
  refine lv_istore_n (lv' := [(1, .int (q_I 0)), (0, .ref (z + o))]) hx hb dX9_includeOrphanSends_1 rfl hl (by decide) rfl ?_
  clear hl; intro ls hl
  have L2 : ∀ (k62 : q_M → Option q_M), (∀ (μ3 : q_M) (H : Heap) (locs : List Loc) (ls : Array Slot), q_P D dA q_kdC q_rhoC 77 z sz μ3 H → va_S (q_A z 77) s.heap H locs → lv_has ls 3 [] → k62 μ3 = some μo → W p l e ({ frames := 3, cells := 0, slots := 0, locals := 65 } : Room) s m args below meth c H locs 0 0 Qf (F0 m 62 ls [])) → ∀ (nf2 : Nat) (x1 : Int) (μ2 : q_M) (H : Heap) (locs : List Loc) (ls : Array Slot), q_R x1 → q_P D dA q_kdC q_rhoC 77 z sz μ2 H → va_S (q_A z 77) s.heap H locs → lv_has ls 3 [(0, .ref (z + o)), (1, .int (q_I x1))] → f_Wo_includeOrphanSends_L2 o k62 nf2 x1 μ2 = some μo → W p l e ({ frames := 3, cells := 0, slots := 0, locals := 65 } : Room) s m args below meth c H locs 0 0 Qf (F0 m 2 ls []) := by
    clear h hl hP hS
    intro k62 hk62 nf2
    induction nf2 with
    | zero =>
      intro x1 μ2 H locs ls r1 hP hS hl h
      rw [f_Wo_includeOrphanSends_L2] at h
      cases h
    | succ nf2 ih2 =>
      intro x1 μ2 H locs ls r1 hP hS hl h
      rw [f_Wo_includeOrphanSends_L2] at h
      refine lv_iload_n hx hb dX9_includeOrphanSends_2 rfl (lv_at hl 1 rfl) ?_
      refine lv_aload_n hx hb dX9_includeOrphanSends_3 rfl (lv_at hl 0 rfl) ?_
      refine q_getR hx hb hts hown hK hP fd_RX9_31 (q_ltW0 ho) (q_kdW_0 ho) rfl (q_rhW_0_5 ho) dX9_includeOrphanSends_4 ?_
      refine q_getI hx hb hts hown hK hP fd_RX9_77 (q_ltW ho rfl) (q_kdW_14 ho) rfl dX9_includeOrphanSends_7 h ?_
      clear h; intro x4 r4 h
      refine q_cge hx hb r1 r4 (tgt := 62) dX9_includeOrphanSends_10 (by decide) h ?_ ?_
      · clear h; intro g15 h
        exact hk62 μ2 _ _ _ hP hS (lv_sub hl [] rfl) h
      · clear h; intro g15 h
        refine lv_aload_n hx hb dX9_includeOrphanSends_13 rfl (lv_at hl 0 rfl) ?_
        refine lv_iload_n hx hb dX9_includeOrphanSends_14 rfl (lv_at hl 1 rfl) ?_
        obtain ⟨x6, hv5, h⟩ := q_b_some h
        refine q_callV hx hb hml hts hown hK hP hS (As := [.int (q_I x1)]) (rest := []) (st1 := [.int (q_I x6)]) cv_RX9_190 (c_Wo_isOrphan l D dA ho r1 hv5) (q_ltW0 ho) (q_kdW_0 ho) rfl ⟨rfl, rfl, Nat.le_of_ble_eq_true rfl, Nat.le_of_ble_eq_true rfl⟩ ⟨Nat.le_refl _, Nat.le_refl _⟩ rfl hl.1 rfl (Nat.le_of_ble_eq_true rfl) rfl (fun _ g => g) dX9_includeOrphanSends_15 ?_
        clear hP hS hv5; intro H locs r6 hP hS _
        refine q_jn_in h (fun J => ∀ (μ7 : q_M) (H : Heap) (locs : List Loc) (ls : Array Slot), q_P D dA q_kdC q_rhoC 77 z sz μ7 H → va_S (q_A z 77) s.heap H locs → lv_has ls 3 [(0, .ref (z + o)), (1, .int (q_I x1))] → J μ7 = some μo → W p l e ({ frames := 3, cells := 0, slots := 0, locals := 65 } : Room) s m args below meth c H locs 0 0 Qf (F0 m 56 ls [])) ?_ ?_
        · clear h hl hP hS; intro μ7 H locs ls  hP hS hl h
          refine q_iinc (k := 1) (lv' := fun t => [(1, .int (q_I t)), (0, .ref (z + o))]) hx hb dX9_includeOrphanSends_56 hl rfl (by decide) (fun _ => rfl) h ?_
          clear h hl; intro x8 ls r8 hl h
          refine lv_goto (tgt := 2) hx hb dX9_includeOrphanSends_59 (by decide) ?_
          exact ih2 x8 μ7 _ _ _ r8 hP hS (lv_sub hl [1, 0] rfl) h
        · clear h; intro j56 hj56 h
          refine q_zeq hx hb r6 (tgt := 56) dX9_includeOrphanSends_18 (by decide) h ?_ ?_
          · clear h; intro g14 h
            exact hj56 μ2 _ _ _ hP hS (lv_sub hl [0, 1] rfl) h
          · clear h; intro g14 h
            refine lv_aload_n hx hb dX9_includeOrphanSends_21 rfl (lv_at hl 0 rfl) ?_
            refine q_getR hx hb hts hown hK hP fd_RX9_31 (q_ltW0 ho) (q_kdW_0 ho) rfl (q_rhW_0_5 ho) dX9_includeOrphanSends_22 ?_
            refine q_getR hx hb hts hown hK hP fd_RX9_133 (q_ltW ho rfl) (q_kdW_14 ho) rfl (q_rhW_14_4 ho) dX9_includeOrphanSends_25 ?_
            refine lv_iload_n hx hb dX9_includeOrphanSends_28 rfl (lv_at hl 1 rfl) ?_
            refine q_iald hx hb hK hP (q_ltW ho rfl) (q_kdW_18 ho) r1 dX9_includeOrphanSends_29 h ?_
            clear h; intro x9 r9 h
            refine lv_istore_n (lv' := [(2, .int (q_I x9)), (0, .ref (z + o)), (1, .int (q_I x1))]) hx hb dX9_includeOrphanSends_30 rfl hl (by decide) rfl ?_
            clear hl; intro ls hl
            refine lv_aload_n hx hb dX9_includeOrphanSends_31 rfl (lv_at hl 1 rfl) ?_
            refine q_getR hx hb hts hown hK hP fd_RX9_18 (q_ltW0 ho) (q_kdW_0 ho) rfl (q_rhW_0_3 ho) dX9_includeOrphanSends_32 ?_
            refine lv_aload_n hx hb dX9_includeOrphanSends_35 rfl (lv_at hl 1 rfl) ?_
            refine q_getR hx hb hts hown hK hP fd_RX9_24 (q_ltW0 ho) (q_kdW_0 ho) rfl (q_rhW_0_4 ho) dX9_includeOrphanSends_36 ?_
            refine q_getR hx hb hts hown hK hP fd_RX9_167 (q_ltW ho rfl) (q_kdW_4 ho) rfl (q_rhW_4_1 ho) dX9_includeOrphanSends_39 ?_
            refine lv_iload_n hx hb dX9_includeOrphanSends_42 rfl (lv_at hl 0 rfl) ?_
            refine q_iald hx hb hK hP (q_ltW ho rfl) (q_kdW_5 ho) r9 dX9_includeOrphanSends_43 h ?_
            clear h; intro x10 r10 h
            refine lv_aload_n hx hb dX9_includeOrphanSends_44 rfl (lv_at hl 1 rfl) ?_
            refine q_getR hx hb hts hown hK hP fd_RX9_24 (q_ltW0 ho) (q_kdW_0 ho) rfl (q_rhW_0_4 ho) dX9_includeOrphanSends_45 ?_
            refine q_getR hx hb hts hown hK hP fd_RX9_184 (q_ltW ho rfl) (q_kdW_4 ho) rfl (q_rhW_4_7 ho) dX9_includeOrphanSends_48 ?_
            refine lv_iload_n hx hb dX9_includeOrphanSends_51 rfl (lv_at hl 0 rfl) ?_
            refine q_iald hx hb hK hP (q_ltW ho rfl) (q_kdW_11 ho) r9 dX9_includeOrphanSends_52 h ?_
            clear h; intro x11 r11 h
            refine lv_iconst (v := q_I 1) hx hb dX9_includeOrphanSends_53 rfl ?_
            refine q_iadd hx hb dX9_includeOrphanSends_54 h ?_
            clear h; intro x12 r12 h
            refine q_iast hx hb hK hP hS hA (q_ltW ho rfl) (q_kdW_3 ho) r10 r12 dX9_includeOrphanSends_55 h ?_
            clear h hP hS; intro μ13 H locs hP hS h
            exact hj56 μ13 _ _ _ hP hS (lv_sub hl [1, 2] rfl) h
  refine L2 _ ?_  _ 0 μ _ _ _ (q_r 0 rfl) hP hS (lv_sub hl [1, 0] rfl) h
  · clear h hl hP hS; intro μ3 H locs ls  hP hS hl h
    rw [← hQ]
    exact q_retv hx hb hr hlocks hP hS h dX9_includeOrphanSends_62
set_option maxHeartbeats 4000000 in
set_option maxRecDepth 100000 in
theorem c_CR_raiseCut (l : Launch) (D : va_G) (dA : Nat → ClassId) {z sz : Nat} {N : Nat} {μ : q_M} {xo : Int} {μo : q_M} (h : f_CR_raiseCut N μ = some (xo, μo)) : Met l yX10_raiseCut (q_wc yX10_raiseCut cX10_raiseCut 3 (some .int)) ({ frames := 4, cells := 0, slots := 0, locals := 87 } : Room) (va_Pc [.ref (z + 0)] (q_B (q_P D dA q_kdC q_rhoC 77 z sz μ) D dA)) (q_Q (some (.int (q_I xo))) (q_R xo) (q_P D dA q_kdC q_rhoC 77 z sz μo) (q_A z 77)) 0 0 (q_A z 77) := by
  refine Met.ofW (cc := cX10_raiseCut) (maxL := 3) (ret := (some .int)) (by decide) rfl ?_
  intro p e s m args below meth c s₁ B hml hv
  obtain ⟨hargs, hP, hK⟩ := hv
  have hx := B.exec
  have hb := B.bytes
  have hr := B.returns
  have hts : ∀ w ∈ q_W, w.before args s = true := fun w hw => atoms_spec (ws := q_wc yX10_raiseCut cX10_raiseCut 3 (some .int)) B.pre w (List.mem_cons_of_mem _ hw)
  have hown : s.vm.findClass RX10 = some m.cls := findClass_of_methodNamed B.named
  have hlocks := B.notSynchronized
  have hS : va_S (q_A z 77) s.heap s.heap [] := va_S.rf
  have hA : ∀ k, k < 77 → q_A z 77 (z + k) := fun k hk => ⟨Nat.le_add_right z k, Nat.add_lt_add_left hk z⟩
  have hl := lv_entry [.ref (z + 0)] (n := 3) (Nat.le_of_ble_eq_true rfl)
  refine W.eq (by rw [hargs, lg_entry_eq]) ?_
  generalize (lg_sl [.ref (z + 0)] ++ List.replicate (3 - (lg_sl [.ref (z + 0)]).length) Slot.unset).toArray = ls at hl ⊢
  have hl : lv_has ls 3 [(0, .ref (z + 0))] := hl
  generalize hQ : MQ below _ args s 0 0 _ = Qf
  change W p l e ({ frames := 4, cells := 0, slots := 0, locals := 87 } : Room) s m args below meth c s.heap [] 0 0 Qf (F0 m 0 ls [])
  unfold f_CR_raiseCut at h
  refine lv_aload_n hx hb dX10_raiseCut_0 rfl (lv_at hl 0 rfl) ?_
  refine q_getR hx hb hts hown hK hP fd_RX10_10 (Nat.le_of_ble_eq_true rfl) q_kdC_0 rfl q_rhC_0_0 dX10_raiseCut_1 ?_
  obtain ⟨x2, hv1, h⟩ := q_b_some h
  refine q_callV hx hb hml hts hown hK hP hS (As := []) (rest := []) (st1 := [.int (q_I x2)]) cv_RX10_154 (c_Wo_eventsInCut l D dA (Or.inl rfl) hv1) (Nat.le_of_ble_eq_true rfl) q_kdC_1 rfl ⟨rfl, rfl, Nat.le_of_ble_eq_true rfl, Nat.le_of_ble_eq_true rfl⟩ ⟨Nat.le_refl _, Nat.le_refl _⟩ rfl hl.1 rfl (Nat.le_of_ble_eq_true rfl) rfl (fun _ g => g) dX10_raiseCut_4 ?_
  clear hP hS hv1; intro H locs r2 hP hS _
  refine lv_istore_n (lv' := [(1, .int (q_I x2)), (0, .ref (z + 0))]) hx hb dX10_raiseCut_7 rfl hl (by decide) rfl ?_
  clear hl; intro ls hl
  refine lv_iconst (v := q_I 0) hx hb dX10_raiseCut_8 rfl ?_
  refine lv_istore_n (lv' := [(2, .int (q_I 0)), (1, .int (q_I x2)), (0, .ref (z + 0))]) hx hb dX10_raiseCut_9 rfl hl (by decide) rfl ?_
  clear hl; intro ls hl
  have L10 : ∀ (k39 : q_M → Option (Int × q_M)), (∀ (μ5 : q_M) (H : Heap) (locs : List Loc) (ls : Array Slot), q_P D dA q_kdC q_rhoC 77 z sz μ5 H → va_S (q_A z 77) s.heap H locs → lv_has ls 3 [(0, .ref (z + 0)), (1, .int (q_I x2))] → k39 μ5 = some (xo, μo) → W p l e ({ frames := 4, cells := 0, slots := 0, locals := 87 } : Room) s m args below meth c H locs 0 0 Qf (F0 m 39 ls [])) → ∀ (nf10 : Nat) (x3 : Int) (μ4 : q_M) (H : Heap) (locs : List Loc) (ls : Array Slot), q_R x3 → q_P D dA q_kdC q_rhoC 77 z sz μ4 H → va_S (q_A z 77) s.heap H locs → lv_has ls 3 [(0, .ref (z + 0)), (1, .int (q_I x2)), (2, .int (q_I x3))] → f_CR_raiseCut_L10 N k39 nf10 x3 μ4 = some (xo, μo) → W p l e ({ frames := 4, cells := 0, slots := 0, locals := 87 } : Room) s m args below meth c H locs 0 0 Qf (F0 m 10 ls []) := by
    clear h hl hP hS
    intro k39 hk39 nf10
    induction nf10 with
    | zero =>
      intro x3 μ4 H locs ls r3 hP hS hl h
      rw [f_CR_raiseCut_L10] at h
      cases h
    | succ nf10 ih10 =>
      intro x3 μ4 H locs ls r3 hP hS hl h
      rw [f_CR_raiseCut_L10] at h
      refine lv_iload_n hx hb dX10_raiseCut_10 rfl (lv_at hl 2 rfl) ?_
      refine lv_bipush (v := q_I 100) hx hb dX10_raiseCut_11 (by decide) ?_
      refine q_cgt hx hb r3 (q_r 100 rfl) (tgt := 39) dX10_raiseCut_13 (by decide) h ?_ ?_
      · clear h; intro g12 h
        exact hk39 μ4 _ _ _ hP hS (lv_sub hl [0, 1] rfl) h
      · clear h; intro g12 h
        refine lv_aload_n hx hb dX10_raiseCut_16 rfl (lv_at hl 0 rfl) ?_
        refine q_getR hx hb hts hown hK hP fd_RX10_10 (Nat.le_of_ble_eq_true rfl) q_kdC_0 rfl q_rhC_0_0 dX10_raiseCut_17 ?_
        obtain ⟨x7, hv6, h⟩ := q_b_some h
        refine q_callV hx hb hml hts hown hK hP hS (As := []) (rest := []) (st1 := [.int (q_I x7)]) cv_RX10_180 (c_Wo_countOrphans l D dA (Or.inl rfl) hv6) (Nat.le_of_ble_eq_true rfl) q_kdC_1 rfl ⟨rfl, rfl, Nat.le_of_ble_eq_true rfl, Nat.le_of_ble_eq_true rfl⟩ ⟨Nat.le_refl _, Nat.le_refl _⟩ rfl hl.1 rfl (Nat.le_of_ble_eq_true rfl) rfl (fun _ g => g) dX10_raiseCut_20 ?_
        clear hP hS hv6; intro H locs r7 hP hS _
        refine q_zle hx hb r7 (tgt := 39) dX10_raiseCut_23 (by decide) h ?_ ?_
        · clear h; intro g11 h
          exact hk39 μ4 _ _ _ hP hS (lv_sub hl [0, 1] rfl) h
        · clear h; intro g11 h
          refine lv_aload_n hx hb dX10_raiseCut_26 rfl (lv_at hl 0 rfl) ?_
          refine q_getR hx hb hts hown hK hP fd_RX10_10 (Nat.le_of_ble_eq_true rfl) q_kdC_0 rfl q_rhC_0_0 dX10_raiseCut_27 ?_
          obtain ⟨μ9, hv8, h⟩ := q_b_some h
          refine q_callV hx hb hml hts hown hK hP hS (As := []) (rest := []) (st1 := []) cv_RX10_186 (c_Wo_includeOrphanSends l D dA (Or.inl rfl) hv8) (Nat.le_of_ble_eq_true rfl) q_kdC_1 rfl ⟨rfl, rfl, Nat.le_of_ble_eq_true rfl, Nat.le_of_ble_eq_true rfl⟩ ⟨Nat.le_refl _, Nat.le_refl _⟩ rfl hl.1 rfl (Nat.le_of_ble_eq_true rfl) rfl (fun _ g => g) dX10_raiseCut_30 ?_
          clear hP hS hv8; intro H locs _ hP hS _
          refine q_iinc (k := 2) (lv' := fun t => [(2, .int (q_I t)), (0, .ref (z + 0)), (1, .int (q_I x2))]) hx hb dX10_raiseCut_33 hl rfl (by decide) (fun _ => rfl) h ?_
          clear h hl; intro x10 ls r10 hl h
          refine lv_goto (tgt := 10) hx hb dX10_raiseCut_36 (by decide) ?_
          exact ih10 x10 μ9 _ _ _ r10 hP hS (lv_sub hl [1, 2, 0] rfl) h
  refine L10 _ ?_  _ 0 μ _ _ _ (q_r 0 rfl) hP hS (lv_sub hl [2, 1, 0] rfl) h
  · clear h hl hP hS; intro μ5 H locs ls  hP hS hl h
    refine lv_aload_n hx hb dX10_raiseCut_39 rfl (lv_at hl 0 rfl) ?_
    refine q_getR hx hb hts hown hK hP fd_RX10_10 (Nat.le_of_ble_eq_true rfl) q_kdC_0 rfl q_rhC_0_0 dX10_raiseCut_40 ?_
    obtain ⟨x14, hv13, h⟩ := q_b_some h
    refine q_callV hx hb hml hts hown hK hP hS (As := []) (rest := []) (st1 := [.int (q_I x14)]) cv_RX10_154 (c_Wo_eventsInCut l D dA (Or.inl rfl) hv13) (Nat.le_of_ble_eq_true rfl) q_kdC_1 rfl ⟨rfl, rfl, Nat.le_of_ble_eq_true rfl, Nat.le_of_ble_eq_true rfl⟩ ⟨Nat.le_refl _, Nat.le_refl _⟩ rfl hl.1 rfl (Nat.le_of_ble_eq_true rfl) rfl (fun _ g => g) dX10_raiseCut_43 ?_
    clear hP hS hv13; intro H locs r14 hP hS _
    refine lv_iload_n hx hb dX10_raiseCut_46 rfl (lv_at hl 1 rfl) ?_
    refine q_isub hx hb dX10_raiseCut_47 h ?_
    clear h; intro x15 r15 h
    rw [← hQ]
    exact q_ret2 hx hb hr hlocks hP hS r15 h dX10_raiseCut_48
set_option maxHeartbeats 4000000 in
set_option maxRecDepth 100000 in
theorem c_Wo_cutStock (l : Launch) (D : va_G) (dA : Nat → ClassId) {z sz : Nat} {N : Nat} {o : Nat} (ho : o = 1 ∨ o = 24) {a0 : Int} (ra0 : q_R a0) {a1 : Int} (ra1 : q_R a1) {μ : q_M} {xo : Int} (h : f_Wo_cutStock N o a0 a1 μ = some xo) : Met l yX9_cutStock (q_wc yX9_cutStock cX9_cutStock 5 (some .int)) ({ frames := 2, cells := 0, slots := 0, locals := 43 } : Room) (va_Pc [.ref (z + o), .int (q_I a0), .int (q_I a1)] (q_B (q_P D dA q_kdC q_rhoC 77 z sz μ) D dA)) (q_Q (some (.int (q_I xo))) (q_R xo) (q_P D dA q_kdC q_rhoC 77 z sz μ) (q_A z 77)) 0 0 (q_A z 77) := by
  refine Met.ofW (cc := cX9_cutStock) (maxL := 5) (ret := (some .int)) (by decide) rfl ?_
  intro p e s m args below meth c s₁ B hml hv
  obtain ⟨hargs, hP, hK⟩ := hv
  have hx := B.exec
  have hb := B.bytes
  have hr := B.returns
  have hts : ∀ w ∈ q_W, w.before args s = true := fun w hw => atoms_spec (ws := q_wc yX9_cutStock cX9_cutStock 5 (some .int)) B.pre w (List.mem_cons_of_mem _ hw)
  have hown : s.vm.findClass RX9 = some m.cls := findClass_of_methodNamed B.named
  have hlocks := B.notSynchronized
  have hS : va_S (q_A z 77) s.heap s.heap [] := va_S.rf
  have hA : ∀ k, k < 77 → q_A z 77 (z + k) := fun k hk => ⟨Nat.le_add_right z k, Nat.add_lt_add_left hk z⟩
  have hl := lv_entry [.ref (z + o), .int (q_I a0), .int (q_I a1)] (n := 5) (Nat.le_of_ble_eq_true rfl)
  refine W.eq (by rw [hargs, lg_entry_eq]) ?_
  generalize (lg_sl [.ref (z + o), .int (q_I a0), .int (q_I a1)] ++ List.replicate (5 - (lg_sl [.ref (z + o), .int (q_I a0), .int (q_I a1)]).length) Slot.unset).toArray = ls at hl ⊢
  have hl : lv_has ls 5 [(0, .ref (z + o)), (1, .int (q_I a0)), (2, .int (q_I a1))] := hl
  generalize hQ : MQ below _ args s 0 0 _ = Qf
  change W p l e ({ frames := 2, cells := 0, slots := 0, locals := 43 } : Room) s m args below meth c s.heap [] 0 0 Qf (F0 m 0 ls [])
  unfold f_Wo_cutStock at h
  refine lv_aload_n hx hb dX9_cutStock_0 rfl (lv_at hl 0 rfl) ?_
  refine q_getR hx hb hts hown hK hP fd_RX9_15 (q_ltW0 ho) (q_kdW_0 ho) rfl (q_rhW_0_2 ho) dX9_cutStock_1 ?_
  refine lv_iload_n hx hb dX9_cutStock_4 rfl (lv_at hl 1 rfl) ?_
  refine lv_iload_n hx hb dX9_cutStock_5 rfl (lv_at hl 2 rfl) ?_
  obtain ⟨x2, hv1, h⟩ := q_b_some h
  refine q_callN hx hb hml hts hown hK hP hS (As := [.int (q_I a0), .int (q_I a1)]) (rest := [.ref (z + (o + 2))]) (st1 := [.int (q_I x2), .ref (z + (o + 2))]) cn_RX9_97 (c_CR_slot l D dA ra0 ra1 hv1) ⟨rfl, rfl, Nat.le_of_ble_eq_true rfl, Nat.le_of_ble_eq_true rfl⟩ ⟨Nat.le_refl _, Nat.le_refl _⟩ rfl hl.1 rfl (Nat.le_of_ble_eq_true rfl) rfl (fun _ g => g) dX9_cutStock_6 ?_
  clear hP hS hv1; intro H locs r2 hP hS _
  refine q_iald hx hb hK hP (q_ltW ho rfl) (q_kdW_2 ho) r2 dX9_cutStock_9 h ?_
  clear h; intro x3 r3 h
  refine lv_istore_n (lv' := [(3, .int (q_I x3)), (0, .ref (z + o)), (1, .int (q_I a0)), (2, .int (q_I a1))]) hx hb dX9_cutStock_10 rfl hl (by decide) rfl ?_
  clear hl; intro ls hl
  refine lv_iconst (v := q_I 0) hx hb dX9_cutStock_11 rfl ?_
  refine lv_istore (lv' := [(4, .int (q_I 0)), (3, .int (q_I x3)), (0, .ref (z + o)), (1, .int (q_I a0)), (2, .int (q_I a1))]) hx hb dX9_cutStock_12 hl (by decide) rfl ?_
  clear hl; intro ls hl
  have L14 : ∀ (k110 : Int → Option Int), (∀ (x6 : Int) (H : Heap) (locs : List Loc) (ls : Array Slot), q_R x6 → q_P D dA q_kdC q_rhoC 77 z sz μ H → va_S (q_A z 77) s.heap H locs → lv_has ls 5 [(3, .int (q_I x6))] → k110 x6 = some xo → W p l e ({ frames := 2, cells := 0, slots := 0, locals := 43 } : Room) s m args below meth c H locs 0 0 Qf (F0 m 110 ls [])) → ∀ (nf14 : Nat) (x4 : Int) (x5 : Int) (H : Heap) (locs : List Loc) (ls : Array Slot), q_R x4 → q_R x5 → q_P D dA q_kdC q_rhoC 77 z sz μ H → va_S (q_A z 77) s.heap H locs → lv_has ls 5 [(0, .ref (z + o)), (1, .int (q_I a0)), (2, .int (q_I a1)), (3, .int (q_I x4)), (4, .int (q_I x5))] → f_Wo_cutStock_L14 o a0 a1 μ k110 nf14 x4 x5 = some xo → W p l e ({ frames := 2, cells := 0, slots := 0, locals := 43 } : Room) s m args below meth c H locs 0 0 Qf (F0 m 14 ls []) := by
    clear h hl hP hS
    intro k110 hk110 nf14
    induction nf14 with
    | zero =>
      intro x4 x5 H locs ls r4 r5 hP hS hl h
      rw [f_Wo_cutStock_L14] at h
      cases h
    | succ nf14 ih14 =>
      intro x4 x5 H locs ls r4 r5 hP hS hl h
      rw [f_Wo_cutStock_L14] at h
      refine lv_iload hx hb dX9_cutStock_14 (lv_at hl 4 rfl) ?_
      refine lv_aload_n hx hb dX9_cutStock_16 rfl (lv_at hl 0 rfl) ?_
      refine q_getR hx hb hts hown hK hP fd_RX9_24 (q_ltW0 ho) (q_kdW_0 ho) rfl (q_rhW_0_4 ho) dX9_cutStock_17 ?_
      refine q_getI hx hb hts hown hK hP fd_RX9_106 (q_ltW ho rfl) (q_kdW_4 ho) rfl dX9_cutStock_20 h ?_
      clear h; intro x7 r7 h
      refine q_cge hx hb r5 r7 (tgt := 110) dX9_cutStock_23 (by decide) h ?_ ?_
      · clear h; intro g24 h
        exact hk110 x4 _ _ _ r4 hP hS (lv_sub hl [3] rfl) h
      · clear h; intro g24 h
        refine lv_aload_n hx hb dX9_cutStock_26 rfl (lv_at hl 0 rfl) ?_
        refine q_getR hx hb hts hown hK hP fd_RX9_24 (q_ltW0 ho) (q_kdW_0 ho) rfl (q_rhW_0_4 ho) dX9_cutStock_27 ?_
        refine q_getR hx hb hts hown hK hP fd_RX9_167 (q_ltW ho rfl) (q_kdW_4 ho) rfl (q_rhW_4_1 ho) dX9_cutStock_30 ?_
        refine lv_iload hx hb dX9_cutStock_33 (lv_at hl 4 rfl) ?_
        refine q_iald hx hb hK hP (q_ltW ho rfl) (q_kdW_5 ho) r5 dX9_cutStock_35 h ?_
        clear h; intro x8 r8 h
        refine lv_iload_n hx hb dX9_cutStock_36 rfl (lv_at hl 1 rfl) ?_
        refine q_jn_in h (fun J => ∀ (x9 : Int) (H : Heap) (locs : List Loc) (ls : Array Slot), q_R x9 → q_P D dA q_kdC q_rhoC 77 z sz μ H → va_S (q_A z 77) s.heap H locs → lv_has ls 5 [(0, .ref (z + o)), (1, .int (q_I a0)), (2, .int (q_I a1)), (3, .int (q_I x9)), (4, .int (q_I x5))] → J x9 = some xo → W p l e ({ frames := 2, cells := 0, slots := 0, locals := 43 } : Room) s m args below meth c H locs 0 0 Qf (F0 m 104 ls [])) ?_ ?_
        · clear h hl hP hS; intro x9 H locs ls r9 hP hS hl h
          refine q_iinc (k := 4) (lv' := fun t => [(4, .int (q_I t)), (0, .ref (z + o)), (1, .int (q_I a0)), (2, .int (q_I a1)), (3, .int (q_I x9))]) hx hb dX9_cutStock_104 hl rfl (by decide) (fun _ => rfl) h ?_
          clear h hl; intro x10 ls r10 hl h
          refine lv_goto (tgt := 14) hx hb dX9_cutStock_107 (by decide) ?_
          exact ih14 x9 x10 _ _ _ r9 r10 hP hS (lv_sub hl [1, 2, 3, 4, 0] rfl) h
        · clear h; intro j104 hj104 h
          refine q_cne hx hb r8 ra0 (tgt := 104) dX9_cutStock_37 (by decide) h ?_ ?_
          · clear h; intro g23 h
            refine lv_aload_n hx hb dX9_cutStock_40 rfl (lv_at hl 0 rfl) ?_
            refine q_getR hx hb hts hown hK hP fd_RX9_24 (q_ltW0 ho) (q_kdW_0 ho) rfl (q_rhW_0_4 ho) dX9_cutStock_41 ?_
            refine q_getR hx hb hts hown hK hP fd_RX9_173 (q_ltW ho rfl) (q_kdW_4 ho) rfl (q_rhW_4_3 ho) dX9_cutStock_44 ?_
            refine lv_iload hx hb dX9_cutStock_47 (lv_at hl 4 rfl) ?_
            refine q_iald hx hb hK hP (q_ltW ho rfl) (q_kdW_7 ho) r5 dX9_cutStock_49 h ?_
            clear h; intro x11 r11 h
            refine lv_iload_n hx hb dX9_cutStock_50 rfl (lv_at hl 2 rfl) ?_
            refine q_cne hx hb r11 ra1 (tgt := 104) dX9_cutStock_51 (by decide) h ?_ ?_
            · clear h; intro g22 h
              refine lv_aload_n hx hb dX9_cutStock_54 rfl (lv_at hl 0 rfl) ?_
              refine lv_iload hx hb dX9_cutStock_55 (lv_at hl 4 rfl) ?_
              obtain ⟨x13, hv12, h⟩ := q_b_some h
              refine q_callV hx hb hml hts hown hK hP hS (As := [.int (q_I x5)]) (rest := []) (st1 := [.int (q_I x13)]) cv_RX9_187 (c_Wo_inCut l D dA ho r5 hv12) (q_ltW0 ho) (q_kdW_0 ho) rfl ⟨rfl, rfl, Nat.le_of_ble_eq_true rfl, Nat.le_of_ble_eq_true rfl⟩ ⟨Nat.le_refl _, Nat.le_refl _⟩ rfl hl.1 rfl (Nat.le_of_ble_eq_true rfl) rfl (fun _ g => g) dX9_cutStock_57 ?_
              clear hP hS hv12; intro H locs r13 hP hS _
              refine q_zeq hx hb r13 (tgt := 104) dX9_cutStock_60 (by decide) h ?_ ?_
              · clear h; intro g21 h
                exact hj104 x4 _ _ _ r4 hP hS (lv_sub hl [0, 1, 2, 3, 4] rfl) h
              · clear h; intro g21 h
                refine lv_iload_n hx hb dX9_cutStock_63 rfl (lv_at hl 3 rfl) ?_
                refine lv_aload_n hx hb dX9_cutStock_64 rfl (lv_at hl 0 rfl) ?_
                refine q_getR hx hb hts hown hK hP fd_RX9_24 (q_ltW0 ho) (q_kdW_0 ho) rfl (q_rhW_0_4 ho) dX9_cutStock_65 ?_
                refine q_getR hx hb hts hown hK hP fd_RX9_170 (q_ltW ho rfl) (q_kdW_4 ho) rfl (q_rhW_4_2 ho) dX9_cutStock_68 ?_
                refine lv_iload hx hb dX9_cutStock_71 (lv_at hl 4 rfl) ?_
                refine q_iald hx hb hK hP (q_ltW ho rfl) (q_kdW_6 ho) r5 dX9_cutStock_73 h ?_
                clear h; intro x14 r14 h
                refine lv_iconst (v := q_I 1) hx hb dX9_cutStock_74 rfl ?_
                refine q_jn_in h (fun J => ∀ (x15 : Int) (H : Heap) (locs : List Loc) (ls : Array Slot), q_R x15 → q_P D dA q_kdC q_rhoC 77 z sz μ H → va_S (q_A z 77) s.heap H locs → lv_has ls 5 [(0, .ref (z + o)), (1, .int (q_I a0)), (2, .int (q_I a1)), (4, .int (q_I x5))] → J x15 = some xo → W p l e ({ frames := 2, cells := 0, slots := 0, locals := 43 } : Room) s m args below meth c H locs 0 0 Qf (F0 m 102 ls [.int (q_I x15), .int (q_I x4)])) ?_ ?_
                · clear h hl hP hS; intro x15 H locs ls r15 hP hS hl h
                  refine q_iadd hx hb dX9_cutStock_102 h ?_
                  clear h; intro x16 r16 h
                  refine lv_istore_n (lv' := [(3, .int (q_I x16)), (0, .ref (z + o)), (1, .int (q_I a0)), (2, .int (q_I a1)), (4, .int (q_I x5))]) hx hb dX9_cutStock_103 rfl hl (by decide) rfl ?_
                  clear hl; intro ls hl
                  exact hj104 x16 _ _ _ r16 hP hS (lv_sub hl [1, 2, 3, 0, 4] rfl) h
                · clear h; intro j102 hj102 h
                  refine q_cne hx hb r14 (q_r 1 rfl) (tgt := 92) dX9_cutStock_75 (by decide) h ?_ ?_
                  · clear h; intro g20 h
                    refine lv_aload_n hx hb dX9_cutStock_78 rfl (lv_at hl 0 rfl) ?_
                    refine q_getR hx hb hts hown hK hP fd_RX9_24 (q_ltW0 ho) (q_kdW_0 ho) rfl (q_rhW_0_4 ho) dX9_cutStock_79 ?_
                    refine q_getR hx hb hts hown hK hP fd_RX9_174 (q_ltW ho rfl) (q_kdW_4 ho) rfl (q_rhW_4_4 ho) dX9_cutStock_82 ?_
                    refine lv_iload hx hb dX9_cutStock_85 (lv_at hl 4 rfl) ?_
                    refine q_iald hx hb hK hP (q_ltW ho rfl) (q_kdW_8 ho) r5 dX9_cutStock_87 h ?_
                    clear h; intro x18 r18 h
                    refine q_ineg hx hb dX9_cutStock_88 h ?_
                    clear h; intro x19 r19 h
                    refine lv_goto (tgt := 102) hx hb dX9_cutStock_89 (by decide) ?_
                    exact hj102 x19 _ _ _ r19 hP hS (lv_sub hl [0, 1, 2, 4] rfl) h
                  · clear h; intro g20 h
                    refine lv_aload_n hx hb dX9_cutStock_92 rfl (lv_at hl 0 rfl) ?_
                    refine q_getR hx hb hts hown hK hP fd_RX9_24 (q_ltW0 ho) (q_kdW_0 ho) rfl (q_rhW_0_4 ho) dX9_cutStock_93 ?_
                    refine q_getR hx hb hts hown hK hP fd_RX9_174 (q_ltW ho rfl) (q_kdW_4 ho) rfl (q_rhW_4_4 ho) dX9_cutStock_96 ?_
                    refine lv_iload hx hb dX9_cutStock_99 (lv_at hl 4 rfl) ?_
                    refine q_iald hx hb hK hP (q_ltW ho rfl) (q_kdW_8 ho) r5 dX9_cutStock_101 h ?_
                    clear h; intro x17 r17 h
                    exact hj102 x17 _ _ _ r17 hP hS (lv_sub hl [0, 1, 2, 4] rfl) h
            · clear h; intro g22 h
              exact hj104 x4 _ _ _ r4 hP hS (lv_sub hl [0, 1, 2, 3, 4] rfl) h
          · clear h; intro g23 h
            exact hj104 x4 _ _ _ r4 hP hS (lv_sub hl [0, 1, 2, 3, 4] rfl) h
  refine L14 _ ?_  _ x3 0 _ _ _ r3 (q_r 0 rfl) hP hS (lv_sub hl [2, 3, 4, 1, 0] rfl) h
  · clear h hl hP hS; intro x6 H locs ls r6 hP hS hl h
    refine lv_iload_n hx hb dX9_cutStock_110 rfl (lv_at hl 0 rfl) ?_
    rw [← hQ]
    exact q_ret1 hx hb hr hlocks hP hS r6 h dX9_cutStock_111
set_option maxHeartbeats 4000000 in
set_option maxRecDepth 100000 in
theorem c_CR_stockAtCut (l : Launch) (D : va_G) (dA : Nat → ClassId) {z sz : Nat} {N : Nat} {a0 : Int} (ra0 : q_R a0) {a1 : Int} (ra1 : q_R a1) {μ : q_M} {xo : Int} (h : f_CR_stockAtCut N a0 a1 μ = some xo) : Met l yX10_stockAtCut (q_wc yX10_stockAtCut cX10_stockAtCut 3 (some .int)) ({ frames := 3, cells := 0, slots := 0, locals := 67 } : Room) (va_Pc [.ref (z + 0), .int (q_I a0), .int (q_I a1)] (q_B (q_P D dA q_kdC q_rhoC 77 z sz μ) D dA)) (q_Q (some (.int (q_I xo))) (q_R xo) (q_P D dA q_kdC q_rhoC 77 z sz μ) (q_A z 77)) 0 0 (q_A z 77) := by
  refine Met.ofW (cc := cX10_stockAtCut) (maxL := 3) (ret := (some .int)) (by decide) rfl ?_
  intro p e s m args below meth c s₁ B hml hv
  obtain ⟨hargs, hP, hK⟩ := hv
  have hx := B.exec
  have hb := B.bytes
  have hr := B.returns
  have hts : ∀ w ∈ q_W, w.before args s = true := fun w hw => atoms_spec (ws := q_wc yX10_stockAtCut cX10_stockAtCut 3 (some .int)) B.pre w (List.mem_cons_of_mem _ hw)
  have hown : s.vm.findClass RX10 = some m.cls := findClass_of_methodNamed B.named
  have hlocks := B.notSynchronized
  have hS : va_S (q_A z 77) s.heap s.heap [] := va_S.rf
  have hA : ∀ k, k < 77 → q_A z 77 (z + k) := fun k hk => ⟨Nat.le_add_right z k, Nat.add_lt_add_left hk z⟩
  have hl := lv_entry [.ref (z + 0), .int (q_I a0), .int (q_I a1)] (n := 3) (Nat.le_of_ble_eq_true rfl)
  refine W.eq (by rw [hargs, lg_entry_eq]) ?_
  generalize (lg_sl [.ref (z + 0), .int (q_I a0), .int (q_I a1)] ++ List.replicate (3 - (lg_sl [.ref (z + 0), .int (q_I a0), .int (q_I a1)]).length) Slot.unset).toArray = ls at hl ⊢
  have hl : lv_has ls 3 [(0, .ref (z + 0)), (1, .int (q_I a0)), (2, .int (q_I a1))] := hl
  generalize hQ : MQ below _ args s 0 0 _ = Qf
  change W p l e ({ frames := 3, cells := 0, slots := 0, locals := 67 } : Room) s m args below meth c s.heap [] 0 0 Qf (F0 m 0 ls [])
  unfold f_CR_stockAtCut at h
  refine lv_aload_n hx hb dX10_stockAtCut_0 rfl (lv_at hl 0 rfl) ?_
  refine lv_iload_n hx hb dX10_stockAtCut_1 rfl (lv_at hl 1 rfl) ?_
  obtain ⟨x2, hv1, h⟩ := q_b_some h
  refine q_callV hx hb hml hts hown hK hP hS (As := [.int (q_I a0)]) (rest := []) (st1 := [.int (q_I x2)]) cv_RX10_67 (c_CR_isProcess l D dA ra0 hv1) (Nat.le_of_ble_eq_true rfl) q_kdC_0 rfl ⟨rfl, rfl, Nat.le_of_ble_eq_true rfl, Nat.le_of_ble_eq_true rfl⟩ ⟨Nat.le_refl _, Nat.le_refl _⟩ rfl hl.1 rfl (Nat.le_of_ble_eq_true rfl) rfl (fun _ g => g) dX10_stockAtCut_2 ?_
  clear hP hS hv1; intro H locs r2 hP hS _
  refine q_jn_in h (fun J => ∀ (H : Heap) (locs : List Loc) (ls : Array Slot), q_P D dA q_kdC q_rhoC 77 z sz μ H → va_S (q_A z 77) s.heap H locs → lv_has ls 3 [] → J = some xo → W p l e ({ frames := 3, cells := 0, slots := 0, locals := 67 } : Room) s m args below meth c H locs 0 0 Qf (F0 m 15 ls [])) ?_ ?_
  · clear h hl hP hS; intro  H locs ls  hP hS hl h
    refine lv_ldc hx hb hown (hts _ ck_RX10_74) dX10_stockAtCut_15 ?_
    rw [← hQ]
    exact q_ret1 hx hb hr hlocks hP hS (q_r (-100001) rfl) h dX10_stockAtCut_17
  · clear h; intro j15 hj15 h
    refine q_zeq hx hb r2 (tgt := 15) dX10_stockAtCut_5 (by decide) h ?_ ?_
    · clear h; intro g8 h
      exact hj15  _ _ _ hP hS (lv_sub hl [] rfl) h
    · clear h; intro g8 h
      refine lv_iload_n hx hb dX10_stockAtCut_8 rfl (lv_at hl 2 rfl) ?_
      obtain ⟨x4, hv3, h⟩ := q_b_some h
      refine q_callS hx hb hml hts hown hK hP hS (As := [.int (q_I a1)]) (rest := []) (st1 := [.int (q_I x4)]) cs_RX10_71 (c_CR_isStock l D dA ra1 hv3) ⟨rfl, rfl, Nat.le_of_ble_eq_true rfl, Nat.le_of_ble_eq_true rfl⟩ ⟨Nat.le_refl _, Nat.le_refl _⟩ rfl hl.1 rfl (Nat.le_of_ble_eq_true rfl) rfl (fun _ g => g) dX10_stockAtCut_9 ?_
      clear hP hS hv3; intro H locs r4 hP hS _
      refine q_zne hx hb r4 (tgt := 18) dX10_stockAtCut_12 (by decide) h ?_ ?_
      · clear h; intro g7 h
        exact hj15  _ _ _ hP hS (lv_sub hl [] rfl) h
      · clear h; intro g7 h
        refine lv_aload_n hx hb dX10_stockAtCut_18 rfl (lv_at hl 0 rfl) ?_
        refine q_getR hx hb hts hown hK hP fd_RX10_10 (Nat.le_of_ble_eq_true rfl) q_kdC_0 rfl q_rhC_0_0 dX10_stockAtCut_19 ?_
        refine lv_iload_n hx hb dX10_stockAtCut_22 rfl (lv_at hl 1 rfl) ?_
        refine lv_iload_n hx hb dX10_stockAtCut_23 rfl (lv_at hl 2 rfl) ?_
        obtain ⟨x6, hv5, h⟩ := q_b_some h
        refine q_callV hx hb hml hts hown hK hP hS (As := [.int (q_I a0), .int (q_I a1)]) (rest := []) (st1 := [.int (q_I x6)]) cv_RX10_189 (c_Wo_cutStock l D dA (Or.inl rfl) ra0 ra1 hv5) (Nat.le_of_ble_eq_true rfl) q_kdC_1 rfl ⟨rfl, rfl, Nat.le_of_ble_eq_true rfl, Nat.le_of_ble_eq_true rfl⟩ ⟨Nat.le_refl _, Nat.le_refl _⟩ rfl hl.1 rfl (Nat.le_of_ble_eq_true rfl) rfl (fun _ g => g) dX10_stockAtCut_24 ?_
        clear hP hS hv5; intro H locs r6 hP hS _
        rw [← hQ]
        exact q_ret1 hx hb hr hlocks hP hS r6 h dX10_stockAtCut_27
set_option maxHeartbeats 4000000 in
set_option maxRecDepth 100000 in
theorem c_Wo_crossesCut (l : Launch) (D : va_G) (dA : Nat → ClassId) {z sz : Nat} {o : Nat} (ho : o = 1 ∨ o = 24) {a0 : Int} (ra0 : q_R a0) {μ : q_M} {xo : Int} (h : f_Wo_crossesCut o a0 μ = some xo) : Met l yX9_crossesCut (q_wc yX9_crossesCut cX9_crossesCut 3 (some .boolean)) ({ frames := 2, cells := 0, slots := 0, locals := 43 } : Room) (va_Pc [.ref (z + o), .int (q_I a0)] (q_B (q_P D dA q_kdC q_rhoC 77 z sz μ) D dA)) (q_Q (some (.int (q_I xo))) (q_R xo) (q_P D dA q_kdC q_rhoC 77 z sz μ) (q_A z 77)) 0 0 (q_A z 77) := by
  refine Met.ofW (cc := cX9_crossesCut) (maxL := 3) (ret := (some .boolean)) (by decide) rfl ?_
  intro p e s m args below meth c s₁ B hml hv
  obtain ⟨hargs, hP, hK⟩ := hv
  have hx := B.exec
  have hb := B.bytes
  have hr := B.returns
  have hts : ∀ w ∈ q_W, w.before args s = true := fun w hw => atoms_spec (ws := q_wc yX9_crossesCut cX9_crossesCut 3 (some .boolean)) B.pre w (List.mem_cons_of_mem _ hw)
  have hown : s.vm.findClass RX9 = some m.cls := findClass_of_methodNamed B.named
  have hlocks := B.notSynchronized
  have hS : va_S (q_A z 77) s.heap s.heap [] := va_S.rf
  have hA : ∀ k, k < 77 → q_A z 77 (z + k) := fun k hk => ⟨Nat.le_add_right z k, Nat.add_lt_add_left hk z⟩
  have hl := lv_entry [.ref (z + o), .int (q_I a0)] (n := 3) (Nat.le_of_ble_eq_true rfl)
  refine W.eq (by rw [hargs, lg_entry_eq]) ?_
  generalize (lg_sl [.ref (z + o), .int (q_I a0)] ++ List.replicate (3 - (lg_sl [.ref (z + o), .int (q_I a0)]).length) Slot.unset).toArray = ls at hl ⊢
  have hl : lv_has ls 3 [(0, .ref (z + o)), (1, .int (q_I a0))] := hl
  generalize hQ : MQ below _ args s 0 0 _ = Qf
  change W p l e ({ frames := 2, cells := 0, slots := 0, locals := 43 } : Room) s m args below meth c s.heap [] 0 0 Qf (F0 m 0 ls [])
  unfold f_Wo_crossesCut at h
  refine lv_aload_n hx hb dX9_crossesCut_0 rfl (lv_at hl 0 rfl) ?_
  refine q_getR hx hb hts hown hK hP fd_RX9_31 (q_ltW0 ho) (q_kdW_0 ho) rfl (q_rhW_0_5 ho) dX9_crossesCut_1 ?_
  refine q_getR hx hb hts hown hK hP fd_RX9_133 (q_ltW ho rfl) (q_kdW_14 ho) rfl (q_rhW_14_4 ho) dX9_crossesCut_4 ?_
  refine lv_iload_n hx hb dX9_crossesCut_7 rfl (lv_at hl 1 rfl) ?_
  refine q_iald hx hb hK hP (q_ltW ho rfl) (q_kdW_18 ho) ra0 dX9_crossesCut_8 h ?_
  clear h; intro x1 r1 h
  refine lv_istore_n (lv' := [(2, .int (q_I x1)), (0, .ref (z + o)), (1, .int (q_I a0))]) hx hb dX9_crossesCut_9 rfl hl (by decide) rfl ?_
  clear hl; intro ls hl
  refine lv_iload_n hx hb dX9_crossesCut_10 rfl (lv_at hl 0 rfl) ?_
  refine lv_iconst (v := q_I (-1)) hx hb dX9_crossesCut_11 rfl ?_
  refine q_jn_in h (fun J => ∀ (x2 : Int) (H : Heap) (locs : List Loc) (ls : Array Slot), q_R x2 → q_P D dA q_kdC q_rhoC 77 z sz μ H → va_S (q_A z 77) s.heap H locs → lv_has ls 3 [] → J x2 = some xo → W p l e ({ frames := 2, cells := 0, slots := 0, locals := 43 } : Room) s m args below meth c H locs 0 0 Qf (F0 m 44 ls [.int (q_I x2)])) ?_ ?_
  · clear h hl hP hS; intro x2 H locs ls r2 hP hS hl h
    rw [← hQ]
    obtain ⟨hz, h⟩ := q_rz_some h
    exact q_retz1 hx hb hr hlocks hP hS hz h dX9_crossesCut_44
  · clear h; intro j44 hj44 h
    refine q_jn_in h (fun J => ∀ (H : Heap) (locs : List Loc) (ls : Array Slot), q_P D dA q_kdC q_rhoC 77 z sz μ H → va_S (q_A z 77) s.heap H locs → lv_has ls 3 [] → J = some xo → W p l e ({ frames := 2, cells := 0, slots := 0, locals := 43 } : Room) s m args below meth c H locs 0 0 Qf (F0 m 43 ls [])) ?_ ?_
    · clear h hl hP hS; intro  H locs ls  hP hS hl h
      refine lv_iconst (v := q_I 0) hx hb dX9_crossesCut_43 rfl ?_
      exact hj44 0 _ _ _ (q_r 0 rfl) hP hS (lv_sub hl [] rfl) h
    · clear h; intro j43 hj43 h
      refine q_jn_in h (fun J => ∀ (H : Heap) (locs : List Loc) (ls : Array Slot), q_P D dA q_kdC q_rhoC 77 z sz μ H → va_S (q_A z 77) s.heap H locs → lv_has ls 3 [(0, .ref (z + o)), (1, .int (q_I a0))] → J = some xo → W p l e ({ frames := 2, cells := 0, slots := 0, locals := 43 } : Room) s m args below meth c H locs 0 0 Qf (F0 m 23 ls [])) ?_ ?_
      · clear h hl hP hS; intro  H locs ls  hP hS hl h
        refine lv_aload_n hx hb dX9_crossesCut_23 rfl (lv_at hl 0 rfl) ?_
        refine lv_aload_n hx hb dX9_crossesCut_24 rfl (lv_at hl 0 rfl) ?_
        refine q_getR hx hb hts hown hK hP fd_RX9_31 (q_ltW0 ho) (q_kdW_0 ho) rfl (q_rhW_0_5 ho) dX9_crossesCut_25 ?_
        refine q_getR hx hb hts hown hK hP fd_RX9_139 (q_ltW ho rfl) (q_kdW_14 ho) rfl (q_rhW_14_5 ho) dX9_crossesCut_28 ?_
        refine lv_iload_n hx hb dX9_crossesCut_31 rfl (lv_at hl 1 rfl) ?_
        refine q_iald hx hb hK hP (q_ltW ho rfl) (q_kdW_19 ho) ra0 dX9_crossesCut_32 h ?_
        clear h; intro x3 r3 h
        obtain ⟨x5, hv4, h⟩ := q_b_some h
        refine q_callV hx hb hml hts hown hK hP hS (As := [.int (q_I x3)]) (rest := []) (st1 := [.int (q_I x5)]) cv_RX9_187 (c_Wo_inCut l D dA ho r3 hv4) (q_ltW0 ho) (q_kdW_0 ho) rfl ⟨rfl, rfl, Nat.le_of_ble_eq_true rfl, Nat.le_of_ble_eq_true rfl⟩ ⟨Nat.le_refl _, Nat.le_refl _⟩ rfl hl.1 rfl (Nat.le_of_ble_eq_true rfl) rfl (fun _ g => g) dX9_crossesCut_33 ?_
        clear hP hS hv4; intro H locs r5 hP hS _
        refine q_zne hx hb r5 (tgt := 43) dX9_crossesCut_36 (by decide) h ?_ ?_
        · clear h; intro g6 h
          refine lv_iconst (v := q_I 1) hx hb dX9_crossesCut_39 rfl ?_
          refine lv_goto (tgt := 44) hx hb dX9_crossesCut_40 (by decide) ?_
          exact hj44 1 _ _ _ (q_r 1 rfl) hP hS (lv_sub hl [] rfl) h
        · clear h; intro g6 h
          exact hj43  _ _ _ hP hS (lv_sub hl [] rfl) h
      · clear h; intro j23 hj23 h
        refine q_ceq hx hb r1 (q_r (-1) rfl) (tgt := 23) dX9_crossesCut_12 (by decide) h ?_ ?_
        · clear h; intro g10 h
          exact hj23  _ _ _ hP hS (lv_sub hl [1, 2] rfl) h
        · clear h; intro g10 h
          refine lv_aload_n hx hb dX9_crossesCut_15 rfl (lv_at hl 1 rfl) ?_
          refine lv_iload_n hx hb dX9_crossesCut_16 rfl (lv_at hl 0 rfl) ?_
          obtain ⟨x8, hv7, h⟩ := q_b_some h
          refine q_callV hx hb hml hts hown hK hP hS (As := [.int (q_I x1)]) (rest := []) (st1 := [.int (q_I x8)]) cv_RX9_187 (c_Wo_inCut l D dA ho r1 hv7) (q_ltW0 ho) (q_kdW_0 ho) rfl ⟨rfl, rfl, Nat.le_of_ble_eq_true rfl, Nat.le_of_ble_eq_true rfl⟩ ⟨Nat.le_refl _, Nat.le_refl _⟩ rfl hl.1 rfl (Nat.le_of_ble_eq_true rfl) rfl (fun _ g => g) dX9_crossesCut_17 ?_
          clear hP hS hv7; intro H locs r8 hP hS _
          refine q_zeq hx hb r8 (tgt := 43) dX9_crossesCut_20 (by decide) h ?_ ?_
          · clear h; intro g9 h
            exact hj43  _ _ _ hP hS (lv_sub hl [] rfl) h
          · clear h; intro g9 h
            exact hj23  _ _ _ hP hS (lv_sub hl [1, 2] rfl) h
set_option maxHeartbeats 4000000 in
set_option maxRecDepth 100000 in
theorem c_Wo_countCrossing (l : Launch) (D : va_G) (dA : Nat → ClassId) {z sz : Nat} {N : Nat} {o : Nat} (ho : o = 1 ∨ o = 24) {a0 : Int} (ra0 : q_R a0) {μ : q_M} {xo : Int} (h : f_Wo_countCrossing N o a0 μ = some xo) : Met l yX9_countCrossing (q_wc yX9_countCrossing cX9_countCrossing 4 (some .int)) ({ frames := 3, cells := 0, slots := 0, locals := 65 } : Room) (va_Pc [.ref (z + o), .int (q_I a0)] (q_B (q_P D dA q_kdC q_rhoC 77 z sz μ) D dA)) (q_Q (some (.int (q_I xo))) (q_R xo) (q_P D dA q_kdC q_rhoC 77 z sz μ) (q_A z 77)) 0 0 (q_A z 77) := by
  refine Met.ofW (cc := cX9_countCrossing) (maxL := 4) (ret := (some .int)) (by decide) rfl ?_
  intro p e s m args below meth c s₁ B hml hv
  obtain ⟨hargs, hP, hK⟩ := hv
  have hx := B.exec
  have hb := B.bytes
  have hr := B.returns
  have hts : ∀ w ∈ q_W, w.before args s = true := fun w hw => atoms_spec (ws := q_wc yX9_countCrossing cX9_countCrossing 4 (some .int)) B.pre w (List.mem_cons_of_mem _ hw)
  have hown : s.vm.findClass RX9 = some m.cls := findClass_of_methodNamed B.named
  have hlocks := B.notSynchronized
  have hS : va_S (q_A z 77) s.heap s.heap [] := va_S.rf
  have hA : ∀ k, k < 77 → q_A z 77 (z + k) := fun k hk => ⟨Nat.le_add_right z k, Nat.add_lt_add_left hk z⟩
  have hl := lv_entry [.ref (z + o), .int (q_I a0)] (n := 4) (Nat.le_of_ble_eq_true rfl)
  refine W.eq (by rw [hargs, lg_entry_eq]) ?_
  generalize (lg_sl [.ref (z + o), .int (q_I a0)] ++ List.replicate (4 - (lg_sl [.ref (z + o), .int (q_I a0)]).length) Slot.unset).toArray = ls at hl ⊢
  have hl : lv_has ls 4 [(0, .ref (z + o)), (1, .int (q_I a0))] := hl
  generalize hQ : MQ below _ args s 0 0 _ = Qf
  change W p l e ({ frames := 3, cells := 0, slots := 0, locals := 65 } : Room) s m args below meth c s.heap [] 0 0 Qf (F0 m 0 ls [])
  unfold f_Wo_countCrossing at h
  refine lv_iconst (v := q_I 0) hx hb dX9_countCrossing_0 rfl ?_
  refine lv_istore_n (lv' := [(2, .int (q_I 0)), (0, .ref (z + o)), (1, .int (q_I a0))]) hx hb dX9_countCrossing_1 rfl hl (by decide) rfl ?_
  clear hl; intro ls hl
  refine lv_iconst (v := q_I 0) hx hb dX9_countCrossing_2 rfl ?_
  refine lv_istore_n (lv' := [(3, .int (q_I 0)), (2, .int (q_I 0)), (0, .ref (z + o)), (1, .int (q_I a0))]) hx hb dX9_countCrossing_3 rfl hl (by decide) rfl ?_
  clear hl; intro ls hl
  have L4 : ∀ (k45 : Int → Option Int), (∀ (x3 : Int) (H : Heap) (locs : List Loc) (ls : Array Slot), q_R x3 → q_P D dA q_kdC q_rhoC 77 z sz μ H → va_S (q_A z 77) s.heap H locs → lv_has ls 4 [(2, .int (q_I x3))] → k45 x3 = some xo → W p l e ({ frames := 3, cells := 0, slots := 0, locals := 65 } : Room) s m args below meth c H locs 0 0 Qf (F0 m 45 ls [])) → ∀ (nf4 : Nat) (x1 : Int) (x2 : Int) (H : Heap) (locs : List Loc) (ls : Array Slot), q_R x1 → q_R x2 → q_P D dA q_kdC q_rhoC 77 z sz μ H → va_S (q_A z 77) s.heap H locs → lv_has ls 4 [(0, .ref (z + o)), (1, .int (q_I a0)), (2, .int (q_I x1)), (3, .int (q_I x2))] → f_Wo_countCrossing_L4 o a0 μ k45 nf4 x1 x2 = some xo → W p l e ({ frames := 3, cells := 0, slots := 0, locals := 65 } : Room) s m args below meth c H locs 0 0 Qf (F0 m 4 ls []) := by
    clear h hl hP hS
    intro k45 hk45 nf4
    induction nf4 with
    | zero =>
      intro x1 x2 H locs ls r1 r2 hP hS hl h
      rw [f_Wo_countCrossing_L4] at h
      cases h
    | succ nf4 ih4 =>
      intro x1 x2 H locs ls r1 r2 hP hS hl h
      rw [f_Wo_countCrossing_L4] at h
      refine lv_iload_n hx hb dX9_countCrossing_4 rfl (lv_at hl 3 rfl) ?_
      refine lv_aload_n hx hb dX9_countCrossing_5 rfl (lv_at hl 0 rfl) ?_
      refine q_getR hx hb hts hown hK hP fd_RX9_31 (q_ltW0 ho) (q_kdW_0 ho) rfl (q_rhW_0_5 ho) dX9_countCrossing_6 ?_
      refine q_getI hx hb hts hown hK hP fd_RX9_77 (q_ltW ho rfl) (q_kdW_14 ho) rfl dX9_countCrossing_9 h ?_
      clear h; intro x4 r4 h
      refine q_cge hx hb r2 r4 (tgt := 45) dX9_countCrossing_12 (by decide) h ?_ ?_
      · clear h; intro g13 h
        exact hk45 x1 _ _ _ r1 hP hS (lv_sub hl [2] rfl) h
      · clear h; intro g13 h
        refine lv_aload_n hx hb dX9_countCrossing_15 rfl (lv_at hl 0 rfl) ?_
        refine q_getR hx hb hts hown hK hP fd_RX9_31 (q_ltW0 ho) (q_kdW_0 ho) rfl (q_rhW_0_5 ho) dX9_countCrossing_16 ?_
        refine q_getR hx hb hts hown hK hP fd_RX9_84 (q_ltW ho rfl) (q_kdW_14 ho) rfl (q_rhW_14_1 ho) dX9_countCrossing_19 ?_
        refine lv_iload_n hx hb dX9_countCrossing_22 rfl (lv_at hl 3 rfl) ?_
        refine q_iald hx hb hK hP (q_ltW ho rfl) (q_kdW_15 ho) r2 dX9_countCrossing_23 h ?_
        clear h; intro x5 r5 h
        refine lv_iload_n hx hb dX9_countCrossing_24 rfl (lv_at hl 1 rfl) ?_
        refine q_jn_in h (fun J => ∀ (x6 : Int) (H : Heap) (locs : List Loc) (ls : Array Slot), q_R x6 → q_P D dA q_kdC q_rhoC 77 z sz μ H → va_S (q_A z 77) s.heap H locs → lv_has ls 4 [(0, .ref (z + o)), (1, .int (q_I a0)), (2, .int (q_I x6)), (3, .int (q_I x2))] → J x6 = some xo → W p l e ({ frames := 3, cells := 0, slots := 0, locals := 65 } : Room) s m args below meth c H locs 0 0 Qf (F0 m 39 ls [])) ?_ ?_
        · clear h hl hP hS; intro x6 H locs ls r6 hP hS hl h
          refine q_iinc (k := 3) (lv' := fun t => [(3, .int (q_I t)), (0, .ref (z + o)), (1, .int (q_I a0)), (2, .int (q_I x6))]) hx hb dX9_countCrossing_39 hl rfl (by decide) (fun _ => rfl) h ?_
          clear h hl; intro x7 ls r7 hl h
          refine lv_goto (tgt := 4) hx hb dX9_countCrossing_42 (by decide) ?_
          exact ih4 x6 x7 _ _ _ r6 r7 hP hS (lv_sub hl [1, 2, 3, 0] rfl) h
        · clear h; intro j39 hj39 h
          refine q_cne hx hb r5 ra0 (tgt := 39) dX9_countCrossing_25 (by decide) h ?_ ?_
          · clear h; intro g12 h
            refine lv_aload_n hx hb dX9_countCrossing_28 rfl (lv_at hl 0 rfl) ?_
            refine lv_iload_n hx hb dX9_countCrossing_29 rfl (lv_at hl 3 rfl) ?_
            obtain ⟨x9, hv8, h⟩ := q_b_some h
            refine q_callV hx hb hml hts hown hK hP hS (As := [.int (q_I x2)]) (rest := []) (st1 := [.int (q_I x9)]) cv_RX9_80 (c_Wo_crossesCut l D dA ho r2 hv8) (q_ltW0 ho) (q_kdW_0 ho) rfl ⟨rfl, rfl, Nat.le_of_ble_eq_true rfl, Nat.le_of_ble_eq_true rfl⟩ ⟨Nat.le_refl _, Nat.le_refl _⟩ rfl hl.1 rfl (Nat.le_of_ble_eq_true rfl) rfl (fun _ g => g) dX9_countCrossing_30 ?_
            clear hP hS hv8; intro H locs r9 hP hS _
            refine q_zeq hx hb r9 (tgt := 39) dX9_countCrossing_33 (by decide) h ?_ ?_
            · clear h; intro g11 h
              exact hj39 x1 _ _ _ r1 hP hS (lv_sub hl [0, 1, 2, 3] rfl) h
            · clear h; intro g11 h
              refine q_iinc (k := 2) (lv' := fun t => [(2, .int (q_I t)), (0, .ref (z + o)), (1, .int (q_I a0)), (3, .int (q_I x2))]) hx hb dX9_countCrossing_36 hl rfl (by decide) (fun _ => rfl) h ?_
              clear h hl; intro x10 ls r10 hl h
              exact hj39 x10 _ _ _ r10 hP hS (lv_sub hl [1, 2, 0, 3] rfl) h
          · clear h; intro g12 h
            exact hj39 x1 _ _ _ r1 hP hS (lv_sub hl [0, 1, 2, 3] rfl) h
  refine L4 _ ?_  _ 0 0 _ _ _ (q_r 0 rfl) (q_r 0 rfl) hP hS (lv_sub hl [2, 3, 1, 0] rfl) h
  · clear h hl hP hS; intro x3 H locs ls r3 hP hS hl h
    refine lv_iload_n hx hb dX9_countCrossing_45 rfl (lv_at hl 0 rfl) ?_
    rw [← hQ]
    exact q_ret1 hx hb hr hlocks hP hS r3 h dX9_countCrossing_46
set_option maxHeartbeats 4000000 in
set_option maxRecDepth 100000 in
theorem c_Wo_crossingAt (l : Launch) (D : va_G) (dA : Nat → ClassId) {z sz : Nat} {N : Nat} {o : Nat} (ho : o = 1 ∨ o = 24) {a0 : Int} (ra0 : q_R a0) {a1 : Int} (ra1 : q_R a1) {μ : q_M} {xo : Int} (h : f_Wo_crossingAt N o a0 a1 μ = some xo) : Met l yX9_crossingAt (q_wc yX9_crossingAt cX9_crossingAt 5 (some .int)) ({ frames := 3, cells := 0, slots := 0, locals := 65 } : Room) (va_Pc [.ref (z + o), .int (q_I a0), .int (q_I a1)] (q_B (q_P D dA q_kdC q_rhoC 77 z sz μ) D dA)) (q_Q (some (.int (q_I xo))) (q_R xo) (q_P D dA q_kdC q_rhoC 77 z sz μ) (q_A z 77)) 0 0 (q_A z 77) := by
  refine Met.ofW (cc := cX9_crossingAt) (maxL := 5) (ret := (some .int)) (by decide) rfl ?_
  intro p e s m args below meth c s₁ B hml hv
  obtain ⟨hargs, hP, hK⟩ := hv
  have hx := B.exec
  have hb := B.bytes
  have hr := B.returns
  have hts : ∀ w ∈ q_W, w.before args s = true := fun w hw => atoms_spec (ws := q_wc yX9_crossingAt cX9_crossingAt 5 (some .int)) B.pre w (List.mem_cons_of_mem _ hw)
  have hown : s.vm.findClass RX9 = some m.cls := findClass_of_methodNamed B.named
  have hlocks := B.notSynchronized
  have hS : va_S (q_A z 77) s.heap s.heap [] := va_S.rf
  have hA : ∀ k, k < 77 → q_A z 77 (z + k) := fun k hk => ⟨Nat.le_add_right z k, Nat.add_lt_add_left hk z⟩
  have hl := lv_entry [.ref (z + o), .int (q_I a0), .int (q_I a1)] (n := 5) (Nat.le_of_ble_eq_true rfl)
  refine W.eq (by rw [hargs, lg_entry_eq]) ?_
  generalize (lg_sl [.ref (z + o), .int (q_I a0), .int (q_I a1)] ++ List.replicate (5 - (lg_sl [.ref (z + o), .int (q_I a0), .int (q_I a1)]).length) Slot.unset).toArray = ls at hl ⊢
  have hl : lv_has ls 5 [(0, .ref (z + o)), (1, .int (q_I a0)), (2, .int (q_I a1))] := hl
  generalize hQ : MQ below _ args s 0 0 _ = Qf
  change W p l e ({ frames := 3, cells := 0, slots := 0, locals := 65 } : Room) s m args below meth c s.heap [] 0 0 Qf (F0 m 0 ls [])
  unfold f_Wo_crossingAt at h
  refine lv_iconst (v := q_I 0) hx hb dX9_crossingAt_0 rfl ?_
  refine lv_istore_n (lv' := [(3, .int (q_I 0)), (0, .ref (z + o)), (1, .int (q_I a0)), (2, .int (q_I a1))]) hx hb dX9_crossingAt_1 rfl hl (by decide) rfl ?_
  clear hl; intro ls hl
  refine lv_iconst (v := q_I 0) hx hb dX9_crossingAt_2 rfl ?_
  refine lv_istore (lv' := [(4, .int (q_I 0)), (3, .int (q_I 0)), (0, .ref (z + o)), (1, .int (q_I a0)), (2, .int (q_I a1))]) hx hb dX9_crossingAt_3 hl (by decide) rfl ?_
  clear hl; intro ls hl
  have L5 : ∀ (k45 : Int → Option Int) (k57 : Option Int), (∀ (x3 : Int) (H : Heap) (locs : List Loc) (ls : Array Slot), q_R x3 → q_P D dA q_kdC q_rhoC 77 z sz μ H → va_S (q_A z 77) s.heap H locs → lv_has ls 5 [(4, .int (q_I x3))] → k45 x3 = some xo → W p l e ({ frames := 3, cells := 0, slots := 0, locals := 65 } : Room) s m args below meth c H locs 0 0 Qf (F0 m 45 ls [])) → (∀ (H : Heap) (locs : List Loc) (ls : Array Slot), q_P D dA q_kdC q_rhoC 77 z sz μ H → va_S (q_A z 77) s.heap H locs → lv_has ls 5 [] → k57 = some xo → W p l e ({ frames := 3, cells := 0, slots := 0, locals := 65 } : Room) s m args below meth c H locs 0 0 Qf (F0 m 57 ls [])) → ∀ (nf5 : Nat) (x1 : Int) (x2 : Int) (H : Heap) (locs : List Loc) (ls : Array Slot), q_R x1 → q_R x2 → q_P D dA q_kdC q_rhoC 77 z sz μ H → va_S (q_A z 77) s.heap H locs → lv_has ls 5 [(0, .ref (z + o)), (1, .int (q_I a0)), (2, .int (q_I a1)), (3, .int (q_I x1)), (4, .int (q_I x2))] → f_Wo_crossingAt_L5 o a0 a1 μ k45 k57 nf5 x1 x2 = some xo → W p l e ({ frames := 3, cells := 0, slots := 0, locals := 65 } : Room) s m args below meth c H locs 0 0 Qf (F0 m 5 ls []) := by
    clear h hl hP hS
    intro k45 k57 hk45 hk57 nf5
    induction nf5 with
    | zero =>
      intro x1 x2 H locs ls r1 r2 hP hS hl h
      rw [f_Wo_crossingAt_L5] at h
      cases h
    | succ nf5 ih5 =>
      intro x1 x2 H locs ls r1 r2 hP hS hl h
      rw [f_Wo_crossingAt_L5] at h
      refine lv_iload hx hb dX9_crossingAt_5 (lv_at hl 4 rfl) ?_
      refine lv_aload_n hx hb dX9_crossingAt_7 rfl (lv_at hl 0 rfl) ?_
      refine q_getR hx hb hts hown hK hP fd_RX9_31 (q_ltW0 ho) (q_kdW_0 ho) rfl (q_rhW_0_5 ho) dX9_crossingAt_8 ?_
      refine q_getI hx hb hts hown hK hP fd_RX9_77 (q_ltW ho rfl) (q_kdW_14 ho) rfl dX9_crossingAt_11 h ?_
      clear h; intro x4 r4 h
      refine q_cge hx hb r2 r4 (tgt := 57) dX9_crossingAt_14 (by decide) h ?_ ?_
      · clear h; intro g14 h
        exact hk57  _ _ _ hP hS (lv_sub hl [] rfl) h
      · clear h; intro g14 h
        refine lv_aload_n hx hb dX9_crossingAt_17 rfl (lv_at hl 0 rfl) ?_
        refine q_getR hx hb hts hown hK hP fd_RX9_31 (q_ltW0 ho) (q_kdW_0 ho) rfl (q_rhW_0_5 ho) dX9_crossingAt_18 ?_
        refine q_getR hx hb hts hown hK hP fd_RX9_84 (q_ltW ho rfl) (q_kdW_14 ho) rfl (q_rhW_14_1 ho) dX9_crossingAt_21 ?_
        refine lv_iload hx hb dX9_crossingAt_24 (lv_at hl 4 rfl) ?_
        refine q_iald hx hb hK hP (q_ltW ho rfl) (q_kdW_15 ho) r2 dX9_crossingAt_26 h ?_
        clear h; intro x5 r5 h
        refine lv_iload_n hx hb dX9_crossingAt_27 rfl (lv_at hl 1 rfl) ?_
        refine q_jn_in h (fun J => ∀ (x6 : Int) (H : Heap) (locs : List Loc) (ls : Array Slot), q_R x6 → q_P D dA q_kdC q_rhoC 77 z sz μ H → va_S (q_A z 77) s.heap H locs → lv_has ls 5 [(0, .ref (z + o)), (1, .int (q_I a0)), (2, .int (q_I a1)), (3, .int (q_I x6)), (4, .int (q_I x2))] → J x6 = some xo → W p l e ({ frames := 3, cells := 0, slots := 0, locals := 65 } : Room) s m args below meth c H locs 0 0 Qf (F0 m 51 ls [])) ?_ ?_
        · clear h hl hP hS; intro x6 H locs ls r6 hP hS hl h
          refine q_iinc (k := 4) (lv' := fun t => [(4, .int (q_I t)), (0, .ref (z + o)), (1, .int (q_I a0)), (2, .int (q_I a1)), (3, .int (q_I x6))]) hx hb dX9_crossingAt_51 hl rfl (by decide) (fun _ => rfl) h ?_
          clear h hl; intro x7 ls r7 hl h
          refine lv_goto (tgt := 5) hx hb dX9_crossingAt_54 (by decide) ?_
          exact ih5 x6 x7 _ _ _ r6 r7 hP hS (lv_sub hl [1, 2, 3, 4, 0] rfl) h
        · clear h; intro j51 hj51 h
          refine q_cne hx hb r5 ra0 (tgt := 51) dX9_crossingAt_28 (by decide) h ?_ ?_
          · clear h; intro g13 h
            refine lv_aload_n hx hb dX9_crossingAt_31 rfl (lv_at hl 0 rfl) ?_
            refine lv_iload hx hb dX9_crossingAt_32 (lv_at hl 4 rfl) ?_
            obtain ⟨x9, hv8, h⟩ := q_b_some h
            refine q_callV hx hb hml hts hown hK hP hS (As := [.int (q_I x2)]) (rest := []) (st1 := [.int (q_I x9)]) cv_RX9_80 (c_Wo_crossesCut l D dA ho r2 hv8) (q_ltW0 ho) (q_kdW_0 ho) rfl ⟨rfl, rfl, Nat.le_of_ble_eq_true rfl, Nat.le_of_ble_eq_true rfl⟩ ⟨Nat.le_refl _, Nat.le_refl _⟩ rfl hl.1 rfl (Nat.le_of_ble_eq_true rfl) rfl (fun _ g => g) dX9_crossingAt_34 ?_
            clear hP hS hv8; intro H locs r9 hP hS _
            refine q_zeq hx hb r9 (tgt := 51) dX9_crossingAt_37 (by decide) h ?_ ?_
            · clear h; intro g12 h
              exact hj51 x1 _ _ _ r1 hP hS (lv_sub hl [0, 1, 2, 3, 4] rfl) h
            · clear h; intro g12 h
              refine lv_iload_n hx hb dX9_crossingAt_40 rfl (lv_at hl 3 rfl) ?_
              refine lv_iload_n hx hb dX9_crossingAt_41 rfl (lv_at hl 2 rfl) ?_
              refine q_cne hx hb r1 ra1 (tgt := 48) dX9_crossingAt_42 (by decide) h ?_ ?_
              · clear h; intro g11 h
                exact hk45 x2 _ _ _ r2 hP hS (lv_sub hl [4] rfl) h
              · clear h; intro g11 h
                refine q_iinc (k := 3) (lv' := fun t => [(3, .int (q_I t)), (0, .ref (z + o)), (1, .int (q_I a0)), (2, .int (q_I a1)), (4, .int (q_I x2))]) hx hb dX9_crossingAt_48 hl rfl (by decide) (fun _ => rfl) h ?_
                clear h hl; intro x10 ls r10 hl h
                exact hj51 x10 _ _ _ r10 hP hS (lv_sub hl [1, 2, 3, 0, 4] rfl) h
          · clear h; intro g13 h
            exact hj51 x1 _ _ _ r1 hP hS (lv_sub hl [0, 1, 2, 3, 4] rfl) h
  refine L5 _ _ ?_ ?_  _ 0 0 _ _ _ (q_r 0 rfl) (q_r 0 rfl) hP hS (lv_sub hl [2, 3, 4, 1, 0] rfl) h
  · clear h hl hP hS; intro x3 H locs ls r3 hP hS hl h
    refine lv_iload hx hb dX9_crossingAt_45 (lv_at hl 0 rfl) ?_
    rw [← hQ]
    exact q_ret1 hx hb hr hlocks hP hS r3 h dX9_crossingAt_47
  · clear h hl hP hS; intro  H locs ls  hP hS hl h
    refine lv_iconst (v := q_I (-1)) hx hb dX9_crossingAt_57 rfl ?_
    rw [← hQ]
    exact q_ret1 hx hb hr hlocks hP hS (q_r (-1) rfl) h dX9_crossingAt_58
set_option maxHeartbeats 4000000 in
set_option maxRecDepth 100000 in
theorem c_CR_inTransit (l : Launch) (D : va_G) (dA : Nat → ClassId) {z sz : Nat} {N : Nat} {a0 : Int} (ra0 : q_R a0) {a1 : Int} (ra1 : q_R a1) {a2 : Int} (ra2 : q_R a2) {a3 : Int} (ra3 : q_R a3) {μ : q_M} {xo : Int} (h : f_CR_inTransit N a0 a1 a2 a3 μ = some xo) : Met l yX10_inTransit (q_wc yX10_inTransit cX10_inTransit 6 (some .int)) ({ frames := 4, cells := 0, slots := 0, locals := 89 } : Room) (va_Pc [.ref (z + 0), .int (q_I a0), .int (q_I a1), .int (q_I a2), .int (q_I a3)] (q_B (q_P D dA q_kdC q_rhoC 77 z sz μ) D dA)) (q_Q (some (.int (q_I xo))) (q_R xo) (q_P D dA q_kdC q_rhoC 77 z sz μ) (q_A z 77)) 0 0 (q_A z 77) := by
  refine Met.ofW (cc := cX10_inTransit) (maxL := 6) (ret := (some .int)) (by decide) rfl ?_
  intro p e s m args below meth c s₁ B hml hv
  obtain ⟨hargs, hP, hK⟩ := hv
  have hx := B.exec
  have hb := B.bytes
  have hr := B.returns
  have hts : ∀ w ∈ q_W, w.before args s = true := fun w hw => atoms_spec (ws := q_wc yX10_inTransit cX10_inTransit 6 (some .int)) B.pre w (List.mem_cons_of_mem _ hw)
  have hown : s.vm.findClass RX10 = some m.cls := findClass_of_methodNamed B.named
  have hlocks := B.notSynchronized
  have hS : va_S (q_A z 77) s.heap s.heap [] := va_S.rf
  have hA : ∀ k, k < 77 → q_A z 77 (z + k) := fun k hk => ⟨Nat.le_add_right z k, Nat.add_lt_add_left hk z⟩
  have hl := lv_entry [.ref (z + 0), .int (q_I a0), .int (q_I a1), .int (q_I a2), .int (q_I a3)] (n := 6) (Nat.le_of_ble_eq_true rfl)
  refine W.eq (by rw [hargs, lg_entry_eq]) ?_
  generalize (lg_sl [.ref (z + 0), .int (q_I a0), .int (q_I a1), .int (q_I a2), .int (q_I a3)] ++ List.replicate (6 - (lg_sl [.ref (z + 0), .int (q_I a0), .int (q_I a1), .int (q_I a2), .int (q_I a3)]).length) Slot.unset).toArray = ls at hl ⊢
  have hl : lv_has ls 6 [(0, .ref (z + 0)), (1, .int (q_I a0)), (2, .int (q_I a1)), (3, .int (q_I a2)), (4, .int (q_I a3))] := hl
  generalize hQ : MQ below _ args s 0 0 _ = Qf
  change W p l e ({ frames := 4, cells := 0, slots := 0, locals := 89 } : Room) s m args below meth c s.heap [] 0 0 Qf (F0 m 0 ls [])
  unfold f_CR_inTransit at h
  refine lv_aload_n hx hb dX10_inTransit_0 rfl (lv_at hl 0 rfl) ?_
  refine lv_iload_n hx hb dX10_inTransit_1 rfl (lv_at hl 1 rfl) ?_
  refine lv_iload_n hx hb dX10_inTransit_2 rfl (lv_at hl 2 rfl) ?_
  obtain ⟨x2, hv1, h⟩ := q_b_some h
  refine q_callV hx hb hml hts hown hK hP hS (As := [.int (q_I a0), .int (q_I a1)]) (rest := []) (st1 := [.int (q_I x2)]) cv_RX10_100 (c_CR_isPair l D dA ra0 ra1 hv1) (Nat.le_of_ble_eq_true rfl) q_kdC_0 rfl ⟨rfl, rfl, Nat.le_of_ble_eq_true rfl, Nat.le_of_ble_eq_true rfl⟩ ⟨Nat.le_refl _, Nat.le_refl _⟩ rfl hl.1 rfl (Nat.le_of_ble_eq_true rfl) rfl (fun _ g => g) dX10_inTransit_3 ?_
  clear hP hS hv1; intro H locs r2 hP hS _
  refine q_zne hx hb r2 (tgt := 12) dX10_inTransit_6 (by decide) h ?_ ?_
  · clear h; intro g24 h
    refine lv_ldc hx hb hown (hts _ ck_RX10_74) dX10_inTransit_9 ?_
    rw [← hQ]
    exact q_ret1 hx hb hr hlocks hP hS (q_r (-100001) rfl) h dX10_inTransit_11
  · clear h; intro g24 h
    refine lv_iload_n hx hb dX10_inTransit_12 rfl (lv_at hl 3 rfl) ?_
    refine lv_iconst (v := q_I (-1)) hx hb dX10_inTransit_13 rfl ?_
    refine q_jn_in h (fun J => ∀ (H : Heap) (locs : List Loc) (ls : Array Slot), q_P D dA q_kdC q_rhoC 77 z sz μ H → va_S (q_A z 77) s.heap H locs → lv_has ls 6 [] → J = some xo → W p l e ({ frames := 4, cells := 0, slots := 0, locals := 89 } : Room) s m args below meth c H locs 0 0 Qf (F0 m 27 ls [])) ?_ ?_
    · clear h hl hP hS; intro  H locs ls  hP hS hl h
      refine lv_ldc hx hb hown (hts _ ck_RX10_62) dX10_inTransit_27 ?_
      rw [← hQ]
      exact q_ret1 hx hb hr hlocks hP hS (q_r (-100002) rfl) h dX10_inTransit_29
    · clear h; intro j27 hj27 h
      refine q_clt hx hb ra2 (q_r (-1) rfl) (tgt := 27) dX10_inTransit_14 (by decide) h ?_ ?_
      · clear h; intro g23 h
        exact hj27  _ _ _ hP hS (lv_sub hl [] rfl) h
      · clear h; intro g23 h
        refine lv_iload hx hb dX10_inTransit_17 (lv_at hl 4 rfl) ?_
        refine lv_iconst (v := q_I 0) hx hb dX10_inTransit_19 rfl ?_
        refine lv_iconst (v := q_I 1) hx hb dX10_inTransit_20 rfl ?_
        obtain ⟨x4, hv3, h⟩ := q_b_some h
        refine q_callS hx hb hml hts hown hK hP hS (As := [.int (q_I a3), .int (q_I 0), .int (q_I 1)]) (rest := []) (st1 := [.int (q_I x4)]) cs_RX10_58 (c_CR_within l D dA ra3 (q_r 0 rfl) (q_r 1 rfl) hv3) ⟨rfl, rfl, Nat.le_of_ble_eq_true rfl, Nat.le_of_ble_eq_true rfl⟩ ⟨Nat.le_refl _, Nat.le_refl _⟩ rfl hl.1 rfl (Nat.le_of_ble_eq_true rfl) rfl (fun _ g => g) dX10_inTransit_21 ?_
        clear hP hS hv3; intro H locs r4 hP hS _
        refine q_zne hx hb r4 (tgt := 30) dX10_inTransit_24 (by decide) h ?_ ?_
        · clear h; intro g22 h
          exact hj27  _ _ _ hP hS (lv_sub hl [] rfl) h
        · clear h; intro g22 h
          refine lv_aload_n hx hb dX10_inTransit_30 rfl (lv_at hl 0 rfl) ?_
          refine q_getR hx hb hts hown hK hP fd_RX10_10 (Nat.le_of_ble_eq_true rfl) q_kdC_0 rfl q_rhC_0_0 dX10_inTransit_31 ?_
          obtain ⟨x6, hv5, h⟩ := q_b_some h
          refine q_callV hx hb hml hts hown hK hP hS (As := []) (rest := []) (st1 := [.int (q_I x6)]) cv_RX10_180 (c_Wo_countOrphans l D dA (Or.inl rfl) hv5) (Nat.le_of_ble_eq_true rfl) q_kdC_1 rfl ⟨rfl, rfl, Nat.le_of_ble_eq_true rfl, Nat.le_of_ble_eq_true rfl⟩ ⟨Nat.le_refl _, Nat.le_refl _⟩ rfl hl.1 rfl (Nat.le_of_ble_eq_true rfl) rfl (fun _ g => g) dX10_inTransit_34 ?_
          clear hP hS hv5; intro H locs r6 hP hS _
          refine q_zle hx hb r6 (tgt := 43) dX10_inTransit_37 (by decide) h ?_ ?_
          · clear h; intro g21 h
            refine lv_iload_n hx hb dX10_inTransit_43 rfl (lv_at hl 3 rfl) ?_
            refine lv_iconst (v := q_I (-1)) hx hb dX10_inTransit_44 rfl ?_
            refine q_cne hx hb ra2 (q_r (-1) rfl) (tgt := 61) dX10_inTransit_45 (by decide) h ?_ ?_
            · clear h; intro g20 h
              refine lv_aload_n hx hb dX10_inTransit_48 rfl (lv_at hl 0 rfl) ?_
              refine q_getR hx hb hts hown hK hP fd_RX10_10 (Nat.le_of_ble_eq_true rfl) q_kdC_0 rfl q_rhC_0_0 dX10_inTransit_49 ?_
              refine lv_iload_n hx hb dX10_inTransit_52 rfl (lv_at hl 1 rfl) ?_
              refine lv_iload_n hx hb dX10_inTransit_53 rfl (lv_at hl 2 rfl) ?_
              obtain ⟨x17, hv16, h⟩ := q_b_some h
              refine q_callS hx hb hml hts hown hK hP hS (As := [.int (q_I a0), .int (q_I a1)]) (rest := [.ref (z + 1)]) (st1 := [.int (q_I x17), .ref (z + 1)]) cs_RX10_115 (c_CR_channelOf l D dA ra0 ra1 hv16) ⟨rfl, rfl, Nat.le_of_ble_eq_true rfl, Nat.le_of_ble_eq_true rfl⟩ ⟨Nat.le_refl _, Nat.le_refl _⟩ rfl hl.1 rfl (Nat.le_of_ble_eq_true rfl) rfl (fun _ g => g) dX10_inTransit_54 ?_
              clear hP hS hv16; intro H locs r17 hP hS _
              obtain ⟨x19, hv18, h⟩ := q_b_some h
              refine q_callV hx hb hml hts hown hK hP hS (As := [.int (q_I x17)]) (rest := []) (st1 := [.int (q_I x19)]) cv_RX10_193 (c_Wo_countCrossing l D dA (Or.inl rfl) r17 hv18) (Nat.le_of_ble_eq_true rfl) q_kdC_1 rfl ⟨rfl, rfl, Nat.le_of_ble_eq_true rfl, Nat.le_of_ble_eq_true rfl⟩ ⟨Nat.le_refl _, Nat.le_refl _⟩ rfl hl.1 rfl (Nat.le_of_ble_eq_true rfl) rfl (fun _ g => g) dX10_inTransit_57 ?_
              clear hP hS hv18; intro H locs r19 hP hS _
              rw [← hQ]
              exact q_ret1 hx hb hr hlocks hP hS r19 h dX10_inTransit_60
            · clear h; intro g20 h
              refine lv_aload_n hx hb dX10_inTransit_61 rfl (lv_at hl 0 rfl) ?_
              refine q_getR hx hb hts hown hK hP fd_RX10_10 (Nat.le_of_ble_eq_true rfl) q_kdC_0 rfl q_rhC_0_0 dX10_inTransit_62 ?_
              refine lv_iload_n hx hb dX10_inTransit_65 rfl (lv_at hl 1 rfl) ?_
              refine lv_iload_n hx hb dX10_inTransit_66 rfl (lv_at hl 2 rfl) ?_
              obtain ⟨x8, hv7, h⟩ := q_b_some h
              refine q_callS hx hb hml hts hown hK hP hS (As := [.int (q_I a0), .int (q_I a1)]) (rest := [.ref (z + 1)]) (st1 := [.int (q_I x8), .ref (z + 1)]) cs_RX10_115 (c_CR_channelOf l D dA ra0 ra1 hv7) ⟨rfl, rfl, Nat.le_of_ble_eq_true rfl, Nat.le_of_ble_eq_true rfl⟩ ⟨Nat.le_refl _, Nat.le_refl _⟩ rfl hl.1 rfl (Nat.le_of_ble_eq_true rfl) rfl (fun _ g => g) dX10_inTransit_67 ?_
              clear hP hS hv7; intro H locs r8 hP hS _
              refine lv_iload_n hx hb dX10_inTransit_70 rfl (lv_at hl 3 rfl) ?_
              obtain ⟨x10, hv9, h⟩ := q_b_some h
              refine q_callV hx hb hml hts hown hK hP hS (As := [.int (q_I x8), .int (q_I a2)]) (rest := []) (st1 := [.int (q_I x10)]) cv_RX10_197 (c_Wo_crossingAt l D dA (Or.inl rfl) r8 ra2 hv9) (Nat.le_of_ble_eq_true rfl) q_kdC_1 rfl ⟨rfl, rfl, Nat.le_of_ble_eq_true rfl, Nat.le_of_ble_eq_true rfl⟩ ⟨Nat.le_refl _, Nat.le_refl _⟩ rfl hl.1 rfl (Nat.le_of_ble_eq_true rfl) rfl (fun _ g => g) dX10_inTransit_71 ?_
              clear hP hS hv9; intro H locs r10 hP hS _
              refine lv_istore (lv' := [(5, .int (q_I x10)), (0, .ref (z + 0)), (1, .int (q_I a0)), (2, .int (q_I a1)), (3, .int (q_I a2)), (4, .int (q_I a3))]) hx hb dX10_inTransit_74 hl (by decide) rfl ?_
              clear hl; intro ls hl
              refine lv_iload hx hb dX10_inTransit_76 (lv_at hl 0 rfl) ?_
              refine lv_iconst (v := q_I (-1)) hx hb dX10_inTransit_78 rfl ?_
              refine q_cne hx hb r10 (q_r (-1) rfl) (tgt := 85) dX10_inTransit_79 (by decide) h ?_ ?_
              · clear h; intro g15 h
                refine lv_ldc hx hb hown (hts _ ck_RX10_176) dX10_inTransit_82 ?_
                rw [← hQ]
                exact q_ret1 hx hb hr hlocks hP hS (q_r (-100006) rfl) h dX10_inTransit_84
              · clear h; intro g15 h
                refine lv_iload hx hb dX10_inTransit_85 (lv_at hl 5 rfl) ?_
                refine q_jn_in h (fun J => ∀ (x11 : Int) (H : Heap) (locs : List Loc) (ls : Array Slot), q_R x11 → q_P D dA q_kdC q_rhoC 77 z sz μ H → va_S (q_A z 77) s.heap H locs → lv_has ls 6 [] → J x11 = some xo → W p l e ({ frames := 4, cells := 0, slots := 0, locals := 89 } : Room) s m args below meth c H locs 0 0 Qf (F0 m 119 ls [.int (q_I x11)])) ?_ ?_
                · clear h hl hP hS; intro x11 H locs ls r11 hP hS hl h
                  rw [← hQ]
                  exact q_ret1 hx hb hr hlocks hP hS r11 h dX10_inTransit_119
                · clear h; intro j119 hj119 h
                  refine q_zne hx hb ra3 (tgt := 106) dX10_inTransit_87 (by decide) h ?_ ?_
                  · clear h; intro g14 h
                    refine lv_aload_n hx hb dX10_inTransit_90 rfl (lv_at hl 1 rfl) ?_
                    refine q_getR hx hb hts hown hK hP fd_RX10_10 (Nat.le_of_ble_eq_true rfl) q_kdC_0 rfl q_rhC_0_0 dX10_inTransit_91 ?_
                    refine q_getR hx hb hts hown hK hP fd_RX10_111 (Nat.le_of_ble_eq_true rfl) q_kdC_1 rfl q_rhC_1_5 dX10_inTransit_94 ?_
                    refine q_getR hx hb hts hown hK hP fd_RX10_200 (Nat.le_of_ble_eq_true rfl) q_kdC_15 rfl q_rhC_15_2 dX10_inTransit_97 ?_
                    refine lv_iload hx hb dX10_inTransit_100 (lv_at hl 0 rfl) ?_
                    refine q_iald hx hb hK hP (Nat.le_of_ble_eq_true rfl) q_kdC_17 r10 dX10_inTransit_102 h ?_
                    clear h; intro x13 r13 h
                    refine lv_goto (tgt := 119) hx hb dX10_inTransit_103 (by decide) ?_
                    exact hj119 x13 _ _ _ r13 hP hS (lv_sub hl [] rfl) h
                  · clear h; intro g14 h
                    refine lv_aload_n hx hb dX10_inTransit_106 rfl (lv_at hl 1 rfl) ?_
                    refine q_getR hx hb hts hown hK hP fd_RX10_10 (Nat.le_of_ble_eq_true rfl) q_kdC_0 rfl q_rhC_0_0 dX10_inTransit_107 ?_
                    refine q_getR hx hb hts hown hK hP fd_RX10_111 (Nat.le_of_ble_eq_true rfl) q_kdC_1 rfl q_rhC_1_5 dX10_inTransit_110 ?_
                    refine q_getR hx hb hts hown hK hP fd_RX10_203 (Nat.le_of_ble_eq_true rfl) q_kdC_15 rfl q_rhC_15_3 dX10_inTransit_113 ?_
                    refine lv_iload hx hb dX10_inTransit_116 (lv_at hl 0 rfl) ?_
                    refine q_iald hx hb hK hP (Nat.le_of_ble_eq_true rfl) q_kdC_18 r10 dX10_inTransit_118 h ?_
                    clear h; intro x12 r12 h
                    exact hj119 x12 _ _ _ r12 hP hS (lv_sub hl [] rfl) h
          · clear h; intro g21 h
            refine lv_ldc hx hb hown (hts _ ck_RX10_192) dX10_inTransit_40 ?_
            rw [← hQ]
            exact q_ret1 hx hb hr hlocks hP hS (q_r (-100004) rfl) h dX10_inTransit_42
set_option maxHeartbeats 4000000 in
set_option maxRecDepth 100000 in
theorem c_RT_append (l : Launch) (D : va_G) (dA : Nat → ClassId) {z sz : Nat} {a0 : Int} (ra0 : q_R a0) {μ : q_M} {μo : q_M} (h : f_RT_append a0 μ = some μo) : Met l yX6_append (q_wc yX6_append cX6_append 2 none) ({ frames := 0, cells := 0, slots := 0, locals := 0 } : Room) (va_Pc [.ref (z + 47), .int (q_I a0)] (q_B (q_P D dA q_kdC q_rhoC 77 z sz μ) D dA)) (q_Q none True (q_P D dA q_kdC q_rhoC 77 z sz μo) (q_A z 77)) 0 0 (q_A z 77) := by
  refine Met.ofW (cc := cX6_append) (maxL := 2) (ret := none) (by decide) rfl ?_
  intro p e s m args below meth c s₁ B hml hv
  obtain ⟨hargs, hP, hK⟩ := hv
  have hx := B.exec
  have hb := B.bytes
  have hr := B.returns
  have hts : ∀ w ∈ q_W, w.before args s = true := fun w hw => atoms_spec (ws := q_wc yX6_append cX6_append 2 none) B.pre w (List.mem_cons_of_mem _ hw)
  have hown : s.vm.findClass RX6 = some m.cls := findClass_of_methodNamed B.named
  have hlocks := B.notSynchronized
  have hS : va_S (q_A z 77) s.heap s.heap [] := va_S.rf
  have hA : ∀ k, k < 77 → q_A z 77 (z + k) := fun k hk => ⟨Nat.le_add_right z k, Nat.add_lt_add_left hk z⟩
  have hl := lv_entry [.ref (z + 47), .int (q_I a0)] (n := 2) (Nat.le_of_ble_eq_true rfl)
  refine W.eq (by rw [hargs, lg_entry_eq]) ?_
  generalize (lg_sl [.ref (z + 47), .int (q_I a0)] ++ List.replicate (2 - (lg_sl [.ref (z + 47), .int (q_I a0)]).length) Slot.unset).toArray = ls at hl ⊢
  have hl : lv_has ls 2 [(0, .ref (z + 47)), (1, .int (q_I a0))] := hl
  generalize hQ : MQ below _ args s 0 0 _ = Qf
  change W p l e ({ frames := 0, cells := 0, slots := 0, locals := 0 } : Room) s m args below meth c s.heap [] 0 0 Qf (F0 m 0 ls [])
  unfold f_RT_append at h
  refine lv_aload_n hx hb dX6_append_0 rfl (lv_at hl 0 rfl) ?_
  refine q_getR hx hb hts hown hK hP fd_RX6_9 (Nat.le_of_ble_eq_true rfl) q_kdC_47 rfl q_rhC_47_1 dX6_append_1 ?_
  refine lv_aload_n hx hb dX6_append_4 rfl (lv_at hl 0 rfl) ?_
  refine q_getI hx hb hts hown hK hP fd_RX6_15 (Nat.le_of_ble_eq_true rfl) q_kdC_47 rfl dX6_append_5 h ?_
  clear h; intro x1 r1 h
  refine lv_iload_n hx hb dX6_append_8 rfl (lv_at hl 1 rfl) ?_
  refine q_cast hx hb hK hP hS hA (Nat.le_of_ble_eq_true rfl) q_kdC_48 r1 ra0 dX6_append_9 h ?_
  clear h hP hS; intro μ2 H locs hP hS h
  refine lv_aload_n hx hb dX6_append_10 rfl (lv_at hl 0 rfl) ?_
  refine lv_dup hx hb dX6_append_11 rfl ?_
  refine q_getI hx hb hts hown hK hP fd_RX6_15 (Nat.le_of_ble_eq_true rfl) q_kdC_47 rfl dX6_append_12 h ?_
  clear h; intro x3 r3 h
  refine lv_iconst (v := q_I 1) hx hb dX6_append_15 rfl ?_
  refine q_iadd hx hb dX6_append_16 h ?_
  clear h; intro x4 r4 h
  refine q_putI hx hb hts hown hK hP hS hA fd_RX6_15 (Nat.le_of_ble_eq_true rfl) q_kdC_47 rfl r4 dX6_append_17 h ?_
  clear h hP hS; intro μ5 H locs hP hS h
  rw [← hQ]
  exact q_retv hx hb hr hlocks hP hS h dX6_append_20
set_option maxHeartbeats 4000000 in
set_option maxRecDepth 100000 in
theorem c_CR_type (l : Launch) (D : va_G) (dA : Nat → ClassId) {z sz : Nat} {a0 : Int} (ra0 : q_R a0) {μ : q_M} {xo : Int} {μo : q_M} (h : f_CR_type a0 μ = some (xo, μo)) : Met l yX10_type (q_wc yX10_type cX10_type 2 (some .int)) ({ frames := 1, cells := 0, slots := 0, locals := 21 } : Room) (va_Pc [.ref (z + 0), .int (q_I a0)] (q_B (q_P D dA q_kdC q_rhoC 77 z sz μ) D dA)) (q_Q (some (.int (q_I xo))) (q_R xo) (q_P D dA q_kdC q_rhoC 77 z sz μo) (q_A z 77)) 0 0 (q_A z 77) := by
  refine Met.ofW (cc := cX10_type) (maxL := 2) (ret := (some .int)) (by decide) rfl ?_
  intro p e s m args below meth c s₁ B hml hv
  obtain ⟨hargs, hP, hK⟩ := hv
  have hx := B.exec
  have hb := B.bytes
  have hr := B.returns
  have hts : ∀ w ∈ q_W, w.before args s = true := fun w hw => atoms_spec (ws := q_wc yX10_type cX10_type 2 (some .int)) B.pre w (List.mem_cons_of_mem _ hw)
  have hown : s.vm.findClass RX10 = some m.cls := findClass_of_methodNamed B.named
  have hlocks := B.notSynchronized
  have hS : va_S (q_A z 77) s.heap s.heap [] := va_S.rf
  have hA : ∀ k, k < 77 → q_A z 77 (z + k) := fun k hk => ⟨Nat.le_add_right z k, Nat.add_lt_add_left hk z⟩
  have hl := lv_entry [.ref (z + 0), .int (q_I a0)] (n := 2) (Nat.le_of_ble_eq_true rfl)
  refine W.eq (by rw [hargs, lg_entry_eq]) ?_
  generalize (lg_sl [.ref (z + 0), .int (q_I a0)] ++ List.replicate (2 - (lg_sl [.ref (z + 0), .int (q_I a0)]).length) Slot.unset).toArray = ls at hl ⊢
  have hl : lv_has ls 2 [(0, .ref (z + 0)), (1, .int (q_I a0))] := hl
  generalize hQ : MQ below _ args s 0 0 _ = Qf
  change W p l e ({ frames := 1, cells := 0, slots := 0, locals := 21 } : Room) s m args below meth c s.heap [] 0 0 Qf (F0 m 0 ls [])
  unfold f_CR_type at h
  refine lv_aload_n hx hb dX10_type_0 rfl (lv_at hl 0 rfl) ?_
  refine q_getR hx hb hts hown hK hP fd_RX10_22 (Nat.le_of_ble_eq_true rfl) q_kdC_0 rfl q_rhC_0_3 dX10_type_1 ?_
  refine q_getI hx hb hts hown hK hP fd_RX10_206 (Nat.le_of_ble_eq_true rfl) q_kdC_47 rfl dX10_type_4 h ?_
  clear h; intro x1 r1 h
  refine lv_bipush (v := q_I 20) hx hb dX10_type_7 (by decide) ?_
  refine q_clt hx hb r1 (q_r 20 rfl) (tgt := 15) dX10_type_9 (by decide) h ?_ ?_
  · clear h; intro g5 h
    refine lv_aload_n hx hb dX10_type_15 rfl (lv_at hl 0 rfl) ?_
    refine q_getR hx hb hts hown hK hP fd_RX10_22 (Nat.le_of_ble_eq_true rfl) q_kdC_0 rfl q_rhC_0_3 dX10_type_16 ?_
    refine lv_iload_n hx hb dX10_type_19 rfl (lv_at hl 1 rfl) ?_
    obtain ⟨μ3, hv2, h⟩ := q_b_some h
    refine q_callV hx hb hml hts hown hK hP hS (As := [.int (q_I a0)]) (rest := []) (st1 := []) cv_RX10_208 (c_RT_append l D dA ra0 hv2) (Nat.le_of_ble_eq_true rfl) q_kdC_47 rfl ⟨rfl, rfl, Nat.le_of_ble_eq_true rfl, Nat.le_of_ble_eq_true rfl⟩ ⟨Nat.le_refl _, Nat.le_refl _⟩ rfl hl.1 rfl (Nat.le_of_ble_eq_true rfl) rfl (fun _ g => g) dX10_type_20 ?_
    clear hP hS hv2; intro H locs _ hP hS _
    refine lv_aload_n hx hb dX10_type_23 rfl (lv_at hl 0 rfl) ?_
    refine q_getR hx hb hts hown hK hP fd_RX10_22 (Nat.le_of_ble_eq_true rfl) q_kdC_0 rfl q_rhC_0_3 dX10_type_24 ?_
    refine q_getI hx hb hts hown hK hP fd_RX10_206 (Nat.le_of_ble_eq_true rfl) q_kdC_47 rfl dX10_type_27 h ?_
    clear h; intro x4 r4 h
    rw [← hQ]
    exact q_ret2 hx hb hr hlocks hP hS r4 h dX10_type_30
  · clear h; intro g5 h
    refine lv_ldc hx hb hown (hts _ ck_RX10_207) dX10_type_12 ?_
    rw [← hQ]
    exact q_ret2 hx hb hr hlocks hP hS (q_r (-100005) rfl) h dX10_type_14
set_option maxHeartbeats 4000000 in
set_option maxRecDepth 100000 in
theorem c_CR_clearText (l : Launch) (D : va_G) (dA : Nat → ClassId) {z sz : Nat} {μ : q_M} {xo : Int} {μo : q_M} (h : f_CR_clearText μ = some (xo, μo)) : Met l yX10_clearText (q_wc yX10_clearText cX10_clearText 2 (some .int)) ({ frames := 0, cells := 0, slots := 0, locals := 0 } : Room) (va_Pc [.ref (z + 0)] (q_B (q_P D dA q_kdC q_rhoC 77 z sz μ) D dA)) (q_Q (some (.int (q_I xo))) (q_R xo) (q_P D dA q_kdC q_rhoC 77 z sz μo) (q_A z 77)) 0 0 (q_A z 77) := by
  refine Met.ofW (cc := cX10_clearText) (maxL := 2) (ret := (some .int)) (by decide) rfl ?_
  intro p e s m args below meth c s₁ B hml hv
  obtain ⟨hargs, hP, hK⟩ := hv
  have hx := B.exec
  have hb := B.bytes
  have hr := B.returns
  have hts : ∀ w ∈ q_W, w.before args s = true := fun w hw => atoms_spec (ws := q_wc yX10_clearText cX10_clearText 2 (some .int)) B.pre w (List.mem_cons_of_mem _ hw)
  have hown : s.vm.findClass RX10 = some m.cls := findClass_of_methodNamed B.named
  have hlocks := B.notSynchronized
  have hS : va_S (q_A z 77) s.heap s.heap [] := va_S.rf
  have hA : ∀ k, k < 77 → q_A z 77 (z + k) := fun k hk => ⟨Nat.le_add_right z k, Nat.add_lt_add_left hk z⟩
  have hl := lv_entry [.ref (z + 0)] (n := 2) (Nat.le_of_ble_eq_true rfl)
  refine W.eq (by rw [hargs, lg_entry_eq]) ?_
  generalize (lg_sl [.ref (z + 0)] ++ List.replicate (2 - (lg_sl [.ref (z + 0)]).length) Slot.unset).toArray = ls at hl ⊢
  have hl : lv_has ls 2 [(0, .ref (z + 0))] := hl
  generalize hQ : MQ below _ args s 0 0 _ = Qf
  change W p l e ({ frames := 0, cells := 0, slots := 0, locals := 0 } : Room) s m args below meth c s.heap [] 0 0 Qf (F0 m 0 ls [])
  unfold f_CR_clearText at h
  refine lv_aload_n hx hb dX10_clearText_0 rfl (lv_at hl 0 rfl) ?_
  refine q_getR hx hb hts hown hK hP fd_RX10_22 (Nat.le_of_ble_eq_true rfl) q_kdC_0 rfl q_rhC_0_3 dX10_clearText_1 ?_
  refine q_getI hx hb hts hown hK hP fd_RX10_206 (Nat.le_of_ble_eq_true rfl) q_kdC_47 rfl dX10_clearText_4 h ?_
  clear h; intro x1 r1 h
  refine lv_istore_n (lv' := [(1, .int (q_I x1)), (0, .ref (z + 0))]) hx hb dX10_clearText_7 rfl hl (by decide) rfl ?_
  clear hl; intro ls hl
  refine lv_aload_n hx hb dX10_clearText_8 rfl (lv_at hl 1 rfl) ?_
  refine q_getR hx hb hts hown hK hP fd_RX10_22 (Nat.le_of_ble_eq_true rfl) q_kdC_0 rfl q_rhC_0_3 dX10_clearText_9 ?_
  refine lv_iconst (v := q_I 0) hx hb dX10_clearText_12 rfl ?_
  refine q_putI hx hb hts hown hK hP hS hA fd_RX10_206 (Nat.le_of_ble_eq_true rfl) q_kdC_47 rfl (q_r 0 rfl) dX10_clearText_13 h ?_
  clear h hP hS; intro μ2 H locs hP hS h
  refine lv_iload_n hx hb dX10_clearText_16 rfl (lv_at hl 0 rfl) ?_
  rw [← hQ]
  exact q_ret2 hx hb hr hlocks hP hS r1 h dX10_clearText_17
set_option maxHeartbeats 4000000 in
set_option maxRecDepth 100000 in
theorem c_RT_characterAt (l : Launch) (D : va_G) (dA : Nat → ClassId) {z sz : Nat} {a0 : Int} (ra0 : q_R a0) {μ : q_M} {xo : Int} (h : f_RT_characterAt a0 μ = some xo) : Met l yX6_characterAt (q_wc yX6_characterAt cX6_characterAt 2 (some .int)) ({ frames := 1, cells := 0, slots := 0, locals := 22 } : Room) (va_Pc [.ref (z + 47), .int (q_I a0)] (q_B (q_P D dA q_kdC q_rhoC 77 z sz μ) D dA)) (q_Q (some (.int (q_I xo))) (q_R xo) (q_P D dA q_kdC q_rhoC 77 z sz μ) (q_A z 77)) 0 0 (q_A z 77) := by
  refine Met.ofW (cc := cX6_characterAt) (maxL := 2) (ret := (some .int)) (by decide) rfl ?_
  intro p e s m args below meth c s₁ B hml hv
  obtain ⟨hargs, hP, hK⟩ := hv
  have hx := B.exec
  have hb := B.bytes
  have hr := B.returns
  have hts : ∀ w ∈ q_W, w.before args s = true := fun w hw => atoms_spec (ws := q_wc yX6_characterAt cX6_characterAt 2 (some .int)) B.pre w (List.mem_cons_of_mem _ hw)
  have hown : s.vm.findClass RX6 = some m.cls := findClass_of_methodNamed B.named
  have hlocks := B.notSynchronized
  have hS : va_S (q_A z 77) s.heap s.heap [] := va_S.rf
  have hA : ∀ k, k < 77 → q_A z 77 (z + k) := fun k hk => ⟨Nat.le_add_right z k, Nat.add_lt_add_left hk z⟩
  have hl := lv_entry [.ref (z + 47), .int (q_I a0)] (n := 2) (Nat.le_of_ble_eq_true rfl)
  refine W.eq (by rw [hargs, lg_entry_eq]) ?_
  generalize (lg_sl [.ref (z + 47), .int (q_I a0)] ++ List.replicate (2 - (lg_sl [.ref (z + 47), .int (q_I a0)]).length) Slot.unset).toArray = ls at hl ⊢
  have hl : lv_has ls 2 [(0, .ref (z + 47)), (1, .int (q_I a0))] := hl
  generalize hQ : MQ below _ args s 0 0 _ = Qf
  change W p l e ({ frames := 1, cells := 0, slots := 0, locals := 22 } : Room) s m args below meth c s.heap [] 0 0 Qf (F0 m 0 ls [])
  unfold f_RT_characterAt at h
  refine lv_iload_n hx hb dX6_characterAt_0 rfl (lv_at hl 1 rfl) ?_
  refine lv_iconst (v := q_I 0) hx hb dX6_characterAt_1 rfl ?_
  refine lv_aload_n hx hb dX6_characterAt_2 rfl (lv_at hl 0 rfl) ?_
  refine q_getI hx hb hts hown hK hP fd_RX6_15 (Nat.le_of_ble_eq_true rfl) q_kdC_47 rfl dX6_characterAt_3 h ?_
  clear h; intro x1 r1 h
  refine lv_iconst (v := q_I 1) hx hb dX6_characterAt_6 rfl ?_
  refine q_isub hx hb dX6_characterAt_7 h ?_
  clear h; intro x2 r2 h
  obtain ⟨x4, hv3, h⟩ := q_b_some h
  refine q_callN hx hb hml hts hown hK hP hS (As := [.int (q_I a0), .int (q_I 0), .int (q_I x2)]) (rest := []) (st1 := [.int (q_I x4)]) cn_RX6_49 (c_CR_within l D dA ra0 (q_r 0 rfl) r2 hv3) ⟨rfl, rfl, Nat.le_of_ble_eq_true rfl, Nat.le_of_ble_eq_true rfl⟩ ⟨Nat.le_refl _, Nat.le_refl _⟩ rfl hl.1 rfl (Nat.le_of_ble_eq_true rfl) rfl (fun _ g => g) dX6_characterAt_8 ?_
  clear hP hS hv3; intro H locs r4 hP hS _
  refine q_jn_in h (fun J => ∀ (x5 : Int) (H : Heap) (locs : List Loc) (ls : Array Slot), q_R x5 → q_P D dA q_kdC q_rhoC 77 z sz μ H → va_S (q_A z 77) s.heap H locs → lv_has ls 2 [] → J x5 = some xo → W p l e ({ frames := 1, cells := 0, slots := 0, locals := 22 } : Room) s m args below meth c H locs 0 0 Qf (F0 m 24 ls [.int (q_I x5)])) ?_ ?_
  · clear h hl hP hS; intro x5 H locs ls r5 hP hS hl h
    rw [← hQ]
    exact q_ret1 hx hb hr hlocks hP hS r5 h dX6_characterAt_24
  · clear h; intro j24 hj24 h
    refine q_zeq hx hb r4 (tgt := 23) dX6_characterAt_11 (by decide) h ?_ ?_
    · clear h; intro g7 h
      refine lv_iconst (v := q_I (-1)) hx hb dX6_characterAt_23 rfl ?_
      exact hj24 ((-1)) _ _ _ (q_r (-1) rfl) hP hS (lv_sub hl [] rfl) h
    · clear h; intro g7 h
      refine lv_aload_n hx hb dX6_characterAt_14 rfl (lv_at hl 0 rfl) ?_
      refine q_getR hx hb hts hown hK hP fd_RX6_9 (Nat.le_of_ble_eq_true rfl) q_kdC_47 rfl q_rhC_47_1 dX6_characterAt_15 ?_
      refine lv_iload_n hx hb dX6_characterAt_18 rfl (lv_at hl 1 rfl) ?_
      refine q_cald hx hb hK hP (Nat.le_of_ble_eq_true rfl) q_kdC_48 ra0 dX6_characterAt_19 h ?_
      clear h; intro x6 r6 h
      refine lv_goto (tgt := 24) hx hb dX6_characterAt_20 (by decide) ?_
      exact hj24 x6 _ _ _ r6 hP hS (lv_sub hl [] rfl) h
set_option maxHeartbeats 4000000 in
set_option maxRecDepth 100000 in
theorem c_RT_subjectFor (l : Launch) (D : va_G) (dA : Nat → ClassId) {z sz : Nat} {a0 : Int} (ra0 : q_R a0) {a1 : Int} (ra1 : q_R a1) {μ : q_M} {xo : Int} (h : f_RT_subjectFor a0 a1 μ = some xo) : Met l yX6_subjectFor (q_wc yX6_subjectFor cX6_subjectFor 3 (some .int)) ({ frames := 1, cells := 0, slots := 0, locals := 22 } : Room) (va_Pc [.ref (z + 47), .int (q_I a0), .int (q_I a1)] (q_B (q_P D dA q_kdC q_rhoC 77 z sz μ) D dA)) (q_Q (some (.int (q_I xo))) (q_R xo) (q_P D dA q_kdC q_rhoC 77 z sz μ) (q_A z 77)) 0 0 (q_A z 77) := by
  refine Met.ofW (cc := cX6_subjectFor) (maxL := 3) (ret := (some .int)) (by decide) rfl ?_
  intro p e s m args below meth c s₁ B hml hv
  obtain ⟨hargs, hP, hK⟩ := hv
  have hx := B.exec
  have hb := B.bytes
  have hr := B.returns
  have hts : ∀ w ∈ q_W, w.before args s = true := fun w hw => atoms_spec (ws := q_wc yX6_subjectFor cX6_subjectFor 3 (some .int)) B.pre w (List.mem_cons_of_mem _ hw)
  have hown : s.vm.findClass RX6 = some m.cls := findClass_of_methodNamed B.named
  have hlocks := B.notSynchronized
  have hS : va_S (q_A z 77) s.heap s.heap [] := va_S.rf
  have hA : ∀ k, k < 77 → q_A z 77 (z + k) := fun k hk => ⟨Nat.le_add_right z k, Nat.add_lt_add_left hk z⟩
  have hl := lv_entry [.ref (z + 47), .int (q_I a0), .int (q_I a1)] (n := 3) (Nat.le_of_ble_eq_true rfl)
  refine W.eq (by rw [hargs, lg_entry_eq]) ?_
  generalize (lg_sl [.ref (z + 47), .int (q_I a0), .int (q_I a1)] ++ List.replicate (3 - (lg_sl [.ref (z + 47), .int (q_I a0), .int (q_I a1)]).length) Slot.unset).toArray = ls at hl ⊢
  have hl : lv_has ls 3 [(0, .ref (z + 47)), (1, .int (q_I a0)), (2, .int (q_I a1))] := hl
  generalize hQ : MQ below _ args s 0 0 _ = Qf
  change W p l e ({ frames := 1, cells := 0, slots := 0, locals := 22 } : Room) s m args below meth c s.heap [] 0 0 Qf (F0 m 0 ls [])
  unfold f_RT_subjectFor at h
  refine lv_iload_n hx hb dX6_subjectFor_0 rfl (lv_at hl 1 rfl) ?_
  refine lv_bipush (v := q_I 42) hx hb dX6_subjectFor_1 (by decide) ?_
  refine q_cne hx hb ra0 (q_r 42 rfl) (tgt := 9) dX6_subjectFor_3 (by decide) h ?_ ?_
  · clear h; intro g9 h
    refine lv_bipush (v := q_I 8) hx hb dX6_subjectFor_6 (by decide) ?_
    rw [← hQ]
    exact q_ret1 hx hb hr hlocks hP hS (q_r 8 rfl) h dX6_subjectFor_8
  · clear h; intro g9 h
    refine lv_iload_n hx hb dX6_subjectFor_9 rfl (lv_at hl 1 rfl) ?_
    refine lv_bipush (v := q_I 126) hx hb dX6_subjectFor_10 (by decide) ?_
    refine q_cne hx hb ra0 (q_r 126 rfl) (tgt := 18) dX6_subjectFor_12 (by decide) h ?_ ?_
    · clear h; intro g8 h
      refine lv_bipush (v := q_I 9) hx hb dX6_subjectFor_15 (by decide) ?_
      rw [← hQ]
      exact q_ret1 hx hb hr hlocks hP hS (q_r 9 rfl) h dX6_subjectFor_17
    · clear h; intro g8 h
      refine lv_iload_n hx hb dX6_subjectFor_18 rfl (lv_at hl 1 rfl) ?_
      refine lv_bipush (v := q_I 48) hx hb dX6_subjectFor_19 (by decide) ?_
      refine lv_bipush (v := q_I 48) hx hb dX6_subjectFor_21 (by decide) ?_
      refine lv_iload_n hx hb dX6_subjectFor_23 rfl (lv_at hl 2 rfl) ?_
      refine q_iadd hx hb dX6_subjectFor_24 h ?_
      clear h; intro x1 r1 h
      refine lv_iconst (v := q_I 1) hx hb dX6_subjectFor_25 rfl ?_
      refine q_isub hx hb dX6_subjectFor_26 h ?_
      clear h; intro x2 r2 h
      obtain ⟨x4, hv3, h⟩ := q_b_some h
      refine q_callN hx hb hml hts hown hK hP hS (As := [.int (q_I a0), .int (q_I 48), .int (q_I x2)]) (rest := []) (st1 := [.int (q_I x4)]) cn_RX6_49 (c_CR_within l D dA ra0 (q_r 48 rfl) r2 hv3) ⟨rfl, rfl, Nat.le_of_ble_eq_true rfl, Nat.le_of_ble_eq_true rfl⟩ ⟨Nat.le_refl _, Nat.le_refl _⟩ rfl hl.1 rfl (Nat.le_of_ble_eq_true rfl) rfl (fun _ g => g) dX6_subjectFor_27 ?_
      clear hP hS hv3; intro H locs r4 hP hS _
      refine q_jn_in h (fun J => ∀ (x5 : Int) (H : Heap) (locs : List Loc) (ls : Array Slot), q_R x5 → q_P D dA q_kdC q_rhoC 77 z sz μ H → va_S (q_A z 77) s.heap H locs → lv_has ls 3 [] → J x5 = some xo → W p l e ({ frames := 1, cells := 0, slots := 0, locals := 22 } : Room) s m args below meth c H locs 0 0 Qf (F0 m 41 ls [.int (q_I x5)])) ?_ ?_
      · clear h hl hP hS; intro x5 H locs ls r5 hP hS hl h
        rw [← hQ]
        exact q_ret1 hx hb hr hlocks hP hS r5 h dX6_subjectFor_41
      · clear h; intro j41 hj41 h
        refine q_zeq hx hb r4 (tgt := 40) dX6_subjectFor_30 (by decide) h ?_ ?_
        · clear h; intro g7 h
          refine lv_iconst (v := q_I (-1)) hx hb dX6_subjectFor_40 rfl ?_
          exact hj41 ((-1)) _ _ _ (q_r (-1) rfl) hP hS (lv_sub hl [] rfl) h
        · clear h; intro g7 h
          refine lv_iload_n hx hb dX6_subjectFor_33 rfl (lv_at hl 1 rfl) ?_
          refine lv_bipush (v := q_I 48) hx hb dX6_subjectFor_34 (by decide) ?_
          refine q_isub hx hb dX6_subjectFor_36 h ?_
          clear h; intro x6 r6 h
          refine lv_goto (tgt := 41) hx hb dX6_subjectFor_37 (by decide) ?_
          exact hj41 x6 _ _ _ r6 hP hS (lv_sub hl [] rfl) h
set_option maxHeartbeats 4000000 in
set_option maxRecDepth 100000 in
theorem c_RT_relationFor (l : Launch) (D : va_G) (dA : Nat → ClassId) {z sz : Nat} {a0 : Int} (ra0 : q_R a0) {μ : q_M} {xo : Int} (h : f_RT_relationFor a0 μ = some xo) : Met l yX6_relationFor (q_wc yX6_relationFor cX6_relationFor 2 (some .int)) ({ frames := 0, cells := 0, slots := 0, locals := 0 } : Room) (va_Pc [.ref (z + 47), .int (q_I a0)] (q_B (q_P D dA q_kdC q_rhoC 77 z sz μ) D dA)) (q_Q (some (.int (q_I xo))) (q_R xo) (q_P D dA q_kdC q_rhoC 77 z sz μ) (q_A z 77)) 0 0 (q_A z 77) := by
  refine Met.ofW (cc := cX6_relationFor) (maxL := 2) (ret := (some .int)) (by decide) rfl ?_
  intro p e s m args below meth c s₁ B hml hv
  obtain ⟨hargs, hP, hK⟩ := hv
  have hx := B.exec
  have hb := B.bytes
  have hr := B.returns
  have hts : ∀ w ∈ q_W, w.before args s = true := fun w hw => atoms_spec (ws := q_wc yX6_relationFor cX6_relationFor 2 (some .int)) B.pre w (List.mem_cons_of_mem _ hw)
  have hown : s.vm.findClass RX6 = some m.cls := findClass_of_methodNamed B.named
  have hlocks := B.notSynchronized
  have hS : va_S (q_A z 77) s.heap s.heap [] := va_S.rf
  have hA : ∀ k, k < 77 → q_A z 77 (z + k) := fun k hk => ⟨Nat.le_add_right z k, Nat.add_lt_add_left hk z⟩
  have hl := lv_entry [.ref (z + 47), .int (q_I a0)] (n := 2) (Nat.le_of_ble_eq_true rfl)
  refine W.eq (by rw [hargs, lg_entry_eq]) ?_
  generalize (lg_sl [.ref (z + 47), .int (q_I a0)] ++ List.replicate (2 - (lg_sl [.ref (z + 47), .int (q_I a0)]).length) Slot.unset).toArray = ls at hl ⊢
  have hl : lv_has ls 2 [(0, .ref (z + 47)), (1, .int (q_I a0))] := hl
  generalize hQ : MQ below _ args s 0 0 _ = Qf
  change W p l e ({ frames := 0, cells := 0, slots := 0, locals := 0 } : Room) s m args below meth c s.heap [] 0 0 Qf (F0 m 0 ls [])
  unfold f_RT_relationFor at h
  refine lv_iload_n hx hb dX6_relationFor_0 rfl (lv_at hl 1 rfl) ?_
  by_cases g1 : a0 = 60
  · rw [if_pos g1] at h
    refine q_tabIn (tgt := 28) (v := 60) hx hb ra0 g1 dX6_relationFor_1 (by decide) (by decide) rfl (by decide) ?_
    refine lv_iconst (v := q_I 0) hx hb dX6_relationFor_28 rfl ?_
    rw [← hQ]
    exact q_ret1 hx hb hr hlocks hP hS (q_r 0 rfl) h dX6_relationFor_29
  · rw [if_neg g1] at h
    by_cases g2 : a0 = 61
    · rw [if_pos g2] at h
      refine q_tabIn (tgt := 32) (v := 61) hx hb ra0 g2 dX6_relationFor_1 (by decide) (by decide) rfl (by decide) ?_
      refine lv_iconst (v := q_I 2) hx hb dX6_relationFor_32 rfl ?_
      rw [← hQ]
      exact q_ret1 hx hb hr hlocks hP hS (q_r 2 rfl) h dX6_relationFor_33
    · rw [if_neg g2] at h
      by_cases g3 : a0 = 62
      · rw [if_pos g3] at h
        refine q_tabIn (tgt := 30) (v := 62) hx hb ra0 g3 dX6_relationFor_1 (by decide) (by decide) rfl (by decide) ?_
        refine lv_iconst (v := q_I 1) hx hb dX6_relationFor_30 rfl ?_
        rw [← hQ]
        exact q_ret1 hx hb hr hlocks hP hS (q_r 1 rfl) h dX6_relationFor_31
      · rw [if_neg g3] at h
        refine q_tabOut (tgt := 34) hx hb ra0 dX6_relationFor_1 (by omega) (by decide) ?_
        refine lv_iconst (v := q_I (-1)) hx hb dX6_relationFor_34 rfl ?_
        rw [← hQ]
        exact q_ret1 hx hb hr hlocks hP hS (q_r (-1) rfl) h dX6_relationFor_35
set_option maxHeartbeats 4000000 in
set_option maxRecDepth 100000 in
theorem c_RT_readNumber (l : Launch) (D : va_G) (dA : Nat → ClassId) {z sz : Nat} {N : Nat} {a0 : Int} (ra0 : q_R a0) {μ : q_M} {xo : Int} {μo : q_M} (h : f_RT_readNumber N a0 μ = some (xo, μo)) : Met l yX6_readNumber (q_wc yX6_readNumber cX6_readNumber 3 (some .int)) ({ frames := 2, cells := 0, slots := 0, locals := 43 } : Room) (va_Pc [.ref (z + 47), .int (q_I a0)] (q_B (q_P D dA q_kdC q_rhoC 77 z sz μ) D dA)) (q_Q (some (.int (q_I xo))) (q_R xo) (q_P D dA q_kdC q_rhoC 77 z sz μo) (q_A z 77)) 0 0 (q_A z 77) := by
  refine Met.ofW (cc := cX6_readNumber) (maxL := 3) (ret := (some .int)) (by decide) rfl ?_
  intro p e s m args below meth c s₁ B hml hv
  obtain ⟨hargs, hP, hK⟩ := hv
  have hx := B.exec
  have hb := B.bytes
  have hr := B.returns
  have hts : ∀ w ∈ q_W, w.before args s = true := fun w hw => atoms_spec (ws := q_wc yX6_readNumber cX6_readNumber 3 (some .int)) B.pre w (List.mem_cons_of_mem _ hw)
  have hown : s.vm.findClass RX6 = some m.cls := findClass_of_methodNamed B.named
  have hlocks := B.notSynchronized
  have hS : va_S (q_A z 77) s.heap s.heap [] := va_S.rf
  have hA : ∀ k, k < 77 → q_A z 77 (z + k) := fun k hk => ⟨Nat.le_add_right z k, Nat.add_lt_add_left hk z⟩
  have hl := lv_entry [.ref (z + 47), .int (q_I a0)] (n := 3) (Nat.le_of_ble_eq_true rfl)
  refine W.eq (by rw [hargs, lg_entry_eq]) ?_
  generalize (lg_sl [.ref (z + 47), .int (q_I a0)] ++ List.replicate (3 - (lg_sl [.ref (z + 47), .int (q_I a0)]).length) Slot.unset).toArray = ls at hl ⊢
  have hl : lv_has ls 3 [(0, .ref (z + 47)), (1, .int (q_I a0))] := hl
  generalize hQ : MQ below _ args s 0 0 _ = Qf
  change W p l e ({ frames := 2, cells := 0, slots := 0, locals := 43 } : Room) s m args below meth c s.heap [] 0 0 Qf (F0 m 0 ls [])
  unfold f_RT_readNumber at h
  refine lv_iload_n hx hb dX6_readNumber_0 rfl (lv_at hl 1 rfl) ?_
  refine lv_istore_n (lv' := [(2, .int (q_I a0)), (0, .ref (z + 47)), (1, .int (q_I a0))]) hx hb dX6_readNumber_1 rfl hl (by decide) rfl ?_
  clear hl; intro ls hl
  refine lv_aload_n hx hb dX6_readNumber_2 rfl (lv_at hl 1 rfl) ?_
  refine lv_iconst (v := q_I 0) hx hb dX6_readNumber_3 rfl ?_
  refine q_putI hx hb hts hown hK hP hS hA fd_RX6_46 (Nat.le_of_ble_eq_true rfl) q_kdC_47 rfl (q_r 0 rfl) dX6_readNumber_4 h ?_
  clear h hP hS; intro μ1 H locs hP hS h
  have L7 : ∀ (k55 : Int → q_M → Option (Int × q_M)), (∀ (x4 : Int) (μ5 : q_M) (H : Heap) (locs : List Loc) (ls : Array Slot), q_R x4 → q_P D dA q_kdC q_rhoC 77 z sz μ5 H → va_S (q_A z 77) s.heap H locs → lv_has ls 3 [(0, .ref (z + 47)), (1, .int (q_I a0)), (2, .int (q_I x4))] → k55 x4 μ5 = some (xo, μo) → W p l e ({ frames := 2, cells := 0, slots := 0, locals := 43 } : Room) s m args below meth c H locs 0 0 Qf (F0 m 55 ls [])) → ∀ (nf7 : Nat) (x2 : Int) (μ3 : q_M) (H : Heap) (locs : List Loc) (ls : Array Slot), q_R x2 → q_P D dA q_kdC q_rhoC 77 z sz μ3 H → va_S (q_A z 77) s.heap H locs → lv_has ls 3 [(0, .ref (z + 47)), (1, .int (q_I a0)), (2, .int (q_I x2))] → f_RT_readNumber_L7 a0 k55 nf7 x2 μ3 = some (xo, μo) → W p l e ({ frames := 2, cells := 0, slots := 0, locals := 43 } : Room) s m args below meth c H locs 0 0 Qf (F0 m 7 ls []) := by
    clear h hl hP hS
    intro k55 hk55 nf7
    induction nf7 with
    | zero =>
      intro x2 μ3 H locs ls r2 hP hS hl h
      rw [f_RT_readNumber_L7] at h
      cases h
    | succ nf7 ih7 =>
      intro x2 μ3 H locs ls r2 hP hS hl h
      rw [f_RT_readNumber_L7] at h
      refine lv_iload_n hx hb dX6_readNumber_7 rfl (lv_at hl 2 rfl) ?_
      refine lv_iload_n hx hb dX6_readNumber_8 rfl (lv_at hl 1 rfl) ?_
      refine lv_iconst (v := q_I 4) hx hb dX6_readNumber_9 rfl ?_
      refine q_iadd hx hb dX6_readNumber_10 h ?_
      clear h; intro x6 r6 h
      refine q_cge hx hb r2 r6 (tgt := 55) dX6_readNumber_11 (by decide) h ?_ ?_
      · clear h; intro g20 h
        exact hk55 x2 μ3 _ _ _ r2 hP hS (lv_sub hl [0, 1, 2] rfl) h
      · clear h; intro g20 h
        refine lv_aload_n hx hb dX6_readNumber_14 rfl (lv_at hl 0 rfl) ?_
        refine lv_iload_n hx hb dX6_readNumber_15 rfl (lv_at hl 2 rfl) ?_
        obtain ⟨x8, hv7, h⟩ := q_b_some h
        refine q_callV hx hb hml hts hown hK hP hS (As := [.int (q_I x2)]) (rest := []) (st1 := [.int (q_I x8)]) cv_RX6_19 (c_RT_characterAt l D dA r2 hv7) (Nat.le_of_ble_eq_true rfl) q_kdC_47 rfl ⟨rfl, rfl, Nat.le_of_ble_eq_true rfl, Nat.le_of_ble_eq_true rfl⟩ ⟨Nat.le_refl _, Nat.le_refl _⟩ rfl hl.1 rfl (Nat.le_of_ble_eq_true rfl) rfl (fun _ g => g) dX6_readNumber_16 ?_
        clear hP hS hv7; intro H locs r8 hP hS _
        refine lv_bipush (v := q_I 48) hx hb dX6_readNumber_19 (by decide) ?_
        refine lv_bipush (v := q_I 57) hx hb dX6_readNumber_21 (by decide) ?_
        obtain ⟨x10, hv9, h⟩ := q_b_some h
        refine q_callN hx hb hml hts hown hK hP hS (As := [.int (q_I x8), .int (q_I 48), .int (q_I 57)]) (rest := []) (st1 := [.int (q_I x10)]) cn_RX6_49 (c_CR_within l D dA r8 (q_r 48 rfl) (q_r 57 rfl) hv9) ⟨rfl, rfl, Nat.le_of_ble_eq_true rfl, Nat.le_of_ble_eq_true rfl⟩ ⟨Nat.le_refl _, Nat.le_refl _⟩ rfl hl.1 rfl (Nat.le_of_ble_eq_true rfl) rfl (fun _ g => g) dX6_readNumber_23 ?_
        clear hP hS hv9; intro H locs r10 hP hS _
        refine q_zeq hx hb r10 (tgt := 55) dX6_readNumber_26 (by decide) h ?_ ?_
        · clear h; intro g19 h
          exact hk55 x2 μ3 _ _ _ r2 hP hS (lv_sub hl [0, 1, 2] rfl) h
        · clear h; intro g19 h
          refine lv_aload_n hx hb dX6_readNumber_29 rfl (lv_at hl 0 rfl) ?_
          refine lv_aload_n hx hb dX6_readNumber_30 rfl (lv_at hl 0 rfl) ?_
          refine q_getI hx hb hts hown hK hP fd_RX6_46 (Nat.le_of_ble_eq_true rfl) q_kdC_47 rfl dX6_readNumber_31 h ?_
          clear h; intro x11 r11 h
          refine lv_bipush (v := q_I 10) hx hb dX6_readNumber_34 (by decide) ?_
          refine q_imul hx hb dX6_readNumber_36 h ?_
          clear h; intro x12 r12 h
          refine lv_aload_n hx hb dX6_readNumber_37 rfl (lv_at hl 0 rfl) ?_
          refine lv_iload_n hx hb dX6_readNumber_38 rfl (lv_at hl 2 rfl) ?_
          obtain ⟨x14, hv13, h⟩ := q_b_some h
          refine q_callV hx hb hml hts hown hK hP hS (As := [.int (q_I x2)]) (rest := [.int (q_I x12), .ref (z + 47)]) (st1 := [.int (q_I x14), .int (q_I x12), .ref (z + 47)]) cv_RX6_19 (c_RT_characterAt l D dA r2 hv13) (Nat.le_of_ble_eq_true rfl) q_kdC_47 rfl ⟨rfl, rfl, Nat.le_of_ble_eq_true rfl, Nat.le_of_ble_eq_true rfl⟩ ⟨Nat.le_refl _, Nat.le_refl _⟩ rfl hl.1 rfl (Nat.le_of_ble_eq_true rfl) rfl (fun _ g => g) dX6_readNumber_39 ?_
          clear hP hS hv13; intro H locs r14 hP hS _
          refine q_iadd hx hb dX6_readNumber_42 h ?_
          clear h; intro x15 r15 h
          refine lv_bipush (v := q_I 48) hx hb dX6_readNumber_43 (by decide) ?_
          refine q_isub hx hb dX6_readNumber_45 h ?_
          clear h; intro x16 r16 h
          refine q_putI hx hb hts hown hK hP hS hA fd_RX6_46 (Nat.le_of_ble_eq_true rfl) q_kdC_47 rfl r16 dX6_readNumber_46 h ?_
          clear h hP hS; intro μ17 H locs hP hS h
          refine q_iinc (k := 2) (lv' := fun t => [(2, .int (q_I t)), (0, .ref (z + 47)), (1, .int (q_I a0))]) hx hb dX6_readNumber_49 hl rfl (by decide) (fun _ => rfl) h ?_
          clear h hl; intro x18 ls r18 hl h
          refine lv_goto (tgt := 7) hx hb dX6_readNumber_52 (by decide) ?_
          exact ih7 x18 μ17 _ _ _ r18 hP hS (lv_sub hl [1, 2, 0] rfl) h
  refine L7 _ ?_  _ a0 μ1 _ _ _ ra0 hP hS (lv_sub hl [1, 2, 0] rfl) h
  · clear h hl hP hS; intro x4 μ5 H locs ls r4 hP hS hl h
    refine lv_iload_n hx hb dX6_readNumber_55 rfl (lv_at hl 2 rfl) ?_
    refine lv_iload_n hx hb dX6_readNumber_56 rfl (lv_at hl 1 rfl) ?_
    refine q_jn_in h (fun J => ∀ (x21 : Int) (H : Heap) (locs : List Loc) (ls : Array Slot), q_R x21 → q_P D dA q_kdC q_rhoC 77 z sz μ5 H → va_S (q_A z 77) s.heap H locs → lv_has ls 3 [] → J x21 = some (xo, μo) → W p l e ({ frames := 2, cells := 0, slots := 0, locals := 43 } : Room) s m args below meth c H locs 0 0 Qf (F0 m 73 ls [.int (q_I x21)])) ?_ ?_
    · clear h hl hP hS; intro x21 H locs ls r21 hP hS hl h
      rw [← hQ]
      exact q_ret2 hx hb hr hlocks hP hS r21 h dX6_readNumber_73
    · clear h; intro j73 hj73 h
      refine q_jn_in h (fun J => ∀ (H : Heap) (locs : List Loc) (ls : Array Slot), q_P D dA q_kdC q_rhoC 77 z sz μ5 H → va_S (q_A z 77) s.heap H locs → lv_has ls 3 [(2, .int (q_I x4))] → J = some (xo, μo) → W p l e ({ frames := 2, cells := 0, slots := 0, locals := 43 } : Room) s m args below meth c H locs 0 0 Qf (F0 m 72 ls [])) ?_ ?_
      · clear h hl hP hS; intro  H locs ls  hP hS hl h
        refine lv_iload_n hx hb dX6_readNumber_72 rfl (lv_at hl 0 rfl) ?_
        exact hj73 x4 _ _ _ r4 hP hS (lv_sub hl [] rfl) h
      · clear h; intro j72 hj72 h
        refine q_cle hx hb r4 ra0 (tgt := 72) dX6_readNumber_57 (by decide) h ?_ ?_
        · clear h; intro g24 h
          exact hj72  _ _ _ hP hS (lv_sub hl [2] rfl) h
        · clear h; intro g24 h
          refine lv_iload_n hx hb dX6_readNumber_60 rfl (lv_at hl 2 rfl) ?_
          refine lv_aload_n hx hb dX6_readNumber_61 rfl (lv_at hl 0 rfl) ?_
          refine q_getI hx hb hts hown hK hP fd_RX6_15 (Nat.le_of_ble_eq_true rfl) q_kdC_47 rfl dX6_readNumber_62 h ?_
          clear h; intro x22 r22 h
          refine q_cne hx hb r4 r22 (tgt := 72) dX6_readNumber_65 (by decide) h ?_ ?_
          · clear h; intro g23 h
            refine lv_iconst (v := q_I (-1)) hx hb dX6_readNumber_68 rfl ?_
            refine lv_goto (tgt := 73) hx hb dX6_readNumber_69 (by decide) ?_
            exact hj73 ((-1)) _ _ _ (q_r (-1) rfl) hP hS (lv_sub hl [] rfl) h
          · clear h; intro g23 h
            exact hj72  _ _ _ hP hS (lv_sub hl [2] rfl) h
set_option maxHeartbeats 4000000 in
set_option maxRecDepth 100000 in
theorem c_RT_read (l : Launch) (D : va_G) (dA : Nat → ClassId) {z sz : Nat} {N : Nat} {a0 : Int} (ra0 : q_R a0) {μ : q_M} {xo : Int} {μo : q_M} (h : f_RT_read N a0 μ = some (xo, μo)) : Met l yX6_read (q_wc yX6_read cX6_read 2 (some .int)) ({ frames := 3, cells := 0, slots := 0, locals := 65 } : Room) (va_Pc [.ref (z + 47), .int (q_I a0)] (q_B (q_P D dA q_kdC q_rhoC 77 z sz μ) D dA)) (q_Q (some (.int (q_I xo))) (q_R xo) (q_P D dA q_kdC q_rhoC 77 z sz μo) (q_A z 77)) 0 0 (q_A z 77) := by
  refine Met.ofW (cc := cX6_read) (maxL := 2) (ret := (some .int)) (by decide) rfl ?_
  intro p e s m args below meth c s₁ B hml hv
  obtain ⟨hargs, hP, hK⟩ := hv
  have hx := B.exec
  have hb := B.bytes
  have hr := B.returns
  have hts : ∀ w ∈ q_W, w.before args s = true := fun w hw => atoms_spec (ws := q_wc yX6_read cX6_read 2 (some .int)) B.pre w (List.mem_cons_of_mem _ hw)
  have hown : s.vm.findClass RX6 = some m.cls := findClass_of_methodNamed B.named
  have hlocks := B.notSynchronized
  have hS : va_S (q_A z 77) s.heap s.heap [] := va_S.rf
  have hA : ∀ k, k < 77 → q_A z 77 (z + k) := fun k hk => ⟨Nat.le_add_right z k, Nat.add_lt_add_left hk z⟩
  have hl := lv_entry [.ref (z + 47), .int (q_I a0)] (n := 2) (Nat.le_of_ble_eq_true rfl)
  refine W.eq (by rw [hargs, lg_entry_eq]) ?_
  generalize (lg_sl [.ref (z + 47), .int (q_I a0)] ++ List.replicate (2 - (lg_sl [.ref (z + 47), .int (q_I a0)]).length) Slot.unset).toArray = ls at hl ⊢
  have hl : lv_has ls 2 [(0, .ref (z + 47)), (1, .int (q_I a0))] := hl
  generalize hQ : MQ below _ args s 0 0 _ = Qf
  change W p l e ({ frames := 3, cells := 0, slots := 0, locals := 65 } : Room) s m args below meth c s.heap [] 0 0 Qf (F0 m 0 ls [])
  unfold f_RT_read at h
  refine lv_aload_n hx hb dX6_read_0 rfl (lv_at hl 0 rfl) ?_
  refine lv_aload_n hx hb dX6_read_1 rfl (lv_at hl 0 rfl) ?_
  refine lv_aload_n hx hb dX6_read_2 rfl (lv_at hl 0 rfl) ?_
  refine lv_iconst (v := q_I 0) hx hb dX6_read_3 rfl ?_
  obtain ⟨x2, hv1, h⟩ := q_b_some h
  refine q_callV hx hb hml hts hown hK hP hS (As := [.int (q_I 0)]) (rest := [.ref (z + 47), .ref (z + 47)]) (st1 := [.int (q_I x2), .ref (z + 47), .ref (z + 47)]) cv_RX6_19 (c_RT_characterAt l D dA (q_r 0 rfl) hv1) (Nat.le_of_ble_eq_true rfl) q_kdC_47 rfl ⟨rfl, rfl, Nat.le_of_ble_eq_true rfl, Nat.le_of_ble_eq_true rfl⟩ ⟨Nat.le_refl _, Nat.le_refl _⟩ rfl hl.1 rfl (Nat.le_of_ble_eq_true rfl) rfl (fun _ g => g) dX6_read_4 ?_
  clear hP hS hv1; intro H locs r2 hP hS _
  refine lv_iload_n hx hb dX6_read_7 rfl (lv_at hl 1 rfl) ?_
  obtain ⟨x4, hv3, h⟩ := q_b_some h
  refine q_callV hx hb hml hts hown hK hP hS (As := [.int (q_I x2), .int (q_I a0)]) (rest := [.ref (z + 47)]) (st1 := [.int (q_I x4), .ref (z + 47)]) cv_RX6_23 (c_RT_subjectFor l D dA r2 ra0 hv3) (Nat.le_of_ble_eq_true rfl) q_kdC_47 rfl ⟨rfl, rfl, Nat.le_of_ble_eq_true rfl, Nat.le_of_ble_eq_true rfl⟩ ⟨Nat.le_refl _, Nat.le_refl _⟩ rfl hl.1 rfl (Nat.le_of_ble_eq_true rfl) rfl (fun _ g => g) dX6_read_8 ?_
  clear hP hS hv3; intro H locs r4 hP hS _
  refine q_putI hx hb hts hown hK hP hS hA fd_RX6_27 (Nat.le_of_ble_eq_true rfl) q_kdC_47 rfl r4 dX6_read_11 h ?_
  clear h hP hS; intro μ5 H locs hP hS h
  refine lv_aload_n hx hb dX6_read_14 rfl (lv_at hl 0 rfl) ?_
  refine q_getI hx hb hts hown hK hP fd_RX6_27 (Nat.le_of_ble_eq_true rfl) q_kdC_47 rfl dX6_read_15 h ?_
  clear h; intro x6 r6 h
  refine lv_iconst (v := q_I (-1)) hx hb dX6_read_18 rfl ?_
  refine q_cne hx hb r6 (q_r (-1) rfl) (tgt := 24) dX6_read_19 (by decide) h ?_ ?_
  · clear h; intro g35 h
    refine lv_iconst (v := q_I 0) hx hb dX6_read_22 rfl ?_
    rw [← hQ]
    exact q_ret2 hx hb hr hlocks hP hS (q_r 0 rfl) h dX6_read_23
  · clear h; intro g35 h
    refine lv_aload_n hx hb dX6_read_24 rfl (lv_at hl 0 rfl) ?_
    refine lv_aload_n hx hb dX6_read_25 rfl (lv_at hl 0 rfl) ?_
    refine lv_iconst (v := q_I 1) hx hb dX6_read_26 rfl ?_
    obtain ⟨x8, hv7, h⟩ := q_b_some h
    refine q_callV hx hb hml hts hown hK hP hS (As := [.int (q_I 1)]) (rest := [.ref (z + 47)]) (st1 := [.int (q_I x8), .ref (z + 47)]) cv_RX6_19 (c_RT_characterAt l D dA (q_r 1 rfl) hv7) (Nat.le_of_ble_eq_true rfl) q_kdC_47 rfl ⟨rfl, rfl, Nat.le_of_ble_eq_true rfl, Nat.le_of_ble_eq_true rfl⟩ ⟨Nat.le_refl _, Nat.le_refl _⟩ rfl hl.1 rfl (Nat.le_of_ble_eq_true rfl) rfl (fun _ g => g) dX6_read_27 ?_
    clear hP hS hv7; intro H locs r8 hP hS _
    refine lv_bipush (v := q_I 97) hx hb dX6_read_30 (by decide) ?_
    refine q_isub hx hb dX6_read_32 h ?_
    clear h; intro x9 r9 h
    refine q_putI hx hb hts hown hK hP hS hA fd_RX6_30 (Nat.le_of_ble_eq_true rfl) q_kdC_47 rfl r9 dX6_read_33 h ?_
    clear h hP hS; intro μ10 H locs hP hS h
    refine lv_aload_n hx hb dX6_read_36 rfl (lv_at hl 0 rfl) ?_
    refine q_getI hx hb hts hown hK hP fd_RX6_30 (Nat.le_of_ble_eq_true rfl) q_kdC_47 rfl dX6_read_37 h ?_
    clear h; intro x11 r11 h
    obtain ⟨x13, hv12, h⟩ := q_b_some h
    refine q_callN hx hb hml hts hown hK hP hS (As := [.int (q_I x11)]) (rest := []) (st1 := [.int (q_I x13)]) cn_RX6_33 (c_CR_isStock l D dA r11 hv12) ⟨rfl, rfl, Nat.le_of_ble_eq_true rfl, Nat.le_of_ble_eq_true rfl⟩ ⟨Nat.le_refl _, Nat.le_refl _⟩ rfl hl.1 rfl (Nat.le_of_ble_eq_true rfl) rfl (fun _ g => g) dX6_read_40 ?_
    clear hP hS hv12; intro H locs r13 hP hS _
    refine q_zne hx hb r13 (tgt := 48) dX6_read_43 (by decide) h ?_ ?_
    · clear h; intro g34 h
      refine lv_iconst (v := q_I 1) hx hb dX6_read_46 rfl ?_
      rw [← hQ]
      exact q_ret2 hx hb hr hlocks hP hS (q_r 1 rfl) h dX6_read_47
    · clear h; intro g34 h
      refine lv_aload_n hx hb dX6_read_48 rfl (lv_at hl 0 rfl) ?_
      refine lv_aload_n hx hb dX6_read_49 rfl (lv_at hl 0 rfl) ?_
      refine lv_aload_n hx hb dX6_read_50 rfl (lv_at hl 0 rfl) ?_
      refine lv_iconst (v := q_I 2) hx hb dX6_read_51 rfl ?_
      obtain ⟨x15, hv14, h⟩ := q_b_some h
      refine q_callV hx hb hml hts hown hK hP hS (As := [.int (q_I 2)]) (rest := [.ref (z + 47), .ref (z + 47)]) (st1 := [.int (q_I x15), .ref (z + 47), .ref (z + 47)]) cv_RX6_19 (c_RT_characterAt l D dA (q_r 2 rfl) hv14) (Nat.le_of_ble_eq_true rfl) q_kdC_47 rfl ⟨rfl, rfl, Nat.le_of_ble_eq_true rfl, Nat.le_of_ble_eq_true rfl⟩ ⟨Nat.le_refl _, Nat.le_refl _⟩ rfl hl.1 rfl (Nat.le_of_ble_eq_true rfl) rfl (fun _ g => g) dX6_read_52 ?_
      clear hP hS hv14; intro H locs r15 hP hS _
      obtain ⟨x17, hv16, h⟩ := q_b_some h
      refine q_callV hx hb hml hts hown hK hP hS (As := [.int (q_I x15)]) (rest := [.ref (z + 47)]) (st1 := [.int (q_I x17), .ref (z + 47)]) cv_RX6_37 (c_RT_relationFor l D dA r15 hv16) (Nat.le_of_ble_eq_true rfl) q_kdC_47 rfl ⟨rfl, rfl, Nat.le_of_ble_eq_true rfl, Nat.le_of_ble_eq_true rfl⟩ ⟨Nat.le_refl _, Nat.le_refl _⟩ rfl hl.1 rfl (Nat.le_of_ble_eq_true rfl) rfl (fun _ g => g) dX6_read_55 ?_
      clear hP hS hv16; intro H locs r17 hP hS _
      refine q_putI hx hb hts hown hK hP hS hA fd_RX6_40 (Nat.le_of_ble_eq_true rfl) q_kdC_47 rfl r17 dX6_read_58 h ?_
      clear h hP hS; intro μ18 H locs hP hS h
      refine lv_aload_n hx hb dX6_read_61 rfl (lv_at hl 0 rfl) ?_
      refine q_getI hx hb hts hown hK hP fd_RX6_40 (Nat.le_of_ble_eq_true rfl) q_kdC_47 rfl dX6_read_62 h ?_
      clear h; intro x19 r19 h
      refine lv_iconst (v := q_I (-1)) hx hb dX6_read_65 rfl ?_
      refine q_cne hx hb r19 (q_r (-1) rfl) (tgt := 71) dX6_read_66 (by decide) h ?_ ?_
      · clear h; intro g33 h
        refine lv_iconst (v := q_I 2) hx hb dX6_read_69 rfl ?_
        rw [← hQ]
        exact q_ret2 hx hb hr hlocks hP hS (q_r 2 rfl) h dX6_read_70
      · clear h; intro g33 h
        refine lv_aload_n hx hb dX6_read_71 rfl (lv_at hl 0 rfl) ?_
        refine q_getI hx hb hts hown hK hP fd_RX6_40 (Nat.le_of_ble_eq_true rfl) q_kdC_47 rfl dX6_read_72 h ?_
        clear h; intro x20 r20 h
        refine lv_iconst (v := q_I 2) hx hb dX6_read_75 rfl ?_
        refine q_cne hx hb r20 (q_r 2 rfl) (tgt := 85) dX6_read_76 (by decide) h ?_ ?_
        · clear h; intro g32 h
          refine lv_aload_n hx hb dX6_read_79 rfl (lv_at hl 0 rfl) ?_
          refine lv_iconst (v := q_I 3) hx hb dX6_read_80 rfl ?_
          obtain ⟨x30, μ31, hv29, h⟩ := q_b2_some h
          refine q_callV hx hb hml hts hown hK hP hS (As := [.int (q_I 3)]) (rest := []) (st1 := [.int (q_I x30)]) cv_RX6_43 (c_RT_readNumber l D dA (q_r 3 rfl) hv29) (Nat.le_of_ble_eq_true rfl) q_kdC_47 rfl ⟨rfl, rfl, Nat.le_of_ble_eq_true rfl, Nat.le_of_ble_eq_true rfl⟩ ⟨Nat.le_refl _, Nat.le_refl _⟩ rfl hl.1 rfl (Nat.le_of_ble_eq_true rfl) rfl (fun _ g => g) dX6_read_81 ?_
          clear hP hS hv29; intro H locs r30 hP hS _
          rw [← hQ]
          exact q_ret2 hx hb hr hlocks hP hS r30 h dX6_read_84
        · clear h; intro g32 h
          refine lv_aload_n hx hb dX6_read_85 rfl (lv_at hl 0 rfl) ?_
          refine lv_iconst (v := q_I 3) hx hb dX6_read_86 rfl ?_
          obtain ⟨x22, hv21, h⟩ := q_b_some h
          refine q_callV hx hb hml hts hown hK hP hS (As := [.int (q_I 3)]) (rest := []) (st1 := [.int (q_I x22)]) cv_RX6_19 (c_RT_characterAt l D dA (q_r 3 rfl) hv21) (Nat.le_of_ble_eq_true rfl) q_kdC_47 rfl ⟨rfl, rfl, Nat.le_of_ble_eq_true rfl, Nat.le_of_ble_eq_true rfl⟩ ⟨Nat.le_refl _, Nat.le_refl _⟩ rfl hl.1 rfl (Nat.le_of_ble_eq_true rfl) rfl (fun _ g => g) dX6_read_87 ?_
          clear hP hS hv21; intro H locs r22 hP hS _
          refine lv_bipush (v := q_I 61) hx hb dX6_read_90 (by decide) ?_
          refine q_jn_in h (fun J => ∀ (x23 : Int) (μ24 : q_M) (H : Heap) (locs : List Loc) (ls : Array Slot), q_R x23 → q_P D dA q_kdC q_rhoC 77 z sz μ24 H → va_S (q_A z 77) s.heap H locs → lv_has ls 2 [] → J x23 μ24 = some (xo, μo) → W p l e ({ frames := 3, cells := 0, slots := 0, locals := 65 } : Room) s m args below meth c H locs 0 0 Qf (F0 m 104 ls [.int (q_I x23)])) ?_ ?_
          · clear h hl hP hS; intro x23 μ24 H locs ls r23 hP hS hl h
            rw [← hQ]
            exact q_ret2 hx hb hr hlocks hP hS r23 h dX6_read_104
          · clear h; intro j104 hj104 h
            refine q_cne hx hb r22 (q_r 61 rfl) (tgt := 103) dX6_read_92 (by decide) h ?_ ?_
            · clear h; intro g28 h
              refine lv_aload_n hx hb dX6_read_95 rfl (lv_at hl 0 rfl) ?_
              refine lv_iconst (v := q_I 4) hx hb dX6_read_96 rfl ?_
              obtain ⟨x26, μ27, hv25, h⟩ := q_b2_some h
              refine q_callV hx hb hml hts hown hK hP hS (As := [.int (q_I 4)]) (rest := []) (st1 := [.int (q_I x26)]) cv_RX6_43 (c_RT_readNumber l D dA (q_r 4 rfl) hv25) (Nat.le_of_ble_eq_true rfl) q_kdC_47 rfl ⟨rfl, rfl, Nat.le_of_ble_eq_true rfl, Nat.le_of_ble_eq_true rfl⟩ ⟨Nat.le_refl _, Nat.le_refl _⟩ rfl hl.1 rfl (Nat.le_of_ble_eq_true rfl) rfl (fun _ g => g) dX6_read_97 ?_
              clear hP hS hv25; intro H locs r26 hP hS _
              refine lv_goto (tgt := 104) hx hb dX6_read_100 (by decide) ?_
              exact hj104 x26 μ27 _ _ _ r26 hP hS (lv_sub hl [] rfl) h
            · clear h; intro g28 h
              refine lv_iconst (v := q_I 3) hx hb dX6_read_103 rfl ?_
              exact hj104 3 μ18 _ _ _ (q_r 3 rfl) hP hS (lv_sub hl [] rfl) h
set_option maxHeartbeats 4000000 in
set_option maxRecDepth 100000 in
theorem c_RB_append (l : Launch) (D : va_G) (dA : Nat → ClassId) {z sz : Nat} {μ : q_M} {μo : q_M} (h : f_RB_append μ = some μo) : Met l yX5_append (q_wc yX5_append cX5_append 2 none) ({ frames := 0, cells := 0, slots := 0, locals := 0 } : Room) (va_Pc [.ref (z + 49), .ref (z + 47)] (q_B (q_P D dA q_kdC q_rhoC 77 z sz μ) D dA)) (q_Q none True (q_P D dA q_kdC q_rhoC 77 z sz μo) (q_A z 77)) 0 0 (q_A z 77) := by
  refine Met.ofW (cc := cX5_append) (maxL := 2) (ret := none) (by decide) rfl ?_
  intro p e s m args below meth c s₁ B hml hv
  obtain ⟨hargs, hP, hK⟩ := hv
  have hx := B.exec
  have hb := B.bytes
  have hr := B.returns
  have hts : ∀ w ∈ q_W, w.before args s = true := fun w hw => atoms_spec (ws := q_wc yX5_append cX5_append 2 none) B.pre w (List.mem_cons_of_mem _ hw)
  have hown : s.vm.findClass RX5 = some m.cls := findClass_of_methodNamed B.named
  have hlocks := B.notSynchronized
  have hS : va_S (q_A z 77) s.heap s.heap [] := va_S.rf
  have hA : ∀ k, k < 77 → q_A z 77 (z + k) := fun k hk => ⟨Nat.le_add_right z k, Nat.add_lt_add_left hk z⟩
  have hl := lv_entry [.ref (z + 49), .ref (z + 47)] (n := 2) (Nat.le_of_ble_eq_true rfl)
  refine W.eq (by rw [hargs, lg_entry_eq]) ?_
  generalize (lg_sl [.ref (z + 49), .ref (z + 47)] ++ List.replicate (2 - (lg_sl [.ref (z + 49), .ref (z + 47)]).length) Slot.unset).toArray = ls at hl ⊢
  have hl : lv_has ls 2 [(0, .ref (z + 49)), (1, .ref (z + 47))] := hl
  generalize hQ : MQ below _ args s 0 0 _ = Qf
  change W p l e ({ frames := 0, cells := 0, slots := 0, locals := 0 } : Room) s m args below meth c s.heap [] 0 0 Qf (F0 m 0 ls [])
  unfold f_RB_append at h
  refine lv_aload_n hx hb dX5_append_0 rfl (lv_at hl 0 rfl) ?_
  refine q_getR hx hb hts hown hK hP fd_RX5_9 (Nat.le_of_ble_eq_true rfl) q_kdC_49 rfl q_rhC_49_1 dX5_append_1 ?_
  refine lv_aload_n hx hb dX5_append_4 rfl (lv_at hl 0 rfl) ?_
  refine q_getI hx hb hts hown hK hP fd_RX5_24 (Nat.le_of_ble_eq_true rfl) q_kdC_49 rfl dX5_append_5 h ?_
  clear h; intro x1 r1 h
  refine lv_aload_n hx hb dX5_append_8 rfl (lv_at hl 1 rfl) ?_
  refine q_getI hx hb hts hown hK hP fd_RX5_28 (Nat.le_of_ble_eq_true rfl) q_kdC_47 rfl dX5_append_9 h ?_
  clear h; intro x2 r2 h
  refine q_iast hx hb hK hP hS hA (Nat.le_of_ble_eq_true rfl) q_kdC_50 r1 r2 dX5_append_12 h ?_
  clear h hP hS; intro μ3 H locs hP hS h
  refine lv_aload_n hx hb dX5_append_13 rfl (lv_at hl 0 rfl) ?_
  refine q_getR hx hb hts hown hK hP fd_RX5_15 (Nat.le_of_ble_eq_true rfl) q_kdC_49 rfl q_rhC_49_2 dX5_append_14 ?_
  refine lv_aload_n hx hb dX5_append_17 rfl (lv_at hl 0 rfl) ?_
  refine q_getI hx hb hts hown hK hP fd_RX5_24 (Nat.le_of_ble_eq_true rfl) q_kdC_49 rfl dX5_append_18 h ?_
  clear h; intro x4 r4 h
  refine lv_aload_n hx hb dX5_append_21 rfl (lv_at hl 1 rfl) ?_
  refine q_getI hx hb hts hown hK hP fd_RX5_33 (Nat.le_of_ble_eq_true rfl) q_kdC_47 rfl dX5_append_22 h ?_
  clear h; intro x5 r5 h
  refine q_iast hx hb hK hP hS hA (Nat.le_of_ble_eq_true rfl) q_kdC_51 r4 r5 dX5_append_25 h ?_
  clear h hP hS; intro μ6 H locs hP hS h
  refine lv_aload_n hx hb dX5_append_26 rfl (lv_at hl 0 rfl) ?_
  refine q_getR hx hb hts hown hK hP fd_RX5_18 (Nat.le_of_ble_eq_true rfl) q_kdC_49 rfl q_rhC_49_3 dX5_append_27 ?_
  refine lv_aload_n hx hb dX5_append_30 rfl (lv_at hl 0 rfl) ?_
  refine q_getI hx hb hts hown hK hP fd_RX5_24 (Nat.le_of_ble_eq_true rfl) q_kdC_49 rfl dX5_append_31 h ?_
  clear h; intro x7 r7 h
  refine lv_aload_n hx hb dX5_append_34 rfl (lv_at hl 1 rfl) ?_
  refine q_getI hx hb hts hown hK hP fd_RX5_36 (Nat.le_of_ble_eq_true rfl) q_kdC_47 rfl dX5_append_35 h ?_
  clear h; intro x8 r8 h
  refine q_iast hx hb hK hP hS hA (Nat.le_of_ble_eq_true rfl) q_kdC_52 r7 r8 dX5_append_38 h ?_
  clear h hP hS; intro μ9 H locs hP hS h
  refine lv_aload_n hx hb dX5_append_39 rfl (lv_at hl 0 rfl) ?_
  refine q_getR hx hb hts hown hK hP fd_RX5_21 (Nat.le_of_ble_eq_true rfl) q_kdC_49 rfl q_rhC_49_4 dX5_append_40 ?_
  refine lv_aload_n hx hb dX5_append_43 rfl (lv_at hl 0 rfl) ?_
  refine q_getI hx hb hts hown hK hP fd_RX5_24 (Nat.le_of_ble_eq_true rfl) q_kdC_49 rfl dX5_append_44 h ?_
  clear h; intro x10 r10 h
  refine lv_aload_n hx hb dX5_append_47 rfl (lv_at hl 1 rfl) ?_
  refine q_getI hx hb hts hown hK hP fd_RX5_39 (Nat.le_of_ble_eq_true rfl) q_kdC_47 rfl dX5_append_48 h ?_
  clear h; intro x11 r11 h
  refine q_iast hx hb hK hP hS hA (Nat.le_of_ble_eq_true rfl) q_kdC_53 r10 r11 dX5_append_51 h ?_
  clear h hP hS; intro μ12 H locs hP hS h
  refine lv_aload_n hx hb dX5_append_52 rfl (lv_at hl 0 rfl) ?_
  refine lv_dup hx hb dX5_append_53 rfl ?_
  refine q_getI hx hb hts hown hK hP fd_RX5_24 (Nat.le_of_ble_eq_true rfl) q_kdC_49 rfl dX5_append_54 h ?_
  clear h; intro x13 r13 h
  refine lv_iconst (v := q_I 1) hx hb dX5_append_57 rfl ?_
  refine q_iadd hx hb dX5_append_58 h ?_
  clear h; intro x14 r14 h
  refine q_putI hx hb hts hown hK hP hS hA fd_RX5_24 (Nat.le_of_ble_eq_true rfl) q_kdC_49 rfl r14 dX5_append_59 h ?_
  clear h hP hS; intro μ15 H locs hP hS h
  rw [← hQ]
  exact q_retv hx hb hr hlocks hP hS h dX5_append_62
set_option maxHeartbeats 4000000 in
set_option maxRecDepth 100000 in
theorem c_CR_addRule (l : Launch) (D : va_G) (dA : Nat → ClassId) {z sz : Nat} {N : Nat} {μ : q_M} {xo : Int} {μo : q_M} (h : f_CR_addRule N μ = some (xo, μo)) : Met l yX10_addRule (q_wc yX10_addRule cX10_addRule 2 (some .int)) ({ frames := 4, cells := 0, slots := 0, locals := 86 } : Room) (va_Pc [.ref (z + 0)] (q_B (q_P D dA q_kdC q_rhoC 77 z sz μ) D dA)) (q_Q (some (.int (q_I xo))) (q_R xo) (q_P D dA q_kdC q_rhoC 77 z sz μo) (q_A z 77)) 0 0 (q_A z 77) := by
  refine Met.ofW (cc := cX10_addRule) (maxL := 2) (ret := (some .int)) (by decide) rfl ?_
  intro p e s m args below meth c s₁ B hml hv
  obtain ⟨hargs, hP, hK⟩ := hv
  have hx := B.exec
  have hb := B.bytes
  have hr := B.returns
  have hts : ∀ w ∈ q_W, w.before args s = true := fun w hw => atoms_spec (ws := q_wc yX10_addRule cX10_addRule 2 (some .int)) B.pre w (List.mem_cons_of_mem _ hw)
  have hown : s.vm.findClass RX10 = some m.cls := findClass_of_methodNamed B.named
  have hlocks := B.notSynchronized
  have hS : va_S (q_A z 77) s.heap s.heap [] := va_S.rf
  have hA : ∀ k, k < 77 → q_A z 77 (z + k) := fun k hk => ⟨Nat.le_add_right z k, Nat.add_lt_add_left hk z⟩
  have hl := lv_entry [.ref (z + 0)] (n := 2) (Nat.le_of_ble_eq_true rfl)
  refine W.eq (by rw [hargs, lg_entry_eq]) ?_
  generalize (lg_sl [.ref (z + 0)] ++ List.replicate (2 - (lg_sl [.ref (z + 0)]).length) Slot.unset).toArray = ls at hl ⊢
  have hl : lv_has ls 2 [(0, .ref (z + 0))] := hl
  generalize hQ : MQ below _ args s 0 0 _ = Qf
  change W p l e ({ frames := 4, cells := 0, slots := 0, locals := 86 } : Room) s m args below meth c s.heap [] 0 0 Qf (F0 m 0 ls [])
  unfold f_CR_addRule at h
  refine lv_aload_n hx hb dX10_addRule_0 rfl (lv_at hl 0 rfl) ?_
  refine q_getR hx hb hts hown hK hP fd_RX10_22 (Nat.le_of_ble_eq_true rfl) q_kdC_0 rfl q_rhC_0_3 dX10_addRule_1 ?_
  refine lv_aload_n hx hb dX10_addRule_4 rfl (lv_at hl 0 rfl) ?_
  refine q_getR hx hb hts hown hK hP fd_RX10_10 (Nat.le_of_ble_eq_true rfl) q_kdC_0 rfl q_rhC_0_0 dX10_addRule_5 ?_
  refine q_getI hx hb hts hown hK hP fd_RX10_63 (Nat.le_of_ble_eq_true rfl) q_kdC_1 rfl dX10_addRule_8 h ?_
  clear h; intro x1 r1 h
  obtain ⟨x3, μ4, hv2, h⟩ := q_b2_some h
  refine q_callV hx hb hml hts hown hK hP hS (As := [.int (q_I x1)]) (rest := []) (st1 := [.int (q_I x3)]) cv_RX10_212 (c_RT_read l D dA r1 hv2) (Nat.le_of_ble_eq_true rfl) q_kdC_47 rfl ⟨rfl, rfl, Nat.le_of_ble_eq_true rfl, Nat.le_of_ble_eq_true rfl⟩ ⟨Nat.le_refl _, Nat.le_refl _⟩ rfl hl.1 rfl (Nat.le_of_ble_eq_true rfl) rfl (fun _ g => g) dX10_addRule_11 ?_
  clear hP hS hv2; intro H locs r3 hP hS _
  refine lv_istore_n (lv' := [(1, .int (q_I x3)), (0, .ref (z + 0))]) hx hb dX10_addRule_14 rfl hl (by decide) rfl ?_
  clear hl; intro ls hl
  refine lv_iload_n hx hb dX10_addRule_15 rfl (lv_at hl 0 rfl) ?_
  refine lv_iconst (v := q_I (-1)) hx hb dX10_addRule_16 rfl ?_
  refine q_ceq hx hb r3 (q_r (-1) rfl) (tgt := 25) dX10_addRule_17 (by decide) h ?_ ?_
  · clear h; intro g12 h
    refine lv_aload_n hx hb dX10_addRule_25 rfl (lv_at hl 1 rfl) ?_
    refine q_getR hx hb hts hown hK hP fd_RX10_29 (Nat.le_of_ble_eq_true rfl) q_kdC_0 rfl q_rhC_0_4 dX10_addRule_26 ?_
    refine q_getI hx hb hts hown hK hP fd_RX10_142 (Nat.le_of_ble_eq_true rfl) q_kdC_49 rfl dX10_addRule_29 h ?_
    clear h; intro x5 r5 h
    refine lv_bipush (v := q_I 12) hx hb dX10_addRule_32 (by decide) ?_
    refine q_clt hx hb r5 (q_r 12 rfl) (tgt := 40) dX10_addRule_34 (by decide) h ?_ ?_
    · clear h; intro g10 h
      refine lv_aload_n hx hb dX10_addRule_40 rfl (lv_at hl 1 rfl) ?_
      refine q_getR hx hb hts hown hK hP fd_RX10_29 (Nat.le_of_ble_eq_true rfl) q_kdC_0 rfl q_rhC_0_4 dX10_addRule_41 ?_
      refine lv_aload_n hx hb dX10_addRule_44 rfl (lv_at hl 1 rfl) ?_
      refine q_getR hx hb hts hown hK hP fd_RX10_22 (Nat.le_of_ble_eq_true rfl) q_kdC_0 rfl q_rhC_0_3 dX10_addRule_45 ?_
      obtain ⟨μ7, hv6, h⟩ := q_b_some h
      refine q_callV hx hb hml hts hown hK hP hS (As := [.ref (z + 47)]) (rest := []) (st1 := []) cv_RX10_215 (c_RB_append l D dA hv6) (Nat.le_of_ble_eq_true rfl) q_kdC_49 rfl ⟨rfl, rfl, Nat.le_of_ble_eq_true rfl, Nat.le_of_ble_eq_true rfl⟩ ⟨Nat.le_refl _, Nat.le_refl _⟩ rfl hl.1 rfl (Nat.le_of_ble_eq_true rfl) rfl (fun _ g => g) dX10_addRule_48 ?_
      clear hP hS hv6; intro H locs _ hP hS _
      refine lv_aload_n hx hb dX10_addRule_51 rfl (lv_at hl 1 rfl) ?_
      refine q_getR hx hb hts hown hK hP fd_RX10_29 (Nat.le_of_ble_eq_true rfl) q_kdC_0 rfl q_rhC_0_4 dX10_addRule_52 ?_
      refine q_getI hx hb hts hown hK hP fd_RX10_142 (Nat.le_of_ble_eq_true rfl) q_kdC_49 rfl dX10_addRule_55 h ?_
      clear h; intro x8 r8 h
      refine lv_iconst (v := q_I 1) hx hb dX10_addRule_58 rfl ?_
      refine q_isub hx hb dX10_addRule_59 h ?_
      clear h; intro x9 r9 h
      rw [← hQ]
      exact q_ret2 hx hb hr hlocks hP hS r9 h dX10_addRule_60
    · clear h; intro g10 h
      refine lv_ldc hx hb hown (hts _ ck_RX10_207) dX10_addRule_37 ?_
      rw [← hQ]
      exact q_ret2 hx hb hr hlocks hP hS (q_r (-100005) rfl) h dX10_addRule_39
  · clear h; intro g12 h
    refine lv_bipush (v := q_I (-100)) hx hb dX10_addRule_20 (by decide) ?_
    refine lv_iload_n hx hb dX10_addRule_22 rfl (lv_at hl 0 rfl) ?_
    refine q_isub hx hb dX10_addRule_23 h ?_
    clear h; intro x11 r11 h
    rw [← hQ]
    exact q_ret2 hx hb hr hlocks hP hS r11 h dX10_addRule_24
set_option maxHeartbeats 4000000 in
set_option maxRecDepth 100000 in
theorem c_RB_drop (l : Launch) (D : va_G) (dA : Nat → ClassId) {z sz : Nat} {N : Nat} {a0 : Int} (ra0 : q_R a0) {μ : q_M} {μo : q_M} (h : f_RB_drop N a0 μ = some μo) : Met l yX5_drop (q_wc yX5_drop cX5_drop 3 none) ({ frames := 0, cells := 0, slots := 0, locals := 0 } : Room) (va_Pc [.ref (z + 49), .int (q_I a0)] (q_B (q_P D dA q_kdC q_rhoC 77 z sz μ) D dA)) (q_Q none True (q_P D dA q_kdC q_rhoC 77 z sz μo) (q_A z 77)) 0 0 (q_A z 77) := by
  refine Met.ofW (cc := cX5_drop) (maxL := 3) (ret := none) (by decide) rfl ?_
  intro p e s m args below meth c s₁ B hml hv
  obtain ⟨hargs, hP, hK⟩ := hv
  have hx := B.exec
  have hb := B.bytes
  have hr := B.returns
  have hts : ∀ w ∈ q_W, w.before args s = true := fun w hw => atoms_spec (ws := q_wc yX5_drop cX5_drop 3 none) B.pre w (List.mem_cons_of_mem _ hw)
  have hown : s.vm.findClass RX5 = some m.cls := findClass_of_methodNamed B.named
  have hlocks := B.notSynchronized
  have hS : va_S (q_A z 77) s.heap s.heap [] := va_S.rf
  have hA : ∀ k, k < 77 → q_A z 77 (z + k) := fun k hk => ⟨Nat.le_add_right z k, Nat.add_lt_add_left hk z⟩
  have hl := lv_entry [.ref (z + 49), .int (q_I a0)] (n := 3) (Nat.le_of_ble_eq_true rfl)
  refine W.eq (by rw [hargs, lg_entry_eq]) ?_
  generalize (lg_sl [.ref (z + 49), .int (q_I a0)] ++ List.replicate (3 - (lg_sl [.ref (z + 49), .int (q_I a0)]).length) Slot.unset).toArray = ls at hl ⊢
  have hl : lv_has ls 3 [(0, .ref (z + 49)), (1, .int (q_I a0))] := hl
  generalize hQ : MQ below _ args s 0 0 _ = Qf
  change W p l e ({ frames := 0, cells := 0, slots := 0, locals := 0 } : Room) s m args below meth c s.heap [] 0 0 Qf (F0 m 0 ls [])
  unfold f_RB_drop at h
  refine lv_aload_n hx hb dX5_drop_0 rfl (lv_at hl 0 rfl) ?_
  refine lv_dup hx hb dX5_drop_1 rfl ?_
  refine q_getI hx hb hts hown hK hP fd_RX5_24 (Nat.le_of_ble_eq_true rfl) q_kdC_49 rfl dX5_drop_2 h ?_
  clear h; intro x1 r1 h
  refine lv_iconst (v := q_I 1) hx hb dX5_drop_5 rfl ?_
  refine q_isub hx hb dX5_drop_6 h ?_
  clear h; intro x2 r2 h
  refine q_putI hx hb hts hown hK hP hS hA fd_RX5_24 (Nat.le_of_ble_eq_true rfl) q_kdC_49 rfl r2 dX5_drop_7 h ?_
  clear h hP hS; intro μ3 H locs hP hS h
  refine lv_iload_n hx hb dX5_drop_10 rfl (lv_at hl 1 rfl) ?_
  refine lv_istore_n (lv' := [(2, .int (q_I a0)), (0, .ref (z + 49)), (1, .int (q_I a0))]) hx hb dX5_drop_11 rfl hl (by decide) rfl ?_
  clear hl; intro ls hl
  have L12 : ∀ (k82 : q_M → Option q_M), (∀ (μ6 : q_M) (H : Heap) (locs : List Loc) (ls : Array Slot), q_P D dA q_kdC q_rhoC 77 z sz μ6 H → va_S (q_A z 77) s.heap H locs → lv_has ls 3 [] → k82 μ6 = some μo → W p l e ({ frames := 0, cells := 0, slots := 0, locals := 0 } : Room) s m args below meth c H locs 0 0 Qf (F0 m 82 ls [])) → ∀ (nf12 : Nat) (x4 : Int) (μ5 : q_M) (H : Heap) (locs : List Loc) (ls : Array Slot), q_R x4 → q_P D dA q_kdC q_rhoC 77 z sz μ5 H → va_S (q_A z 77) s.heap H locs → lv_has ls 3 [(0, .ref (z + 49)), (2, .int (q_I x4))] → f_RB_drop_L12  k82 nf12 x4 μ5 = some μo → W p l e ({ frames := 0, cells := 0, slots := 0, locals := 0 } : Room) s m args below meth c H locs 0 0 Qf (F0 m 12 ls []) := by
    clear h hl hP hS
    intro k82 hk82 nf12
    induction nf12 with
    | zero =>
      intro x4 μ5 H locs ls r4 hP hS hl h
      rw [f_RB_drop_L12] at h
      cases h
    | succ nf12 ih12 =>
      intro x4 μ5 H locs ls r4 hP hS hl h
      rw [f_RB_drop_L12] at h
      refine lv_iload_n hx hb dX5_drop_12 rfl (lv_at hl 1 rfl) ?_
      refine lv_aload_n hx hb dX5_drop_13 rfl (lv_at hl 0 rfl) ?_
      refine q_getI hx hb hts hown hK hP fd_RX5_24 (Nat.le_of_ble_eq_true rfl) q_kdC_49 rfl dX5_drop_14 h ?_
      clear h; intro x7 r7 h
      refine q_cge hx hb r4 r7 (tgt := 82) dX5_drop_17 (by decide) h ?_ ?_
      · clear h; intro g21 h
        exact hk82 μ5 _ _ _ hP hS (lv_sub hl [] rfl) h
      · clear h; intro g21 h
        refine lv_aload_n hx hb dX5_drop_20 rfl (lv_at hl 0 rfl) ?_
        refine q_getR hx hb hts hown hK hP fd_RX5_9 (Nat.le_of_ble_eq_true rfl) q_kdC_49 rfl q_rhC_49_1 dX5_drop_21 ?_
        refine lv_iload_n hx hb dX5_drop_24 rfl (lv_at hl 1 rfl) ?_
        refine lv_aload_n hx hb dX5_drop_25 rfl (lv_at hl 0 rfl) ?_
        refine q_getR hx hb hts hown hK hP fd_RX5_9 (Nat.le_of_ble_eq_true rfl) q_kdC_49 rfl q_rhC_49_1 dX5_drop_26 ?_
        refine lv_iload_n hx hb dX5_drop_29 rfl (lv_at hl 1 rfl) ?_
        refine lv_iconst (v := q_I 1) hx hb dX5_drop_30 rfl ?_
        refine q_iadd hx hb dX5_drop_31 h ?_
        clear h; intro x8 r8 h
        refine q_iald hx hb hK hP (Nat.le_of_ble_eq_true rfl) q_kdC_50 r8 dX5_drop_32 h ?_
        clear h; intro x9 r9 h
        refine q_iast hx hb hK hP hS hA (Nat.le_of_ble_eq_true rfl) q_kdC_50 r4 r9 dX5_drop_33 h ?_
        clear h hP hS; intro μ10 H locs hP hS h
        refine lv_aload_n hx hb dX5_drop_34 rfl (lv_at hl 0 rfl) ?_
        refine q_getR hx hb hts hown hK hP fd_RX5_15 (Nat.le_of_ble_eq_true rfl) q_kdC_49 rfl q_rhC_49_2 dX5_drop_35 ?_
        refine lv_iload_n hx hb dX5_drop_38 rfl (lv_at hl 1 rfl) ?_
        refine lv_aload_n hx hb dX5_drop_39 rfl (lv_at hl 0 rfl) ?_
        refine q_getR hx hb hts hown hK hP fd_RX5_15 (Nat.le_of_ble_eq_true rfl) q_kdC_49 rfl q_rhC_49_2 dX5_drop_40 ?_
        refine lv_iload_n hx hb dX5_drop_43 rfl (lv_at hl 1 rfl) ?_
        refine lv_iconst (v := q_I 1) hx hb dX5_drop_44 rfl ?_
        refine q_iadd hx hb dX5_drop_45 h ?_
        clear h; intro x11 r11 h
        refine q_iald hx hb hK hP (Nat.le_of_ble_eq_true rfl) q_kdC_51 r11 dX5_drop_46 h ?_
        clear h; intro x12 r12 h
        refine q_iast hx hb hK hP hS hA (Nat.le_of_ble_eq_true rfl) q_kdC_51 r4 r12 dX5_drop_47 h ?_
        clear h hP hS; intro μ13 H locs hP hS h
        refine lv_aload_n hx hb dX5_drop_48 rfl (lv_at hl 0 rfl) ?_
        refine q_getR hx hb hts hown hK hP fd_RX5_18 (Nat.le_of_ble_eq_true rfl) q_kdC_49 rfl q_rhC_49_3 dX5_drop_49 ?_
        refine lv_iload_n hx hb dX5_drop_52 rfl (lv_at hl 1 rfl) ?_
        refine lv_aload_n hx hb dX5_drop_53 rfl (lv_at hl 0 rfl) ?_
        refine q_getR hx hb hts hown hK hP fd_RX5_18 (Nat.le_of_ble_eq_true rfl) q_kdC_49 rfl q_rhC_49_3 dX5_drop_54 ?_
        refine lv_iload_n hx hb dX5_drop_57 rfl (lv_at hl 1 rfl) ?_
        refine lv_iconst (v := q_I 1) hx hb dX5_drop_58 rfl ?_
        refine q_iadd hx hb dX5_drop_59 h ?_
        clear h; intro x14 r14 h
        refine q_iald hx hb hK hP (Nat.le_of_ble_eq_true rfl) q_kdC_52 r14 dX5_drop_60 h ?_
        clear h; intro x15 r15 h
        refine q_iast hx hb hK hP hS hA (Nat.le_of_ble_eq_true rfl) q_kdC_52 r4 r15 dX5_drop_61 h ?_
        clear h hP hS; intro μ16 H locs hP hS h
        refine lv_aload_n hx hb dX5_drop_62 rfl (lv_at hl 0 rfl) ?_
        refine q_getR hx hb hts hown hK hP fd_RX5_21 (Nat.le_of_ble_eq_true rfl) q_kdC_49 rfl q_rhC_49_4 dX5_drop_63 ?_
        refine lv_iload_n hx hb dX5_drop_66 rfl (lv_at hl 1 rfl) ?_
        refine lv_aload_n hx hb dX5_drop_67 rfl (lv_at hl 0 rfl) ?_
        refine q_getR hx hb hts hown hK hP fd_RX5_21 (Nat.le_of_ble_eq_true rfl) q_kdC_49 rfl q_rhC_49_4 dX5_drop_68 ?_
        refine lv_iload_n hx hb dX5_drop_71 rfl (lv_at hl 1 rfl) ?_
        refine lv_iconst (v := q_I 1) hx hb dX5_drop_72 rfl ?_
        refine q_iadd hx hb dX5_drop_73 h ?_
        clear h; intro x17 r17 h
        refine q_iald hx hb hK hP (Nat.le_of_ble_eq_true rfl) q_kdC_53 r17 dX5_drop_74 h ?_
        clear h; intro x18 r18 h
        refine q_iast hx hb hK hP hS hA (Nat.le_of_ble_eq_true rfl) q_kdC_53 r4 r18 dX5_drop_75 h ?_
        clear h hP hS; intro μ19 H locs hP hS h
        refine q_iinc (k := 1) (lv' := fun t => [(2, .int (q_I t)), (0, .ref (z + 49))]) hx hb dX5_drop_76 hl rfl (by decide) (fun _ => rfl) h ?_
        clear h hl; intro x20 ls r20 hl h
        refine lv_goto (tgt := 12) hx hb dX5_drop_79 (by decide) ?_
        exact ih12 x20 μ19 _ _ _ r20 hP hS (lv_sub hl [1, 0] rfl) h
  refine L12 _ ?_  _ a0 μ3 _ _ _ ra0 hP hS (lv_sub hl [1, 0] rfl) h
  · clear h hl hP hS; intro μ6 H locs ls  hP hS hl h
    rw [← hQ]
    exact q_retv hx hb hr hlocks hP hS h dX5_drop_82
set_option maxHeartbeats 4000000 in
set_option maxRecDepth 100000 in
theorem c_CR_removeRule (l : Launch) (D : va_G) (dA : Nat → ClassId) {z sz : Nat} {N : Nat} {a0 : Int} (ra0 : q_R a0) {μ : q_M} {xo : Int} {μo : q_M} (h : f_CR_removeRule N a0 μ = some (xo, μo)) : Met l yX10_removeRule (q_wc yX10_removeRule cX10_removeRule 2 (some .int)) ({ frames := 1, cells := 0, slots := 0, locals := 22 } : Room) (va_Pc [.ref (z + 0), .int (q_I a0)] (q_B (q_P D dA q_kdC q_rhoC 77 z sz μ) D dA)) (q_Q (some (.int (q_I xo))) (q_R xo) (q_P D dA q_kdC q_rhoC 77 z sz μo) (q_A z 77)) 0 0 (q_A z 77) := by
  refine Met.ofW (cc := cX10_removeRule) (maxL := 2) (ret := (some .int)) (by decide) rfl ?_
  intro p e s m args below meth c s₁ B hml hv
  obtain ⟨hargs, hP, hK⟩ := hv
  have hx := B.exec
  have hb := B.bytes
  have hr := B.returns
  have hts : ∀ w ∈ q_W, w.before args s = true := fun w hw => atoms_spec (ws := q_wc yX10_removeRule cX10_removeRule 2 (some .int)) B.pre w (List.mem_cons_of_mem _ hw)
  have hown : s.vm.findClass RX10 = some m.cls := findClass_of_methodNamed B.named
  have hlocks := B.notSynchronized
  have hS : va_S (q_A z 77) s.heap s.heap [] := va_S.rf
  have hA : ∀ k, k < 77 → q_A z 77 (z + k) := fun k hk => ⟨Nat.le_add_right z k, Nat.add_lt_add_left hk z⟩
  have hl := lv_entry [.ref (z + 0), .int (q_I a0)] (n := 2) (Nat.le_of_ble_eq_true rfl)
  refine W.eq (by rw [hargs, lg_entry_eq]) ?_
  generalize (lg_sl [.ref (z + 0), .int (q_I a0)] ++ List.replicate (2 - (lg_sl [.ref (z + 0), .int (q_I a0)]).length) Slot.unset).toArray = ls at hl ⊢
  have hl : lv_has ls 2 [(0, .ref (z + 0)), (1, .int (q_I a0))] := hl
  generalize hQ : MQ below _ args s 0 0 _ = Qf
  change W p l e ({ frames := 1, cells := 0, slots := 0, locals := 22 } : Room) s m args below meth c s.heap [] 0 0 Qf (F0 m 0 ls [])
  unfold f_CR_removeRule at h
  refine lv_iload_n hx hb dX10_removeRule_0 rfl (lv_at hl 1 rfl) ?_
  refine lv_iconst (v := q_I 0) hx hb dX10_removeRule_1 rfl ?_
  refine lv_aload_n hx hb dX10_removeRule_2 rfl (lv_at hl 0 rfl) ?_
  refine q_getR hx hb hts hown hK hP fd_RX10_29 (Nat.le_of_ble_eq_true rfl) q_kdC_0 rfl q_rhC_0_4 dX10_removeRule_3 ?_
  refine q_getI hx hb hts hown hK hP fd_RX10_142 (Nat.le_of_ble_eq_true rfl) q_kdC_49 rfl dX10_removeRule_6 h ?_
  clear h; intro x1 r1 h
  refine lv_iconst (v := q_I 1) hx hb dX10_removeRule_9 rfl ?_
  refine q_isub hx hb dX10_removeRule_10 h ?_
  clear h; intro x2 r2 h
  obtain ⟨x4, hv3, h⟩ := q_b_some h
  refine q_callS hx hb hml hts hown hK hP hS (As := [.int (q_I a0), .int (q_I 0), .int (q_I x2)]) (rest := []) (st1 := [.int (q_I x4)]) cs_RX10_58 (c_CR_within l D dA ra0 (q_r 0 rfl) r2 hv3) ⟨rfl, rfl, Nat.le_of_ble_eq_true rfl, Nat.le_of_ble_eq_true rfl⟩ ⟨Nat.le_refl _, Nat.le_refl _⟩ rfl hl.1 rfl (Nat.le_of_ble_eq_true rfl) rfl (fun _ g => g) dX10_removeRule_11 ?_
  clear hP hS hv3; intro H locs r4 hP hS _
  refine q_zne hx hb r4 (tgt := 20) dX10_removeRule_14 (by decide) h ?_ ?_
  · clear h; intro g8 h
    refine lv_ldc hx hb hown (hts _ ck_RX10_74) dX10_removeRule_17 ?_
    rw [← hQ]
    exact q_ret2 hx hb hr hlocks hP hS (q_r (-100001) rfl) h dX10_removeRule_19
  · clear h; intro g8 h
    refine lv_aload_n hx hb dX10_removeRule_20 rfl (lv_at hl 0 rfl) ?_
    refine q_getR hx hb hts hown hK hP fd_RX10_29 (Nat.le_of_ble_eq_true rfl) q_kdC_0 rfl q_rhC_0_4 dX10_removeRule_21 ?_
    refine lv_iload_n hx hb dX10_removeRule_24 rfl (lv_at hl 1 rfl) ?_
    obtain ⟨μ6, hv5, h⟩ := q_b_some h
    refine q_callV hx hb hml hts hown hK hP hS (As := [.int (q_I a0)]) (rest := []) (st1 := []) cv_RX10_218 (c_RB_drop l D dA ra0 hv5) (Nat.le_of_ble_eq_true rfl) q_kdC_49 rfl ⟨rfl, rfl, Nat.le_of_ble_eq_true rfl, Nat.le_of_ble_eq_true rfl⟩ ⟨Nat.le_refl _, Nat.le_refl _⟩ rfl hl.1 rfl (Nat.le_of_ble_eq_true rfl) rfl (fun _ g => g) dX10_removeRule_25 ?_
    clear hP hS hv5; intro H locs _ hP hS _
    refine lv_aload_n hx hb dX10_removeRule_28 rfl (lv_at hl 0 rfl) ?_
    refine q_getR hx hb hts hown hK hP fd_RX10_29 (Nat.le_of_ble_eq_true rfl) q_kdC_0 rfl q_rhC_0_4 dX10_removeRule_29 ?_
    refine q_getI hx hb hts hown hK hP fd_RX10_142 (Nat.le_of_ble_eq_true rfl) q_kdC_49 rfl dX10_removeRule_32 h ?_
    clear h; intro x7 r7 h
    rw [← hQ]
    exact q_ret2 hx hb hr hlocks hP hS r7 h dX10_removeRule_35
set_option maxHeartbeats 4000000 in
set_option maxRecDepth 100000 in
theorem c_CR_rule (l : Launch) (D : va_G) (dA : Nat → ClassId) {z sz : Nat} {a0 : Int} (ra0 : q_R a0) {a1 : Int} (ra1 : q_R a1) {μ : q_M} {xo : Int} (h : f_CR_rule a0 a1 μ = some xo) : Met l yX10_rule (q_wc yX10_rule cX10_rule 3 (some .int)) ({ frames := 1, cells := 0, slots := 0, locals := 22 } : Room) (va_Pc [.ref (z + 0), .int (q_I a0), .int (q_I a1)] (q_B (q_P D dA q_kdC q_rhoC 77 z sz μ) D dA)) (q_Q (some (.int (q_I xo))) (q_R xo) (q_P D dA q_kdC q_rhoC 77 z sz μ) (q_A z 77)) 0 0 (q_A z 77) := by
  refine Met.ofW (cc := cX10_rule) (maxL := 3) (ret := (some .int)) (by decide) rfl ?_
  intro p e s m args below meth c s₁ B hml hv
  obtain ⟨hargs, hP, hK⟩ := hv
  have hx := B.exec
  have hb := B.bytes
  have hr := B.returns
  have hts : ∀ w ∈ q_W, w.before args s = true := fun w hw => atoms_spec (ws := q_wc yX10_rule cX10_rule 3 (some .int)) B.pre w (List.mem_cons_of_mem _ hw)
  have hown : s.vm.findClass RX10 = some m.cls := findClass_of_methodNamed B.named
  have hlocks := B.notSynchronized
  have hS : va_S (q_A z 77) s.heap s.heap [] := va_S.rf
  have hA : ∀ k, k < 77 → q_A z 77 (z + k) := fun k hk => ⟨Nat.le_add_right z k, Nat.add_lt_add_left hk z⟩
  have hl := lv_entry [.ref (z + 0), .int (q_I a0), .int (q_I a1)] (n := 3) (Nat.le_of_ble_eq_true rfl)
  refine W.eq (by rw [hargs, lg_entry_eq]) ?_
  generalize (lg_sl [.ref (z + 0), .int (q_I a0), .int (q_I a1)] ++ List.replicate (3 - (lg_sl [.ref (z + 0), .int (q_I a0), .int (q_I a1)]).length) Slot.unset).toArray = ls at hl ⊢
  have hl : lv_has ls 3 [(0, .ref (z + 0)), (1, .int (q_I a0)), (2, .int (q_I a1))] := hl
  generalize hQ : MQ below _ args s 0 0 _ = Qf
  change W p l e ({ frames := 1, cells := 0, slots := 0, locals := 22 } : Room) s m args below meth c s.heap [] 0 0 Qf (F0 m 0 ls [])
  unfold f_CR_rule at h
  refine lv_iload_n hx hb dX10_rule_0 rfl (lv_at hl 1 rfl) ?_
  refine lv_iconst (v := q_I 0) hx hb dX10_rule_1 rfl ?_
  refine lv_aload_n hx hb dX10_rule_2 rfl (lv_at hl 0 rfl) ?_
  refine q_getR hx hb hts hown hK hP fd_RX10_29 (Nat.le_of_ble_eq_true rfl) q_kdC_0 rfl q_rhC_0_4 dX10_rule_3 ?_
  refine q_getI hx hb hts hown hK hP fd_RX10_142 (Nat.le_of_ble_eq_true rfl) q_kdC_49 rfl dX10_rule_6 h ?_
  clear h; intro x1 r1 h
  refine lv_iconst (v := q_I 1) hx hb dX10_rule_9 rfl ?_
  refine q_isub hx hb dX10_rule_10 h ?_
  clear h; intro x2 r2 h
  obtain ⟨x4, hv3, h⟩ := q_b_some h
  refine q_callS hx hb hml hts hown hK hP hS (As := [.int (q_I a0), .int (q_I 0), .int (q_I x2)]) (rest := []) (st1 := [.int (q_I x4)]) cs_RX10_58 (c_CR_within l D dA ra0 (q_r 0 rfl) r2 hv3) ⟨rfl, rfl, Nat.le_of_ble_eq_true rfl, Nat.le_of_ble_eq_true rfl⟩ ⟨Nat.le_refl _, Nat.le_refl _⟩ rfl hl.1 rfl (Nat.le_of_ble_eq_true rfl) rfl (fun _ g => g) dX10_rule_11 ?_
  clear hP hS hv3; intro H locs r4 hP hS _
  refine q_zne hx hb r4 (tgt := 20) dX10_rule_14 (by decide) h ?_ ?_
  · clear h; intro g13 h
    refine lv_ldc hx hb hown (hts _ ck_RX10_74) dX10_rule_17 ?_
    rw [← hQ]
    exact q_ret1 hx hb hr hlocks hP hS (q_r (-100001) rfl) h dX10_rule_19
  · clear h; intro g13 h
    refine lv_iload_n hx hb dX10_rule_20 rfl (lv_at hl 2 rfl) ?_
    by_cases g6 : a1 = 0
    · rw [if_pos g6] at h
      refine q_tabIn (tgt := 52) (v := 0) hx hb ra1 g6 dX10_rule_21 (by decide) (by decide) rfl (by decide) ?_
      refine lv_aload_n hx hb dX10_rule_52 rfl (lv_at hl 0 rfl) ?_
      refine q_getR hx hb hts hown hK hP fd_RX10_29 (Nat.le_of_ble_eq_true rfl) q_kdC_0 rfl q_rhC_0_4 dX10_rule_53 ?_
      refine q_getR hx hb hts hown hK hP fd_RX10_221 (Nat.le_of_ble_eq_true rfl) q_kdC_49 rfl q_rhC_49_1 dX10_rule_56 ?_
      refine lv_iload_n hx hb dX10_rule_59 rfl (lv_at hl 1 rfl) ?_
      refine q_iald hx hb hK hP (Nat.le_of_ble_eq_true rfl) q_kdC_50 ra0 dX10_rule_60 h ?_
      clear h; intro x5 r5 h
      rw [← hQ]
      exact q_ret1 hx hb hr hlocks hP hS r5 h dX10_rule_61
    · rw [if_neg g6] at h
      by_cases g8 : a1 = 1
      · rw [if_pos g8] at h
        refine q_tabIn (tgt := 62) (v := 1) hx hb ra1 g8 dX10_rule_21 (by decide) (by decide) rfl (by decide) ?_
        refine lv_aload_n hx hb dX10_rule_62 rfl (lv_at hl 0 rfl) ?_
        refine q_getR hx hb hts hown hK hP fd_RX10_29 (Nat.le_of_ble_eq_true rfl) q_kdC_0 rfl q_rhC_0_4 dX10_rule_63 ?_
        refine q_getR hx hb hts hown hK hP fd_RX10_224 (Nat.le_of_ble_eq_true rfl) q_kdC_49 rfl q_rhC_49_2 dX10_rule_66 ?_
        refine lv_iload_n hx hb dX10_rule_69 rfl (lv_at hl 1 rfl) ?_
        refine q_iald hx hb hK hP (Nat.le_of_ble_eq_true rfl) q_kdC_51 ra0 dX10_rule_70 h ?_
        clear h; intro x7 r7 h
        rw [← hQ]
        exact q_ret1 hx hb hr hlocks hP hS r7 h dX10_rule_71
      · rw [if_neg g8] at h
        by_cases g10 : a1 = 2
        · rw [if_pos g10] at h
          refine q_tabIn (tgt := 72) (v := 2) hx hb ra1 g10 dX10_rule_21 (by decide) (by decide) rfl (by decide) ?_
          refine lv_aload_n hx hb dX10_rule_72 rfl (lv_at hl 0 rfl) ?_
          refine q_getR hx hb hts hown hK hP fd_RX10_29 (Nat.le_of_ble_eq_true rfl) q_kdC_0 rfl q_rhC_0_4 dX10_rule_73 ?_
          refine q_getR hx hb hts hown hK hP fd_RX10_225 (Nat.le_of_ble_eq_true rfl) q_kdC_49 rfl q_rhC_49_3 dX10_rule_76 ?_
          refine lv_iload_n hx hb dX10_rule_79 rfl (lv_at hl 1 rfl) ?_
          refine q_iald hx hb hK hP (Nat.le_of_ble_eq_true rfl) q_kdC_52 ra0 dX10_rule_80 h ?_
          clear h; intro x9 r9 h
          rw [← hQ]
          exact q_ret1 hx hb hr hlocks hP hS r9 h dX10_rule_81
        · rw [if_neg g10] at h
          by_cases g12 : a1 = 3
          · rw [if_pos g12] at h
            refine q_tabIn (tgt := 82) (v := 3) hx hb ra1 g12 dX10_rule_21 (by decide) (by decide) rfl (by decide) ?_
            refine lv_aload_n hx hb dX10_rule_82 rfl (lv_at hl 0 rfl) ?_
            refine q_getR hx hb hts hown hK hP fd_RX10_29 (Nat.le_of_ble_eq_true rfl) q_kdC_0 rfl q_rhC_0_4 dX10_rule_83 ?_
            refine q_getR hx hb hts hown hK hP fd_RX10_228 (Nat.le_of_ble_eq_true rfl) q_kdC_49 rfl q_rhC_49_4 dX10_rule_86 ?_
            refine lv_iload_n hx hb dX10_rule_89 rfl (lv_at hl 1 rfl) ?_
            refine q_iald hx hb hK hP (Nat.le_of_ble_eq_true rfl) q_kdC_53 ra0 dX10_rule_90 h ?_
            clear h; intro x11 r11 h
            rw [← hQ]
            exact q_ret1 hx hb hr hlocks hP hS r11 h dX10_rule_91
          · rw [if_neg g12] at h
            refine q_tabOut (tgt := 92) hx hb ra1 dX10_rule_21 (by omega) (by decide) ?_
            refine lv_ldc hx hb hown (hts _ ck_RX10_62) dX10_rule_92 ?_
            rw [← hQ]
            exact q_ret1 hx hb hr hlocks hP hS (q_r (-100002) rfl) h dX10_rule_94
set_option maxHeartbeats 4000000 in
set_option maxRecDepth 100000 in
theorem c_St_readPresent (l : Launch) (D : va_G) (dA : Nat → ClassId) {z sz : Nat} {N : Nat} {oa : Nat} (hoa : oa = 1 ∨ oa = 24) {μ : q_M} {μo : q_M} (h : f_St_readPresent N oa μ = some μo) : Met l yX8_readPresent (q_wc yX8_readPresent cX8_readPresent 3 none) ({ frames := 2, cells := 0, slots := 0, locals := 69 } : Room) (va_Pc [.ref (z + 56), .ref (z + oa)] (q_B (q_P D dA q_kdC q_rhoC 77 z sz μ) D dA)) (q_Q none True (q_P D dA q_kdC q_rhoC 77 z sz μo) (q_A z 77)) 0 0 (q_A z 77) := by
  refine Met.ofW (cc := cX8_readPresent) (maxL := 3) (ret := none) (by decide) rfl ?_
  intro p e s m args below meth c s₁ B hml hv
  obtain ⟨hargs, hP, hK⟩ := hv
  have hx := B.exec
  have hb := B.bytes
  have hr := B.returns
  have hts : ∀ w ∈ q_W, w.before args s = true := fun w hw => atoms_spec (ws := q_wc yX8_readPresent cX8_readPresent 3 none) B.pre w (List.mem_cons_of_mem _ hw)
  have hown : s.vm.findClass RX8 = some m.cls := findClass_of_methodNamed B.named
  have hlocks := B.notSynchronized
  have hS : va_S (q_A z 77) s.heap s.heap [] := va_S.rf
  have hA : ∀ k, k < 77 → q_A z 77 (z + k) := fun k hk => ⟨Nat.le_add_right z k, Nat.add_lt_add_left hk z⟩
  have hl := lv_entry [.ref (z + 56), .ref (z + oa)] (n := 3) (Nat.le_of_ble_eq_true rfl)
  refine W.eq (by rw [hargs, lg_entry_eq]) ?_
  generalize (lg_sl [.ref (z + 56), .ref (z + oa)] ++ List.replicate (3 - (lg_sl [.ref (z + 56), .ref (z + oa)]).length) Slot.unset).toArray = ls at hl ⊢
  have hl : lv_has ls 3 [(0, .ref (z + 56)), (1, .ref (z + oa))] := hl
  generalize hQ : MQ below _ args s 0 0 _ = Qf
  change W p l e ({ frames := 2, cells := 0, slots := 0, locals := 69 } : Room) s m args below meth c s.heap [] 0 0 Qf (F0 m 0 ls [])
  unfold f_St_readPresent at h
  refine lv_aload_n hx hb dX8_readPresent_0 rfl (lv_at hl 0 rfl) ?_
  refine lv_aload_n hx hb dX8_readPresent_1 rfl (lv_at hl 1 rfl) ?_
  refine q_getI hx hb hts hown hK hP fd_RX8_18 (q_ltW0 hoa) (q_kdW_0 hoa) rfl dX8_readPresent_2 h ?_
  clear h; intro x1 r1 h
  refine q_putI hx hb hts hown hK hP hS hA fd_RX8_24 (Nat.le_of_ble_eq_true rfl) q_kdC_56 rfl r1 dX8_readPresent_5 h ?_
  clear h hP hS; intro μ2 H locs hP hS h
  refine lv_aload_n hx hb dX8_readPresent_8 rfl (lv_at hl 1 rfl) ?_
  refine q_getR hx hb hts hown hK hP fd_RX8_25 (q_ltW0 hoa) (q_kdW_0 hoa) rfl (q_rhW_0_1 hoa) dX8_readPresent_9 ?_
  refine lv_aload_n hx hb dX8_readPresent_12 rfl (lv_at hl 0 rfl) ?_
  refine q_getR hx hb hts hown hK hP fd_RX8_9 (Nat.le_of_ble_eq_true rfl) q_kdC_56 rfl q_rhC_56_1 dX8_readPresent_13 ?_
  refine q_callN hx hb hml hts hown hK hP hS (As := [.ref (z + (oa + 1)), .ref (z + 57)]) (rest := []) (st1 := []) cn_RX8_26 (c_CR_copyAll l D dA (q_ltW hoa rfl) (q_kdW_1 hoa) (Nat.le_of_ble_eq_true rfl) q_kdC_57 (Nat.le_of_ble_eq_true rfl) hA) ⟨rfl, rfl, Nat.le_of_ble_eq_true rfl, Nat.le_of_ble_eq_true rfl⟩ ⟨Nat.le_refl _, Nat.le_refl _⟩ rfl hl.1 rfl (Nat.le_of_ble_eq_true rfl) rfl (fun _ g => g) dX8_readPresent_16 ?_
  clear hP hS; intro H locs _ hP hS _
  replace h := q_cp_in h; generalize q_copy μ2 (oa + 1) 57 10 = μ3 at hP h
  refine lv_aload_n hx hb dX8_readPresent_19 rfl (lv_at hl 0 rfl) ?_
  refine q_getR hx hb hts hown hK hP fd_RX8_15 (Nat.le_of_ble_eq_true rfl) q_kdC_56 rfl q_rhC_56_2 dX8_readPresent_20 ?_
  refine lv_iconst (v := q_I 0) hx hb dX8_readPresent_23 rfl ?_
  refine q_callS hx hb hml hts hown hK hP hS (As := [.ref (z + 58), .int (q_I 0)]) (rest := []) (st1 := []) cs_RX8_30 (c_fillI l D dA (Nat.le_of_ble_eq_true rfl) q_kdC_58 (q_r 0 rfl) (Nat.le_of_ble_eq_true rfl) hA) ⟨rfl, rfl, Nat.le_of_ble_eq_true rfl, Nat.le_of_ble_eq_true rfl⟩ ⟨Nat.le_refl _, Nat.le_refl _⟩ rfl hl.1 rfl (Nat.le_of_ble_eq_true rfl) rfl (fun _ g => g) dX8_readPresent_24 ?_
  clear hP hS; intro H locs _ hP hS _
  replace h := q_fi_in h; generalize q_fill μ3 58 2 0 = μ4 at hP h
  refine lv_iconst (v := q_I 0) hx hb dX8_readPresent_27 rfl ?_
  refine lv_istore_n (lv' := [(2, .int (q_I 0)), (0, .ref (z + 56)), (1, .ref (z + oa))]) hx hb dX8_readPresent_28 rfl hl (by decide) rfl ?_
  clear hl; intro ls hl
  have L29 : ∀ (k85 : q_M → Option q_M), (∀ (μ7 : q_M) (H : Heap) (locs : List Loc) (ls : Array Slot), q_P D dA q_kdC q_rhoC 77 z sz μ7 H → va_S (q_A z 77) s.heap H locs → lv_has ls 3 [] → k85 μ7 = some μo → W p l e ({ frames := 2, cells := 0, slots := 0, locals := 69 } : Room) s m args below meth c H locs 0 0 Qf (F0 m 85 ls [])) → ∀ (nf29 : Nat) (x5 : Int) (μ6 : q_M) (H : Heap) (locs : List Loc) (ls : Array Slot), q_R x5 → q_P D dA q_kdC q_rhoC 77 z sz μ6 H → va_S (q_A z 77) s.heap H locs → lv_has ls 3 [(0, .ref (z + 56)), (1, .ref (z + oa)), (2, .int (q_I x5))] → f_St_readPresent_L29 oa k85 nf29 x5 μ6 = some μo → W p l e ({ frames := 2, cells := 0, slots := 0, locals := 69 } : Room) s m args below meth c H locs 0 0 Qf (F0 m 29 ls []) := by
    clear h hl hP hS
    intro k85 hk85 nf29
    induction nf29 with
    | zero =>
      intro x5 μ6 H locs ls r5 hP hS hl h
      rw [f_St_readPresent_L29] at h
      cases h
    | succ nf29 ih29 =>
      intro x5 μ6 H locs ls r5 hP hS hl h
      rw [f_St_readPresent_L29] at h
      refine lv_iload_n hx hb dX8_readPresent_29 rfl (lv_at hl 2 rfl) ?_
      refine lv_aload_n hx hb dX8_readPresent_30 rfl (lv_at hl 1 rfl) ?_
      refine q_getR hx hb hts hown hK hP fd_RX8_36 (q_ltW0 hoa) (q_kdW_0 hoa) rfl (q_rhW_0_5 hoa) dX8_readPresent_31 ?_
      refine q_getI hx hb hts hown hK hP fd_RX8_40 (q_ltW hoa rfl) (q_kdW_14 hoa) rfl dX8_readPresent_34 h ?_
      clear h; intro x8 r8 h
      refine q_cge hx hb r5 r8 (tgt := 85) dX8_readPresent_37 (by decide) h ?_ ?_
      · clear h; intro g18 h
        exact hk85 μ6 _ _ _ hP hS (lv_sub hl [] rfl) h
      · clear h; intro g18 h
        refine lv_aload_n hx hb dX8_readPresent_40 rfl (lv_at hl 1 rfl) ?_
        refine q_getR hx hb hts hown hK hP fd_RX8_36 (q_ltW0 hoa) (q_kdW_0 hoa) rfl (q_rhW_0_5 hoa) dX8_readPresent_41 ?_
        refine q_getR hx hb hts hown hK hP fd_RX8_45 (q_ltW hoa rfl) (q_kdW_14 hoa) rfl (q_rhW_14_5 hoa) dX8_readPresent_44 ?_
        refine lv_iload_n hx hb dX8_readPresent_47 rfl (lv_at hl 2 rfl) ?_
        refine q_iald hx hb hK hP (q_ltW hoa rfl) (q_kdW_19 hoa) r5 dX8_readPresent_48 h ?_
        clear h; intro x9 r9 h
        refine lv_iconst (v := q_I (-1)) hx hb dX8_readPresent_49 rfl ?_
        refine q_jn_in h (fun J => ∀ (μ10 : q_M) (H : Heap) (locs : List Loc) (ls : Array Slot), q_P D dA q_kdC q_rhoC 77 z sz μ10 H → va_S (q_A z 77) s.heap H locs → lv_has ls 3 [(0, .ref (z + 56)), (1, .ref (z + oa)), (2, .int (q_I x5))] → J μ10 = some μo → W p l e ({ frames := 2, cells := 0, slots := 0, locals := 69 } : Room) s m args below meth c H locs 0 0 Qf (F0 m 79 ls [])) ?_ ?_
        · clear h hl hP hS; intro μ10 H locs ls  hP hS hl h
          refine q_iinc (k := 2) (lv' := fun t => [(2, .int (q_I t)), (0, .ref (z + 56)), (1, .ref (z + oa))]) hx hb dX8_readPresent_79 hl rfl (by decide) (fun _ => rfl) h ?_
          clear h hl; intro x11 ls r11 hl h
          refine lv_goto (tgt := 29) hx hb dX8_readPresent_82 (by decide) ?_
          exact ih29 x11 μ10 _ _ _ r11 hP hS (lv_sub hl [1, 2, 0] rfl) h
        · clear h; intro j79 hj79 h
          refine q_cne hx hb r9 (q_r (-1) rfl) (tgt := 79) dX8_readPresent_50 (by decide) h ?_ ?_
          · clear h; intro g17 h
            refine lv_aload_n hx hb dX8_readPresent_53 rfl (lv_at hl 0 rfl) ?_
            refine q_getR hx hb hts hown hK hP fd_RX8_15 (Nat.le_of_ble_eq_true rfl) q_kdC_56 rfl q_rhC_56_2 dX8_readPresent_54 ?_
            refine lv_aload_n hx hb dX8_readPresent_57 rfl (lv_at hl 1 rfl) ?_
            refine q_getR hx hb hts hown hK hP fd_RX8_36 (q_ltW0 hoa) (q_kdW_0 hoa) rfl (q_rhW_0_5 hoa) dX8_readPresent_58 ?_
            refine q_getR hx hb hts hown hK hP fd_RX8_48 (q_ltW hoa rfl) (q_kdW_14 hoa) rfl (q_rhW_14_2 hoa) dX8_readPresent_61 ?_
            refine lv_iload_n hx hb dX8_readPresent_64 rfl (lv_at hl 2 rfl) ?_
            refine q_iald hx hb hK hP (q_ltW hoa rfl) (q_kdW_16 hoa) r5 dX8_readPresent_65 h ?_
            clear h; intro x12 r12 h
            refine lv_dup2_11 hx hb dX8_readPresent_66 rfl rfl ?_
            refine q_iald hx hb hK hP (Nat.le_of_ble_eq_true rfl) q_kdC_58 r12 dX8_readPresent_67 h ?_
            clear h; intro x13 r13 h
            refine lv_aload_n hx hb dX8_readPresent_68 rfl (lv_at hl 1 rfl) ?_
            refine q_getR hx hb hts hown hK hP fd_RX8_36 (q_ltW0 hoa) (q_kdW_0 hoa) rfl (q_rhW_0_5 hoa) dX8_readPresent_69 ?_
            refine q_getR hx hb hts hown hK hP fd_RX8_51 (q_ltW hoa rfl) (q_kdW_14 hoa) rfl (q_rhW_14_3 hoa) dX8_readPresent_72 ?_
            refine lv_iload_n hx hb dX8_readPresent_75 rfl (lv_at hl 2 rfl) ?_
            refine q_iald hx hb hK hP (q_ltW hoa rfl) (q_kdW_17 hoa) r5 dX8_readPresent_76 h ?_
            clear h; intro x14 r14 h
            refine q_iadd hx hb dX8_readPresent_77 h ?_
            clear h; intro x15 r15 h
            refine q_iast hx hb hK hP hS hA (Nat.le_of_ble_eq_true rfl) q_kdC_58 r12 r15 dX8_readPresent_78 h ?_
            clear h hP hS; intro μ16 H locs hP hS h
            exact hj79 μ16 _ _ _ hP hS (lv_sub hl [0, 1, 2] rfl) h
          · clear h; intro g17 h
            exact hj79 μ6 _ _ _ hP hS (lv_sub hl [0, 1, 2] rfl) h
  refine L29 _ ?_  _ 0 μ4 _ _ _ (q_r 0 rfl) hP hS (lv_sub hl [1, 2, 0] rfl) h
  · clear h hl hP hS; intro μ7 H locs ls  hP hS hl h
    rw [← hQ]
    exact q_retv hx hb hr hlocks hP hS h dX8_readPresent_85
set_option maxHeartbeats 4000000 in
set_option maxRecDepth 100000 in
theorem c_St_valueOf (l : Launch) (D : va_G) (dA : Nat → ClassId) {z sz : Nat} {N : Nat} {a0 : Int} (ra0 : q_R a0) {a1 : Int} (ra1 : q_R a1) {μ : q_M} {xo : Int} (h : f_St_valueOf N a0 a1 μ = some xo) : Met l yX8_valueOf (q_wc yX8_valueOf cX8_valueOf 5 (some .int)) ({ frames := 1, cells := 0, slots := 0, locals := 22 } : Room) (va_Pc [.ref (z + 56), .int (q_I a0), .int (q_I a1)] (q_B (q_P D dA q_kdC q_rhoC 77 z sz μ) D dA)) (q_Q (some (.int (q_I xo))) (q_R xo) (q_P D dA q_kdC q_rhoC 77 z sz μ) (q_A z 77)) 0 0 (q_A z 77) := by
  refine Met.ofW (cc := cX8_valueOf) (maxL := 5) (ret := (some .int)) (by decide) rfl ?_
  intro p e s m args below meth c s₁ B hml hv
  obtain ⟨hargs, hP, hK⟩ := hv
  have hx := B.exec
  have hb := B.bytes
  have hr := B.returns
  have hts : ∀ w ∈ q_W, w.before args s = true := fun w hw => atoms_spec (ws := q_wc yX8_valueOf cX8_valueOf 5 (some .int)) B.pre w (List.mem_cons_of_mem _ hw)
  have hown : s.vm.findClass RX8 = some m.cls := findClass_of_methodNamed B.named
  have hlocks := B.notSynchronized
  have hS : va_S (q_A z 77) s.heap s.heap [] := va_S.rf
  have hA : ∀ k, k < 77 → q_A z 77 (z + k) := fun k hk => ⟨Nat.le_add_right z k, Nat.add_lt_add_left hk z⟩
  have hl := lv_entry [.ref (z + 56), .int (q_I a0), .int (q_I a1)] (n := 5) (Nat.le_of_ble_eq_true rfl)
  refine W.eq (by rw [hargs, lg_entry_eq]) ?_
  generalize (lg_sl [.ref (z + 56), .int (q_I a0), .int (q_I a1)] ++ List.replicate (5 - (lg_sl [.ref (z + 56), .int (q_I a0), .int (q_I a1)]).length) Slot.unset).toArray = ls at hl ⊢
  have hl : lv_has ls 5 [(0, .ref (z + 56)), (1, .int (q_I a0)), (2, .int (q_I a1))] := hl
  generalize hQ : MQ below _ args s 0 0 _ = Qf
  change W p l e ({ frames := 1, cells := 0, slots := 0, locals := 22 } : Room) s m args below meth c s.heap [] 0 0 Qf (F0 m 0 ls [])
  unfold f_St_valueOf at h
  refine lv_iload_n hx hb dX8_valueOf_0 rfl (lv_at hl 1 rfl) ?_
  refine lv_bipush (v := q_I 9) hx hb dX8_valueOf_1 (by decide) ?_
  refine q_cne hx hb ra0 (q_r 9 rfl) (tgt := 13) dX8_valueOf_3 (by decide) h ?_ ?_
  · clear h; intro g23 h
    refine lv_aload_n hx hb dX8_valueOf_6 rfl (lv_at hl 0 rfl) ?_
    refine q_getR hx hb hts hown hK hP fd_RX8_15 (Nat.le_of_ble_eq_true rfl) q_kdC_56 rfl q_rhC_56_2 dX8_valueOf_7 ?_
    refine lv_iload_n hx hb dX8_valueOf_10 rfl (lv_at hl 2 rfl) ?_
    refine q_iald hx hb hK hP (Nat.le_of_ble_eq_true rfl) q_kdC_58 ra1 dX8_valueOf_11 h ?_
    clear h; intro x22 r22 h
    rw [← hQ]
    exact q_ret1 hx hb hr hlocks hP hS r22 h dX8_valueOf_12
  · clear h; intro g23 h
    refine lv_iload_n hx hb dX8_valueOf_13 rfl (lv_at hl 1 rfl) ?_
    refine lv_bipush (v := q_I 8) hx hb dX8_valueOf_14 (by decide) ?_
    refine q_ceq hx hb ra0 (q_r 8 rfl) (tgt := 48) dX8_valueOf_16 (by decide) h ?_ ?_
    · clear h; intro g21 h
      refine lv_aload_n hx hb dX8_valueOf_48 rfl (lv_at hl 0 rfl) ?_
      refine q_getR hx hb hts hown hK hP fd_RX8_15 (Nat.le_of_ble_eq_true rfl) q_kdC_56 rfl q_rhC_56_2 dX8_valueOf_49 ?_
      refine lv_iload_n hx hb dX8_valueOf_52 rfl (lv_at hl 2 rfl) ?_
      refine q_iald hx hb hK hP (Nat.le_of_ble_eq_true rfl) q_kdC_58 ra1 dX8_valueOf_53 h ?_
      clear h; intro x1 r1 h
      refine lv_istore_n (lv' := [(3, .int (q_I x1)), (0, .ref (z + 56)), (1, .int (q_I a0)), (2, .int (q_I a1))]) hx hb dX8_valueOf_54 rfl hl (by decide) rfl ?_
      clear hl; intro ls hl
      refine lv_iconst (v := q_I 0) hx hb dX8_valueOf_55 rfl ?_
      refine lv_istore (lv' := [(4, .int (q_I 0)), (3, .int (q_I x1)), (0, .ref (z + 56)), (1, .int (q_I a0)), (2, .int (q_I a1))]) hx hb dX8_valueOf_56 hl (by decide) rfl ?_
      clear hl; intro ls hl
      have L58 : ∀ (k87 : Int → Option Int), (∀ (x4 : Int) (H : Heap) (locs : List Loc) (ls : Array Slot), q_R x4 → q_P D dA q_kdC q_rhoC 77 z sz μ H → va_S (q_A z 77) s.heap H locs → lv_has ls 5 [(3, .int (q_I x4))] → k87 x4 = some xo → W p l e ({ frames := 1, cells := 0, slots := 0, locals := 22 } : Room) s m args below meth c H locs 0 0 Qf (F0 m 87 ls [])) → ∀ (nf58 : Nat) (x2 : Int) (x3 : Int) (H : Heap) (locs : List Loc) (ls : Array Slot), q_R x2 → q_R x3 → q_P D dA q_kdC q_rhoC 77 z sz μ H → va_S (q_A z 77) s.heap H locs → lv_has ls 5 [(0, .ref (z + 56)), (2, .int (q_I a1)), (3, .int (q_I x2)), (4, .int (q_I x3))] → f_St_valueOf_L58 a1 μ k87 nf58 x2 x3 = some xo → W p l e ({ frames := 1, cells := 0, slots := 0, locals := 22 } : Room) s m args below meth c H locs 0 0 Qf (F0 m 58 ls []) := by
        clear h hl hP hS
        intro k87 hk87 nf58
        induction nf58 with
        | zero =>
          intro x2 x3 H locs ls r2 r3 hP hS hl h
          rw [f_St_valueOf_L58] at h
          cases h
        | succ nf58 ih58 =>
          intro x2 x3 H locs ls r2 r3 hP hS hl h
          rw [f_St_valueOf_L58] at h
          refine lv_iload hx hb dX8_valueOf_58 (lv_at hl 3 rfl) ?_
          refine lv_aload_n hx hb dX8_valueOf_60 rfl (lv_at hl 0 rfl) ?_
          refine q_getI hx hb hts hown hK hP fd_RX8_24 (Nat.le_of_ble_eq_true rfl) q_kdC_56 rfl dX8_valueOf_61 h ?_
          clear h; intro x5 r5 h
          refine q_cge hx hb r3 r5 (tgt := 87) dX8_valueOf_64 (by decide) h ?_ ?_
          · clear h; intro g11 h
            exact hk87 x2 _ _ _ r2 hP hS (lv_sub hl [2] rfl) h
          · clear h; intro g11 h
            refine lv_iload_n hx hb dX8_valueOf_67 rfl (lv_at hl 2 rfl) ?_
            refine lv_aload_n hx hb dX8_valueOf_68 rfl (lv_at hl 0 rfl) ?_
            refine q_getR hx hb hts hown hK hP fd_RX8_9 (Nat.le_of_ble_eq_true rfl) q_kdC_56 rfl q_rhC_56_1 dX8_valueOf_69 ?_
            refine lv_iload hx hb dX8_valueOf_72 (lv_at hl 3 rfl) ?_
            refine lv_iload_n hx hb dX8_valueOf_74 rfl (lv_at hl 1 rfl) ?_
            obtain ⟨x7, hv6, h⟩ := q_b_some h
            refine q_callN hx hb hml hts hown hK hP hS (As := [.int (q_I x3), .int (q_I a1)]) (rest := [.ref (z + 57), .int (q_I x2)]) (st1 := [.int (q_I x7), .ref (z + 57), .int (q_I x2)]) cn_RX8_54 (c_CR_slot l D dA r3 ra1 hv6) ⟨rfl, rfl, Nat.le_of_ble_eq_true rfl, Nat.le_of_ble_eq_true rfl⟩ ⟨Nat.le_refl _, Nat.le_refl _⟩ rfl hl.1 rfl (Nat.le_of_ble_eq_true rfl) rfl (fun _ g => g) dX8_valueOf_75 ?_
            clear hP hS hv6; intro H locs r7 hP hS _
            refine q_iald hx hb hK hP (Nat.le_of_ble_eq_true rfl) q_kdC_57 r7 dX8_valueOf_78 h ?_
            clear h; intro x8 r8 h
            refine q_iadd hx hb dX8_valueOf_79 h ?_
            clear h; intro x9 r9 h
            refine lv_istore_n (lv' := [(3, .int (q_I x9)), (0, .ref (z + 56)), (2, .int (q_I a1)), (4, .int (q_I x3))]) hx hb dX8_valueOf_80 rfl hl (by decide) rfl ?_
            clear hl; intro ls hl
            refine q_iinc (k := 3) (lv' := fun t => [(4, .int (q_I t)), (3, .int (q_I x9)), (0, .ref (z + 56)), (2, .int (q_I a1))]) hx hb dX8_valueOf_81 hl rfl (by decide) (fun _ => rfl) h ?_
            clear h hl; intro x10 ls r10 hl h
            refine lv_goto (tgt := 58) hx hb dX8_valueOf_84 (by decide) ?_
            exact ih58 x9 x10 _ _ _ r9 r10 hP hS (lv_sub hl [2, 3, 1, 0] rfl) h
      refine L58 _ ?_  _ x1 0 _ _ _ r1 (q_r 0 rfl) hP hS (lv_sub hl [2, 4, 1, 0] rfl) h
      · clear h hl hP hS; intro x4 H locs ls r4 hP hS hl h
        refine lv_iload_n hx hb dX8_valueOf_87 rfl (lv_at hl 0 rfl) ?_
        rw [← hQ]
        exact q_ret1 hx hb hr hlocks hP hS r4 h dX8_valueOf_88
    · clear h; intro g21 h
      refine lv_iload_n hx hb dX8_valueOf_19 rfl (lv_at hl 1 rfl) ?_
      refine lv_iconst (v := q_I 0) hx hb dX8_valueOf_20 rfl ?_
      refine lv_aload_n hx hb dX8_valueOf_21 rfl (lv_at hl 0 rfl) ?_
      refine q_getI hx hb hts hown hK hP fd_RX8_24 (Nat.le_of_ble_eq_true rfl) q_kdC_56 rfl dX8_valueOf_22 h ?_
      clear h; intro x12 r12 h
      refine lv_iconst (v := q_I 1) hx hb dX8_valueOf_25 rfl ?_
      refine q_isub hx hb dX8_valueOf_26 h ?_
      clear h; intro x13 r13 h
      obtain ⟨x15, hv14, h⟩ := q_b_some h
      refine q_callN hx hb hml hts hown hK hP hS (As := [.int (q_I a0), .int (q_I 0), .int (q_I x13)]) (rest := []) (st1 := [.int (q_I x15)]) cn_RX8_65 (c_CR_within l D dA ra0 (q_r 0 rfl) r13 hv14) ⟨rfl, rfl, Nat.le_of_ble_eq_true rfl, Nat.le_of_ble_eq_true rfl⟩ ⟨Nat.le_refl _, Nat.le_refl _⟩ rfl hl.1 rfl (Nat.le_of_ble_eq_true rfl) rfl (fun _ g => g) dX8_valueOf_27 ?_
      clear hP hS hv14; intro H locs r15 hP hS _
      refine q_jn_in h (fun J => ∀ (x16 : Int) (H : Heap) (locs : List Loc) (ls : Array Slot), q_R x16 → q_P D dA q_kdC q_rhoC 77 z sz μ H → va_S (q_A z 77) s.heap H locs → lv_has ls 5 [] → J x16 = some xo → W p l e ({ frames := 1, cells := 0, slots := 0, locals := 22 } : Room) s m args below meth c H locs 0 0 Qf (F0 m 47 ls [.int (q_I x16)])) ?_ ?_
      · clear h hl hP hS; intro x16 H locs ls r16 hP hS hl h
        rw [← hQ]
        exact q_ret1 hx hb hr hlocks hP hS r16 h dX8_valueOf_47
      · clear h; intro j47 hj47 h
        refine q_zeq hx hb r15 (tgt := 46) dX8_valueOf_30 (by decide) h ?_ ?_
        · clear h; intro g20 h
          refine lv_iconst (v := q_I 0) hx hb dX8_valueOf_46 rfl ?_
          exact hj47 0 _ _ _ (q_r 0 rfl) hP hS (lv_sub hl [] rfl) h
        · clear h; intro g20 h
          refine lv_aload_n hx hb dX8_valueOf_33 rfl (lv_at hl 0 rfl) ?_
          refine q_getR hx hb hts hown hK hP fd_RX8_9 (Nat.le_of_ble_eq_true rfl) q_kdC_56 rfl q_rhC_56_1 dX8_valueOf_34 ?_
          refine lv_iload_n hx hb dX8_valueOf_37 rfl (lv_at hl 1 rfl) ?_
          refine lv_iload_n hx hb dX8_valueOf_38 rfl (lv_at hl 2 rfl) ?_
          obtain ⟨x18, hv17, h⟩ := q_b_some h
          refine q_callN hx hb hml hts hown hK hP hS (As := [.int (q_I a0), .int (q_I a1)]) (rest := [.ref (z + 57)]) (st1 := [.int (q_I x18), .ref (z + 57)]) cn_RX8_54 (c_CR_slot l D dA ra0 ra1 hv17) ⟨rfl, rfl, Nat.le_of_ble_eq_true rfl, Nat.le_of_ble_eq_true rfl⟩ ⟨Nat.le_refl _, Nat.le_refl _⟩ rfl hl.1 rfl (Nat.le_of_ble_eq_true rfl) rfl (fun _ g => g) dX8_valueOf_39 ?_
          clear hP hS hv17; intro H locs r18 hP hS _
          refine q_iald hx hb hK hP (Nat.le_of_ble_eq_true rfl) q_kdC_57 r18 dX8_valueOf_42 h ?_
          clear h; intro x19 r19 h
          refine lv_goto (tgt := 47) hx hb dX8_valueOf_43 (by decide) ?_
          exact hj47 x19 _ _ _ r19 hP hS (lv_sub hl [] rfl) h
