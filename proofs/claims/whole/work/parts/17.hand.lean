/-! Arrays.fill, System.arraycopy -/
theorem q_fi_in {α : Type} {out : α} {μ : q_M} {k n : Nat} {v : Int} {K : q_M → Option α} (h : q_fi μ k n v K = some out) : K (q_fill μ k n v) = some out := h
theorem q_cp_in {α : Type} {out : α} {μ : q_M} {a b n : Nat} {K : q_M → Option α} (h : q_cp μ a b n K = some out) : K (q_copy μ a b n) = some out := h
theorem q_fill_up {μ : q_M} {k i : Nat} {v : Int} : q_up (q_fill μ k i v) k i v = q_fill μ k (i + 1) v := by
  funext k' j
  unfold q_up q_fill
  by_cases h1 : k' = k
  · subst h1
    by_cases h2 : j = i
    · subst h2
      simp
    · by_cases h3 : j < i
      · simp [h2, h3, Nat.lt_succ_of_lt h3]
      · simp [h2, h3, show ¬ j < i + 1 by omega]
  · simp [h1]
theorem q_fill_0 {μ : q_M} {k : Nat} {v : Int} : q_fill μ k 0 v = μ := by
  funext k' j
  simp [q_fill]
set_option maxHeartbeats 4000000 in
theorem c_fillI (l : Launch) (D : va_G) (dA : Nat → ClassId) {kd : Nat → Nat × Nat} {r : Nat → Nat → Option Nat} {n z sz k len : Nat} {v : Int} {μ : q_M} (hk : k < n) (hkd : kd k = (1, len)) (rv : q_R v) (hlen : len ≤ 1000000) (hA : ∀ k, k < n → q_A z n (z + k)) : Met l yJ7_fill_53178 (q_wc yJ7_fill_53178 cJ7_fill_53178 4 none) ({ frames := 0, cells := 0, slots := 0, locals := 0 } : Room) (va_Pc [.ref (z + k), .int (q_I v)] (q_B (q_P D dA kd r n z sz μ) D dA)) (q_Q none True (q_P D dA kd r n z sz (q_fill μ k len v)) (q_A z n)) 0 0 (q_A z n) := by
  refine Met.ofW (cc := cJ7_fill_53178) (maxL := 4) (ret := none) (by decide) rfl ?_
  intro p e s m args below meth c s₁ B hml hv
  obtain ⟨hargs, hP, hK⟩ := hv
  have hx := B.exec
  have hb := B.bytes
  have hr := B.returns
  have hlocks := B.notSynchronized
  have hS : va_S (q_A z n) s.heap s.heap [] := va_S.rf
  have hl := lv_entry [.ref (z + k), .int (q_I v)] (n := 4) (Nat.le_of_ble_eq_true rfl)
  refine W.eq (by rw [hargs, lg_entry_eq]) ?_
  generalize (lg_sl [.ref (z + k), .int (q_I v)] ++ List.replicate (4 - (lg_sl [.ref (z + k), .int (q_I v)]).length) Slot.unset).toArray = ls at hl ⊢
  have hl : lv_has ls 4 [(0, .ref (z + k)), (1, .int (q_I v))] := hl
  refine lv_iconst (v := q_I 0) hx hb dJ7_fill_53178_0 rfl ?_
  refine lv_istore_n (lv' := [(2, .int (q_I 0)), (0, .ref (z + k)), (1, .int (q_I v))]) hx hb dJ7_fill_53178_1 rfl hl (by decide) rfl ?_
  clear hl; intro ls hl
  refine lv_aload_n hx hb dJ7_fill_53178_2 rfl (lv_at hl 1 rfl) ?_
  refine q_alen (v := (len : Int)) hx hb hK hP hk hkd (by decide) rfl dJ7_fill_53178_3 ?_
  refine lv_istore_n (lv' := [(3, .int (q_I len)), (2, .int (q_I 0)), (0, .ref (z + k)), (1, .int (q_I v))]) hx hb dJ7_fill_53178_4 rfl hl (by decide) rfl ?_
  clear hl; intro ls hl
  have rl : q_R (len : Int) := ⟨by omega, by omega⟩
  have key : ∀ (d i : Nat) (H : Heap) (locs : List Loc) (ls : Array Slot), i + d = len → q_P D dA kd r n z sz (q_fill μ k i v) H → va_S (q_A z n) s.heap H locs → lv_has ls 4 [(3, .int (q_I len)), (2, .int (q_I i)), (0, .ref (z + k)), (1, .int (q_I v))] → W p l e ({ frames := 0, cells := 0, slots := 0, locals := 0 } : Room) s m args below meth c H locs 0 0 (MQ below (q_Q none True (q_P D dA kd r n z sz (q_fill μ k len v)) (q_A z n)) args s 0 0 (q_A z n)) (F0 m 5 ls []) := by
    clear hP hS hl
    intro d
    induction d with
    | zero =>
      intro i H locs ls hi hP hS hl
      have ri : q_R (i : Int) := ⟨by omega, by omega⟩
      refine lv_iload_n hx hb dJ7_fill_53178_5 rfl (lv_at hl 1 rfl) ?_
      refine lv_iload_n hx hb dJ7_fill_53178_6 rfl (lv_at hl 0 rfl) ?_
      have e : i = len := by omega
      subst e
      refine q_cge hx hb ri rl (tgt := 20) dJ7_fill_53178_7 (by decide) (h := (by rw [if_pos (Int.le_refl _)] : (if (i : Int) ≤ (i : Int) then some (q_fill μ k i v) else none) = some (q_fill μ k i v))) ?_ ?_
      · intro _ _
        exact q_retv hx hb hr hlocks hP hS rfl dJ7_fill_53178_20
      · intro g _
        exact absurd (Int.le_refl _) g
    | succ d ih =>
      intro i H locs ls hi hP hS hl
      have ri : q_R (i : Int) := ⟨by omega, by omega⟩
      refine lv_iload_n hx hb dJ7_fill_53178_5 rfl (lv_at hl 1 rfl) ?_
      refine lv_iload_n hx hb dJ7_fill_53178_6 rfl (lv_at hl 0 rfl) ?_
      refine q_cge hx hb ri rl (tgt := 20) dJ7_fill_53178_7 (by decide) (h := (by rw [if_neg (by omega)] : (if (len : Int) ≤ (i : Int) then none else some (q_fill μ k len v)) = some (q_fill μ k len v))) ?_ ?_
      · intro g _
        exact absurd g (by omega)
      · intro _ _
        refine lv_aload_n hx hb dJ7_fill_53178_10 rfl (lv_at hl 2 rfl) ?_
        refine lv_iload_n hx hb dJ7_fill_53178_11 rfl (lv_at hl 1 rfl) ?_
        refine lv_iload_n hx hb dJ7_fill_53178_12 rfl (lv_at hl 3 rfl) ?_
        refine q_iast hx hb hK hP hS hA hk hkd ri rv dJ7_fill_53178_13 (K := fun m => some m) (out := q_fill μ k (i + 1) v) ?_ ?_
        · unfold q_st
          rw [if_pos ⟨by omega, by omega⟩, Int.toNat_natCast, q_fill_up]
        · clear hP hS
          intro μ1 H locs hP hS g
          cases g
          refine q_iinc (d := 1) (k := 1) (lv' := fun t => [(2, .int (q_I t)), (3, .int (q_I len)), (0, .ref (z + k)), (1, .int (q_I v))]) hx hb dJ7_fill_53178_14 hl rfl (by decide) (fun _ => rfl) (K := fun t => some t) (out := (i : Int) + 1) ?_ ?_
          · unfold q_ck
            rw [if_pos ⟨by omega, by omega⟩]
          · clear hl
            intro t ls rt hl g
            cases g
            refine lv_goto (tgt := 5) hx hb dJ7_fill_53178_17 (by decide) ?_
            exact ih (i + 1) _ _ _ (by omega) hP hS (lv_sub hl [1, 0, 2, 3] rfl)
  exact key len 0 _ _ _ (by omega) (by rw [q_fill_0]; exact hP) hS hl
set_option maxHeartbeats 4000000 in
theorem c_fillL (l : Launch) (D : va_G) (dA : Nat → ClassId) {kd : Nat → Nat × Nat} {r : Nat → Nat → Option Nat} {n z sz k len : Nat} {v : Int} {μ : q_M} (hk : k < n) (hkd : kd k = (2, len)) (rv : q_S v) (hlen : len ≤ 1000000) (hA : ∀ k, k < n → q_A z n (z + k)) : Met l yJ7_fill_d0a16 (q_wc yJ7_fill_d0a16 cJ7_fill_d0a16 5 none) ({ frames := 0, cells := 0, slots := 0, locals := 0 } : Room) (va_Pc [.ref (z + k), .long (q_J v)] (q_B (q_P D dA kd r n z sz μ) D dA)) (q_Q none True (q_P D dA kd r n z sz (q_fill μ k len v)) (q_A z n)) 0 0 (q_A z n) := by
  refine Met.ofW (cc := cJ7_fill_d0a16) (maxL := 5) (ret := none) (by decide) rfl ?_
  intro p e s m args below meth c s₁ B hml hv
  obtain ⟨hargs, hP, hK⟩ := hv
  have hx := B.exec
  have hb := B.bytes
  have hr := B.returns
  have hlocks := B.notSynchronized
  have hS : va_S (q_A z n) s.heap s.heap [] := va_S.rf
  have hl := lv_entry [.ref (z + k), .long (q_J v)] (n := 5) (Nat.le_of_ble_eq_true rfl)
  refine W.eq (by rw [hargs, lg_entry_eq]) ?_
  generalize (lg_sl [.ref (z + k), .long (q_J v)] ++ List.replicate (5 - (lg_sl [.ref (z + k), .long (q_J v)]).length) Slot.unset).toArray = ls at hl ⊢
  have hl : lv_has ls 5 [(0, .ref (z + k)), (1, .long (q_J v))] := hl
  refine lv_iconst (v := q_I 0) hx hb dJ7_fill_d0a16_0 rfl ?_
  refine lv_istore_n (lv' := [(3, .int (q_I 0)), (0, .ref (z + k)), (1, .long (q_J v))]) hx hb dJ7_fill_d0a16_1 rfl hl (by decide) rfl ?_
  clear hl; intro ls hl
  refine lv_aload_n hx hb dJ7_fill_d0a16_2 rfl (lv_at hl 1 rfl) ?_
  refine q_alen (v := (len : Int)) hx hb hK hP hk hkd (by decide) rfl dJ7_fill_d0a16_3 ?_
  refine lv_istore (lv' := [(4, .int (q_I len)), (3, .int (q_I 0)), (0, .ref (z + k)), (1, .long (q_J v))]) hx hb dJ7_fill_d0a16_4 hl (by decide) rfl ?_
  clear hl; intro ls hl
  have rl : q_R (len : Int) := ⟨by omega, by omega⟩
  have key : ∀ (d i : Nat) (H : Heap) (locs : List Loc) (ls : Array Slot), i + d = len → q_P D dA kd r n z sz (q_fill μ k i v) H → va_S (q_A z n) s.heap H locs → lv_has ls 5 [(4, .int (q_I len)), (3, .int (q_I i)), (0, .ref (z + k)), (1, .long (q_J v))] → W p l e ({ frames := 0, cells := 0, slots := 0, locals := 0 } : Room) s m args below meth c H locs 0 0 (MQ below (q_Q none True (q_P D dA kd r n z sz (q_fill μ k len v)) (q_A z n)) args s 0 0 (q_A z n)) (F0 m 6 ls []) := by
    clear hP hS hl
    intro d
    induction d with
    | zero =>
      intro i H locs ls hi hP hS hl
      have ri : q_R (i : Int) := ⟨by omega, by omega⟩
      refine lv_iload_n hx hb dJ7_fill_d0a16_6 rfl (lv_at hl 1 rfl) ?_
      refine lv_iload hx hb dJ7_fill_d0a16_7 (lv_at hl 0 rfl) ?_
      have e : i = len := by omega
      subst e
      refine q_cge hx hb ri rl (tgt := 22) dJ7_fill_d0a16_9 (by decide) (h := (by rw [if_pos (Int.le_refl _)] : (if (i : Int) ≤ (i : Int) then some (q_fill μ k i v) else none) = some (q_fill μ k i v))) ?_ ?_
      · intro _ _
        exact q_retv hx hb hr hlocks hP hS rfl dJ7_fill_d0a16_22
      · intro g _
        exact absurd (Int.le_refl _) g
    | succ d ih =>
      intro i H locs ls hi hP hS hl
      have ri : q_R (i : Int) := ⟨by omega, by omega⟩
      refine lv_iload_n hx hb dJ7_fill_d0a16_6 rfl (lv_at hl 1 rfl) ?_
      refine lv_iload hx hb dJ7_fill_d0a16_7 (lv_at hl 0 rfl) ?_
      refine q_cge hx hb ri rl (tgt := 22) dJ7_fill_d0a16_9 (by decide) (h := (by rw [if_neg (by omega)] : (if (len : Int) ≤ (i : Int) then none else some (q_fill μ k len v)) = some (q_fill μ k len v))) ?_ ?_
      · intro g _
        exact absurd g (by omega)
      · intro _ _
        refine lv_aload_n hx hb dJ7_fill_d0a16_12 rfl (lv_at hl 2 rfl) ?_
        refine lv_iload_n hx hb dJ7_fill_d0a16_13 rfl (lv_at hl 1 rfl) ?_
        refine lv_lload_n hx hb dJ7_fill_d0a16_14 rfl (lv_at hl 3 rfl) ?_
        refine q_last hx hb hK hP hS hA hk hkd ri rv dJ7_fill_d0a16_15 (K := fun m => some m) (out := q_fill μ k (i + 1) v) ?_ ?_
        · unfold q_st
          rw [if_pos ⟨by omega, by omega⟩, Int.toNat_natCast, q_fill_up]
        · clear hP hS
          intro μ1 H locs hP hS g
          cases g
          refine q_iinc (d := 1) (k := 1) (lv' := fun t => [(3, .int (q_I t)), (4, .int (q_I len)), (0, .ref (z + k)), (1, .long (q_J v))]) hx hb dJ7_fill_d0a16_16 hl rfl (by decide) (fun _ => rfl) (K := fun t => some t) (out := (i : Int) + 1) ?_ ?_
          · unfold q_ck
            rw [if_pos ⟨by omega, by omega⟩]
          · clear hl
            intro t ls rt hl g
            cases g
            refine lv_goto (tgt := 6) hx hb dJ7_fill_d0a16_19 (by decide) ?_
            exact ih (i + 1) _ _ _ (by omega) hP hS (lv_sub hl [1, 0, 2, 3] rfl)
  exact key len 0 _ _ _ (by omega) (by rw [q_fill_0]; exact hP) hS hl

section QCP
variable {p : Program} {l : Launch} {e : Env} {R : Room} {s : State} {m : MethodId} {args : Array Value} {below : List Frame} {meth : Method} {c : Code} {H : Heap} {locs : List Loc} {cells slots : Nat} {Q : State → Prop}
variable {cc : ByteArray} {pc : Nat} {ls : Array Slot} {rest : List Value} {D : va_G} {dA : Nat → ClassId} {kd : Nat → Nat × Nat} {r : Nat → Nat → Option Nat} {n z sz : Nat} {μ : q_M} {A : Nat → Prop} {H0 : Heap}
/-- a whole row of ints laid over another one of the same length -/
theorem q_copyi (hexec : p.tables.exec = Jvm.exec) (hb : c.code = cc) (hml : c.maxLocals = ls.size) {own : String} {index : Nat} (hown : s.vm.findClass own = some m.cls) (hts : ∀ w ∈ q_W, w.before args s = true) (hw : Cond.methodLink own index arraycopyName ∈ q_W ∧ Cond.native arraycopyName ∈ q_W ∧ Cond.static arraycopyName ∈ q_W ∧ Cond.initialized "java/lang/System" ∈ q_W)
    (hK : q_K D dA s) (hP : q_P D dA kd r n z sz μ H) (hS : va_S A H0 H locs) (hA : ∀ k, k < n → A (z + k)) {ka kb len : Nat} (hka : ka < n) (hkda : kd ka = (1, len)) (hkb : kb < n) (hkdb : kd kb = (1, len)) (hlen : len ≤ 1000000)
    (hframes : 1 ≤ R.frames) (hlocals : (rest.map fun v => v.category).sum + 18 ≤ R.locals) (hdg : decode cc pc = .ok (.invokestatic index, 3))
    (kk : ∀ (H1 : Heap) (locs1 : List Loc), q_P D dA kd r n z sz (q_copy μ ka kb len) H1 → va_S A H0 H1 locs1 → W p l e R s m args below meth c H1 locs1 cells slots Q (F0 m (pc + 3) ls rest)) : W p l e R s m args below meth c H locs cells slots Q (F0 m pc ls (.int (q_I len) :: .int (q_I 0) :: .ref (z + kb) :: .int (q_I 0) :: .ref (z + ka) :: rest)) := by
  have rl : q_R (len : Int) := ⟨by omega, by omega⟩
  have hn0 : ¬ q_I (len : Int) < 0 := by
    rw [← q_I0, q_ltI rl q_r0]
    omega
  have hnn : (q_I (len : Int)).toNatClampNeg = len := by rw [q_cla rl, Int.toNat_natCast]
  have h00 : ¬ q_I 0 < 0 := by decide
  have h0n : (q_I 0).toNatClampNeg = 0 := rfl
  have ti : (q_I (len : Int)).toInt = (len : Int) := q_toI rl
  have t0 : (q_I 0).toInt = 0 := rfl
  intro T hT X
  have hc0 : H[z + ka]? = some (vp_cell (dA 0) (len, .inl (fun j => q_I (μ ka j)))) := by
    have h1 := hP.2.1 ka hka
    rw [show q_ent dA (kd ka) z (r ka) (μ ka) = .inl (dA 0, len, .inl (fun j => q_I (μ ka j))) by rw [hkda]; rfl] at h1
    exact h1
  have hc1 : H[z + kb]? = some (vp_cell (dA 0) (len, .inl (fun j => q_I (μ kb j)))) := by
    have h1 := hP.2.1 kb hkb
    rw [show q_ent dA (kd kb) z (r kb) (μ kb) = .inl (dA 0, len, .inl (fun j => q_I (μ kb j))) by rw [hkdb]; rfl] at h1
    exact h1
  obtain ⟨-, k0, hk0, cm0, hkk0⟩ := (hK.1.2 0 _ rfl).1 len (fun j => .int (q_I (μ ka j)))
  obtain ⟨-, k1, hk1, cm1, hkk1⟩ := (hK.1.2 0 _ rfl).1 len (fun j => .int (q_I (μ kb j)))
  obtain ⟨vm', X', step⟩ := X.arraycopy hexec hown (hts _ hw.1) (hts _ hw.2.1) (hts _ hw.2.2.1) (hts _ hw.2.2.2) (src := z + ka) (dst := z + kb) (cs := vp_cell (dA 0) (len, .inl (fun j => q_I (μ ka j)))) (cd := vp_cell (dA 0) (len, .inl (fun j => q_I (μ kb j)))) (srcPos := q_I 0) (destPos := q_I 0) (n := q_I (len : Int)) (by rw [hT]; exact hc0) (by rw [hT]; exact hc1)
    (fun _ h => by cases h) (fun _ h => by cases h) (fun h => by cases h) (fun h => by cases h) hk0 hk1 hkk0 hkk1 (by rfl) h00 h00 hn0
    (by rw [t0, ti]; show ¬ _ > ((arrV (dA 0) len (fun j => .int (q_I (μ ka j)))).slots.size : Int); rw [arrV_size]; omega)
    (by rw [t0, ti]; show ¬ _ > ((arrV (dA 0) len (fun j => .int (q_I (μ kb j)))).slots.size : Int); rw [arrV_size]; omega)
    (fun vm₁ _ i hi => by
      have hi2 : i < len := by rw [hnn] at hi; exact hi
      have e : (vp_cell (dA 0) (len, .inl (fun j => q_I (μ ka j)))).slots.getD ((q_I 0).toNatClampNeg + i) .null = .int (q_I (μ ka i)) := by
        show (arrV (dA 0) len (fun j => .int (q_I (μ ka j)))).slots.getD _ _ = _
        rw [h0n, Nat.zero_add, Array.getD_eq_getD_getElem?, arrV_read _ _ hi2]
        rfl
      refine ⟨?_, ?_⟩
      · rw [e]
        rfl
      · rw [e]
        exact trivial)
    (g := F0 m pc ls (.int (q_I (len : Int)) :: .int (q_I 0) :: .ref (z + kb) :: .int (q_I 0) :: .ref (z + ka) :: rest)) rfl (by rw [hml]) (rest := rest) rfl (by rw [hb]; exact hdg) hframes (by show 2 * 0 + _ + (7 + 11) ≤ _; omega)
  have e1 : copied (vp_cell (dA 0) (len, .inl (fun j => q_I (μ ka j)))) (vp_cell (dA 0) (len, .inl (fun j => q_I (μ kb j)))) (q_I 0) (q_I 0) (q_I (len : Int)) = vp_cell (dA 0) (len, .inl (va_cpy (fun j => q_I (μ ka j)) (fun j => q_I (μ kb j)) 0 0 len)) := by
    have := va_copied (fun z => .int z) (dA 0) (dA 0) (n0 := len) (n1 := len) (sp := 0) (dp := 0) (n := len) (fun j => q_I (μ ka j)) (fun j => q_I (μ kb j)) (by omega)
    unfold copied
    rw [h0n, hnn]
    exact this
  rw [e1] at X' step
  have hl : z + kb < H.size := (Array.getElem?_eq_some_iff.mp hc1).1
  have hheap : ((T.setVm vm').setCell (z + kb) (vp_cell (dA 0) (len, .inl (va_cpy (fun j => q_I (μ ka j)) (fun j => q_I (μ kb j)) 0 0 len)))).heap = H.setIfInBounds (z + kb) (vp_cell (dA 0) (len, .inl (va_cpy (fun j => q_I (μ ka j)) (fun j => q_I (μ kb j)) 0 0 len))) := by rw [← hT]; rfl
  have oq : ∀ q : Nat, q ≠ z + kb → (H.setIfInBounds (z + kb) (vp_cell (dA 0) (len, .inl (va_cpy (fun j => q_I (μ ka j)) (fun j => q_I (μ kb j)) 0 0 len))))[q]? = H[q]? := fun q hq => by simp [Array.getElem?_setIfInBounds, Ne.symm hq]
  have hz : (H.setIfInBounds (z + kb) (vp_cell (dA 0) (len, .inl (va_cpy (fun j => q_I (μ ka j)) (fun j => q_I (μ kb j)) 0 0 len)))).size = H.size := by simp
  generalize hHH : H.setIfInBounds (z + kb) (vp_cell (dA 0) (len, .inl (va_cpy (fun j => q_I (μ ka j)) (fun j => q_I (μ kb j)) 0 0 len))) = H' at hheap oq hz
  have hat : H'[z + kb]? = some (vp_cell (dA 0) (len, .inl (fun j => q_I (q_copy μ ka kb len kb j)))) := by
    rw [← hHH, Array.getElem?_setIfInBounds, if_pos rfl, if_pos hl]
    congr 4
    funext j
    by_cases hj : j < len
    · simp [va_cpy, q_copy, hj]
    · simp [va_cpy, q_copy, hj]
  have hPic : q_P D dA kd r n z sz (q_copy μ ka kb len) H' := by
    refine hP.set (k := kb) (μ' := q_copy μ ka kb len) (fun _ => ?_) hz oq (fun k' hk' => by funext j; simp [q_copy, hk']) (fun k' j => ?_)
    · rw [hkdb]
      exact hat
    · unfold q_copy
      by_cases hc : k' = kb ∧ j < len
      · rw [if_pos hc]
        have h1 := hP.2.2 ka j
        exact ⟨h1.1, fun _ => h1.2 (by rw [hkda]; exact fun q => by cases q)⟩
      · rw [if_neg hc]
        exact hP.2.2 k' j
  obtain ⟨t, a1, b1⟩ := kk H' _ hPic ⟨by rw [hz]; exact hS.1, fun q g1 g2 => by
      rw [oq q (fun e => g2 (by rw [e]; exact hA kb hkb))]
      exact hS.2.1 q g1 g2, fun q hq => by
      rcases List.mem_append.mp hq with h | h
      · exact hS.2.2 q h
      · obtain ⟨z', -, hz'⟩ := List.mem_map.mp h
        rw [← hz']
        exact hA kb hkb⟩ _ hheap X'
  exact ⟨t, step t a1, b1⟩
end QCP
theorem cm_RX10_328 : Cond.methodLink RX10 328 Lib.Math.min.name ∈ q_W ∧ Cond.static Lib.Math.min.name ∈ q_W ∧ Cond.initialized "java/lang/Math" ∈ q_W ∧ Cond.code Lib.Math.min.name Lib.Math.min.code 2 (some .int) ∈ q_W := ⟨(q_inT 710 (by decide +kernel) rfl), (q_inT 711 (by decide +kernel) rfl), (q_inT 14 (by decide +kernel) rfl), (q_inT 712 (by decide +kernel) rfl)⟩
theorem ca_RX10_333 : Cond.methodLink RX10 333 arraycopyName ∈ q_W ∧ Cond.native arraycopyName ∈ q_W ∧ Cond.static arraycopyName ∈ q_W ∧ Cond.initialized "java/lang/System" ∈ q_W := ⟨(q_inT 713 (by decide +kernel) rfl), (q_inT 715 (by decide +kernel) rfl), (q_inT 714 (by decide +kernel) rfl), (q_inT 15 (by decide +kernel) rfl)⟩
set_option maxHeartbeats 4000000 in
theorem c_CR_copyAll (l : Launch) (D : va_G) (dA : Nat → ClassId) {kd : Nat → Nat × Nat} {r : Nat → Nat → Option Nat} {n z sz ka kb len : Nat} {μ : q_M} (hka : ka < n) (hkda : kd ka = (1, len)) (hkb : kb < n) (hkdb : kd kb = (1, len)) (hlen : len ≤ 1000000) (hA : ∀ k, k < n → q_A z n (z + k)) : Met l yX10_copyAll (q_wc yX10_copyAll cX10_copyAll 2 none) ({ frames := 1, cells := 0, slots := 0, locals := 48 } : Room) (va_Pc [.ref (z + ka), .ref (z + kb)] (q_B (q_P D dA kd r n z sz μ) D dA)) (q_Q none True (q_P D dA kd r n z sz (q_copy μ ka kb len)) (q_A z n)) 0 0 (q_A z n) := by
  refine Met.ofW (cc := cX10_copyAll) (maxL := 2) (ret := none) (by decide) rfl ?_
  intro p e s m args below meth c s₁ B hml hv
  obtain ⟨hargs, hP, hK⟩ := hv
  have hx := B.exec
  have hb := B.bytes
  have hr := B.returns
  have hts : ∀ w ∈ q_W, w.before args s = true := fun w hw => atoms_spec (ws := q_wc yX10_copyAll cX10_copyAll 2 none) B.pre w (List.mem_cons_of_mem _ hw)
  have hown : s.vm.findClass RX10 = some m.cls := findClass_of_methodNamed B.named
  have hlocks := B.notSynchronized
  have hS : va_S (q_A z n) s.heap s.heap [] := va_S.rf
  have hl := lv_entry [.ref (z + ka), .ref (z + kb)] (n := 2) (Nat.le_of_ble_eq_true rfl)
  refine W.eq (by rw [hargs, lg_entry_eq]) ?_
  generalize (lg_sl [.ref (z + ka), .ref (z + kb)] ++ List.replicate (2 - (lg_sl [.ref (z + ka), .ref (z + kb)]).length) Slot.unset).toArray = ls at hl ⊢
  have hl : lv_has ls 2 [(0, .ref (z + ka)), (1, .ref (z + kb))] := hl
  have rl : q_R (len : Int) := ⟨by omega, by omega⟩
  change W p l e ({ frames := 1, cells := 0, slots := 0, locals := 48 } : Room) s m args below meth c s.heap [] 0 0 _ (F0 m 0 ls [])
  refine lv_aload_n hx hb dX10_copyAll_0 rfl (lv_at hl 0 rfl) ?_
  refine lv_iconst (v := q_I 0) hx hb dX10_copyAll_1 rfl ?_
  refine lv_aload_n hx hb dX10_copyAll_2 rfl (lv_at hl 1 rfl) ?_
  refine lv_iconst (v := q_I 0) hx hb dX10_copyAll_3 rfl ?_
  refine lv_aload_n hx hb dX10_copyAll_4 rfl (lv_at hl 0 rfl) ?_
  refine q_alen (v := (len : Int)) hx hb hK hP hka hkda (by decide) rfl dX10_copyAll_5 ?_
  refine lv_aload_n hx hb dX10_copyAll_6 rfl (lv_at hl 1 rfl) ?_
  refine q_alen (v := (len : Int)) hx hb hK hP hkb hkdb (by decide) rfl dX10_copyAll_7 ?_
  refine q_mmin hx hb hml hl.1 hts hown cm_RX10_328 ⟨Nat.le_refl _, Nat.le_refl _⟩ (Nat.le_of_ble_eq_true rfl) (Nat.le_of_ble_eq_true rfl) (Nat.le_of_ble_eq_true rfl) rl rl dX10_copyAll_8 (K := fun t => some t) (out := (len : Int)) ?_ ?_
  · unfold q_mn
    rw [if_neg (Int.lt_irrefl _)]
  · intro t _ g
    cases g
    refine q_copyi hx hb (hml.trans hl.1.symm) hown hts ca_RX10_333 hK hP hS hA hka hkda hkb hkdb hlen (Nat.le_of_ble_eq_true rfl) (Nat.le_of_ble_eq_true rfl) dX10_copyAll_11 ?_
    clear hP hS
    intro H locs hP hS
    exact q_retv hx hb hr hlocks hP hS rfl dX10_copyAll_14
