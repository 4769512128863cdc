/-! channels: how many, and the k-th -/
def cnt (p : Int → Bool) (i : Int) (d : Nat) : Int := sm (fun m => bi (p m)) i d
def nth (p : Int → Bool) : Int → Int → Nat → Int
  | _, _, 0 => -1
  | k, i, d + 1 => if p i = true then (if k = 0 then i else nth p (k - 1) (i + 1) d) else nth p k (i + 1) d
theorem cnt_bd {p : Int → Bool} {i : Int} {d : Nat} : 0 ≤ cnt p i d ∧ cnt p i d ≤ d := by
  have := sm_bd (f := fun m => bi (p m)) (a := 0) (b := 1) (d := d) (i := i) (fun j _ _ => bi_bd _)
  unfold cnt
  omega
theorem cnt_s {p : Int → Bool} {i : Int} {d : Nat} : cnt p i (d + 1) = bi (p i) + cnt p (i + 1) d := rfl
theorem nth_in {p : Int → Bool} : ∀ {d : Nat} {k i : Int}, nth p k i d = -1 ∨ (i ≤ nth p k i d ∧ nth p k i d < i + d ∧ p (nth p k i d) = true)
  | 0, _, _ => Or.inl rfl
  | d + 1, k, i => by
    unfold nth
    by_cases h : p i = true
    · rw [if_pos h]
      by_cases g : k = 0
      · rw [if_pos g]
        exact Or.inr ⟨Int.le_refl _, by omega, h⟩
      · rw [if_neg g]
        rcases nth_in (p := p) (d := d) (k := k - 1) (i := i + 1) with e | e
        · exact Or.inl e
        · exact Or.inr ⟨by omega, by omega, e.2.2⟩
    · rw [if_neg h]
      rcases nth_in (p := p) (d := d) (k := k) (i := i + 1) with e | e
      · exact Or.inl e
      · exact Or.inr ⟨by omega, by omega, e.2.2⟩
theorem lp_nth {α : Type} {F : Nat → Int → Int → Option α} {A B : Int → Option α} {p : Int → Bool} {k b : Int} (hx : ∀ nf x, F (nf + 1) x b = B x) (hs : ∀ nf x i, 0 ≤ x → x ≤ i → i < b → F (nf + 1) x i = if p i = true then (if x = k then A i else F nf (x + 1) (i + 1)) else F nf x (i + 1)) : ∀ (d nf : Nat) (x i : Int), 0 ≤ x → x ≤ i → i + d = b → d < nf → F nf x i = if nth p (k - x) i d = -1 then B (x + cnt p i d) else A (nth p (k - x) i d) := by
  intro d
  induction d with
  | zero =>
    intro nf x i h0 h1 h2 h3
    obtain ⟨nf, rfl⟩ : ∃ m, nf = m + 1 := ⟨nf - 1, by omega⟩
    have e : i = b := by omega
    subst e
    rw [hx, nth, if_pos rfl]
    simp [cnt, sm]
  | succ d ih =>
    intro nf x i h0 h1 h2 h3
    obtain ⟨nf, rfl⟩ : ∃ m, nf = m + 1 := ⟨nf - 1, by omega⟩
    rw [hs nf x i h0 h1 (by omega), nth, cnt_s]
    by_cases g : p i = true
    · rw [if_pos g, if_pos g]
      by_cases e : x = k
      · rw [if_pos e, if_pos (show k - x = 0 by omega), if_neg (show ¬ i = -1 by omega)]
      · rw [if_neg e, if_neg (show ¬ k - x = 0 by omega), ih nf (x + 1) (i + 1) (by omega) (by omega) (by omega) (by omega), g, show k - (x + 1) = k - x - 1 by omega, show x + 1 + cnt p (i + 1) d = x + (bi true + cnt p (i + 1) d) by simp [bi]; omega]
    · rw [if_neg g, if_neg g, ih nf x (i + 1) (by omega) (by omega) (by omega) (by omega), Bool.eq_false_iff.mpr g, show bi false + cnt p (i + 1) d = cnt p (i + 1) d by simp [bi]]
theorem wait_C {n c f t m : Int} {o : Nat} {μ : q_M} {w : Int → Int} (hr : rr_C o n μ w) (hv : rv n w c) (hf : 0 ≤ f ∧ f < 5) (ht : 0 ≤ t ∧ t < 5) (h0 : 0 ≤ m) (h1 : m < w 37) : (q_g μ (o + 15) m = f * 5 + t ∧ q_g μ (o + 19) m = -1) ↔ wait w f t m = true := by
  obtain ⟨-, -, -, -, -, -, -, -, -, -, -, rM⟩ := hr
  obtain ⟨v0, -, -, -, -, -, -, -, -, -, -, -, vM, -⟩ := hv
  obtain ⟨r0, -, -, -, r5⟩ := rM m h0 h1
  obtain ⟨m0, m1, -, -, -, -, m5⟩ := vM m h0 h1
  unfold wait
  simp only [Bool.and_eq_true, decide_eq_true_eq]
  rw [r0, r5]
  omega
theorem z_waitingAhead {N o : Nat} {n c f t e : Int} {μ : q_M} {w : Int → Int} (hN : 1000 ≤ N) (hr : rr_C o n μ w) (hv : rv n w c) (hf : 0 ≤ f ∧ f < 5) (ht : 0 ≤ t ∧ t < 5) (h0 : 0 ≤ e) (h1 : e ≤ w 37) : f_Ch_waitingAhead N (o + 14) (f * 5 + t) e μ = some (cnt (wait w f t) 0 e.toNat) := by
  have v3 := hv.2.2.2.1
  unfold f_Ch_waitingAhead
  refine ((lp_sum (F := f_Ch_waitingAhead_L5 (o + 14) (f * 5 + t) e μ fun x3 => some x3) (E := some) (f := fun m => bi (wait w f t m)) (b := e) (fun x i => 0 ≤ x ∧ x ≤ i ∧ 0 ≤ i) ?_ ?_ e.toNat N 0 0 (by omega) (by omega) (by omega)).1).trans (by simp [cnt])
  · intro nf x hP
    rw [f_Ch_waitingAhead_L5, if_pos (Int.le_refl _)]
  · intro nf x i hi hP
    have hb := bi_bd (wait w f t i)
    refine ⟨?_, by omega, by omega, by omega⟩
    have hw := wait_C hr hv hf ht (m := i) (by omega) (by omega)
    rw [f_Ch_waitingAhead_L5, if_neg (by omega)]
    simp (disch := omega) only [z_ld, z_jn, show o + 14 + 1 = o + 15 from rfl, show o + 14 + 5 = o + 19 from rfl]
    by_cases g : q_g μ (o + 15) i = f * 5 + t
    · rw [if_pos g]
      by_cases g5 : q_g μ (o + 19) i = -1
      · rw [if_pos g5, hw.mp ⟨g, g5⟩]
        simp (disch := omega) only [z_ck, bi, if_true]
      · rw [if_neg g5, Bool.eq_false_iff.mpr (fun h => g5 (hw.mpr h).2)]
        simp (disch := omega) [z_ck, bi]
    · rw [if_neg g, Bool.eq_false_iff.mpr (fun h => g (hw.mpr h).1)]
      simp (disch := omega) [z_ck, bi]
theorem z_waitingIn {N o : Nat} {n c f t : Int} {μ : q_M} {w : Int → Int} (hN : 1000 ≤ N) (hr : rr_C o n μ w) (hv : rv n w c) (hf : 0 ≤ f ∧ f < 5) (ht : 0 ≤ t ∧ t < 5) : f_Ch_waitingIn N (o + 14) (f * 5 + t) μ = some (cnt (wait w f t) 0 (w 37).toNat) := by
  have v3 := hv.2.2.2.1
  unfold f_Ch_waitingIn
  rw [z_fl, Int.cast_ofNat_Int, hr.2.2.2.2.2.2.2.2.1, z_waitingAhead hN hr hv hf ht v3.1 (Int.le_refl _), z_b]
theorem z_messageAt {N o : Nat} {n c f t k : Int} {μ : q_M} {w : Int → Int} (hN : 1000 ≤ N) (hr : rr_C o n μ w) (hv : rv n w c) (hf : 0 ≤ f ∧ f < 5) (ht : 0 ≤ t ∧ t < 5) : f_Ch_messageAt N (o + 14) (f * 5 + t) k μ = some (nth (wait w f t) k 0 (w 37).toNat) := by
  have v3 := hv.2.2.2.1
  unfold f_Ch_messageAt
  rw [lp_nth (F := f_Ch_messageAt_L5 (o + 14) (f * 5 + t) k μ (fun x3 => some x3) (some (-1))) (A := some) (B := fun _ => some (-1)) (p := wait w f t) (k := k) (b := w 37) ?_ ?_ (w 37).toNat N 0 0 (by omega) (by omega) (by omega) (by omega)]
  · rw [Int.sub_zero]
    by_cases h : nth (wait w f t) k 0 (w 37).toNat = -1
    · rw [if_pos h, h]
    · rw [if_neg h]
  · intro nf x
    rw [f_Ch_messageAt_L5, z_fl, Int.cast_ofNat_Int, hr.2.2.2.2.2.2.2.2.1, if_pos (Int.le_refl _)]
  · intro nf x i hx0 hxi hi
    have hw := wait_C hr hv hf ht (m := i) (by omega) (by omega)
    rw [f_Ch_messageAt_L5, z_fl, Int.cast_ofNat_Int, hr.2.2.2.2.2.2.2.2.1, if_neg (by omega)]
    simp (disch := omega) only [z_ld, z_jn, show o + 14 + 1 = o + 15 from rfl, show o + 14 + 5 = o + 19 from rfl, z_ck]
    by_cases g : q_g μ (o + 15) i = f * 5 + t
    · rw [if_pos g]
      by_cases g5 : q_g μ (o + 19) i = -1
      · rw [if_pos g5, if_pos (hw.mp ⟨g, g5⟩)]
      · rw [if_neg g5, if_neg (fun h => g5 (hw.mpr h).2)]
    · rw [if_neg g, if_neg (fun h => g (hw.mpr h).1)]
theorem z_waitingFrom {N : Nat} {n c f t a : Int} {μ : q_M} (hN : 1000 ≤ N) (hv : rv n (q_g μ 1) c) (h0 : 0 ≤ a) (h1 : a ≤ q_g μ 1 37) : f_M_waitingFrom N f t a μ = some (fi (wait (q_g μ 1) f t) a (q_g μ 1 37 - a).toNat) := by
  have v3 := hv.2.2.2.1
  unfold f_M_waitingFrom
  have key : ∀ (d nf : Nat) (i : Int), 0 ≤ i → i + d = q_g μ 1 37 → d < nf → f_M_waitingFrom_L3 f t μ (fun x2 => some x2) nf i = some (fi (wait (q_g μ 1) f t) i d) := by
    intro d
    induction d with
    | zero =>
      intro nf i g0 g1 g2
      obtain ⟨nf, rfl⟩ : ∃ m, nf = m + 1 := ⟨nf - 1, by omega⟩
      rw [f_M_waitingFrom_L3, z_ld (by omega) (by omega), if_pos (by omega)]
      rfl
    | succ d ih =>
      intro nf i g0 g1 g2
      obtain ⟨nf, rfl⟩ : ∃ m, nf = m + 1 := ⟨nf - 1, by omega⟩
      rw [f_M_waitingFrom_L3, z_ld (by omega) (by omega), if_neg (by omega), fi]
      simp (disch := omega) only [z_ofMessage, z_b, z_jn, z_ck]
      rw [ih nf (i + 1) (by omega) (by omega) (by omega)]
      unfold wait
      by_cases e0 : mg (q_g μ 1) i 0 = f
      · by_cases e1 : mg (q_g μ 1) i 1 = t
        · by_cases e5 : mg (q_g μ 1) i 5 < 0
          · simp [e0, e1, e5]
          · simp [e0, e1, e5]
        · simp [e0, e1]
      · simp [e0]
  exact key _ N a h0 (by omega) (by omega)
theorem z_waiting {N : Nat} {n c f t : Int} {μ : q_M} (hN : 1000 ≤ N) (hv : rv n (q_g μ 1) c) : f_M_waiting N f t μ = some (cnt (wait (q_g μ 1) f t) 0 (q_g μ 1 37).toNat) := by
  have v3 := hv.2.2.2.1
  unfold f_M_waiting
  rw [z_waitingFrom hN hv (by omega) (by omega), z_b, Int.sub_zero]
  have key : ∀ (d nf : Nat) (x i : Int), 0 ≤ x → x ≤ i → i + d = q_g μ 1 37 → d < nf → f_M_waiting_L11 N f t μ (fun x5 => some x5) nf x (fi (wait (q_g μ 1) f t) i d) = some (x + cnt (wait (q_g μ 1) f t) i d) := by
    intro d
    induction d with
    | zero =>
      intro nf x i h0 g0 g1 g2
      obtain ⟨nf, rfl⟩ : ∃ m, nf = m + 1 := ⟨nf - 1, by omega⟩
      rw [f_M_waiting_L11, z_ld (by omega) (by omega), fi, if_pos (by omega)]
      simp [cnt, sm]
    | succ d ih =>
      intro nf x i h0 g0 g1 g2
      rw [fi, cnt_s]
      by_cases e : wait (q_g μ 1) f t i = true
      · obtain ⟨nf, rfl⟩ : ∃ m, nf = m + 1 := ⟨nf - 1, by omega⟩
        rw [if_pos e, f_M_waiting_L11, z_ld (by omega) (by omega), if_neg (by omega), z_ck (by omega) (by omega), z_ck (by omega) (by omega), z_waitingFrom hN hv (by omega) (by omega), z_b, show (q_g μ 1 37 - (i + 1)).toNat = d by omega, ih nf (x + 1) (i + 1) (by omega) (by omega) (by omega) (by omega), e]
        congr 1
        simp only [bi, if_true]
        omega
      · rw [if_neg e, ih nf x (i + 1) h0 (by omega) (by omega) (by omega), Bool.eq_false_iff.mpr e]
        simp [bi]
  have := key (q_g μ 1 37).toNat N 0 0 (by omega) (by omega) (by omega) (by omega)
  rw [Int.zero_add] at this
  exact this
theorem s_inTransit {N : Nat} (hN : 1000 ≤ N) : q_st_inTransit N vI := by
  intro c μC μM hc hI a0 h0 a1 h1 a2 h2 a3 h3
  refine (fun (x : ∃ r, f_CR_inTransit N a0 a1 a2 a3 μC = some r ∧ f_M_inTransit N a0 a1 a2 a3 μM = some r) => x.elim fun r h => ⟨r, h.1, h.2, vI_up hc hI⟩) ?_
  obtain ⟨n, hr, hv, hn, hA, hT, hU, hK⟩ := hI
  have hr' := hr
  obtain ⟨e0, -, -, -, -, -, -, e7, e8, -, rE, rM⟩ := hr'
  have hv' := hv
  obtain ⟨v0, -, v2, v3, -, -, -, -, -, -, -, vE, vM, -⟩ := hv'
  simp only [f_CR_inTransit, f_M_inTransit, z_isPair e0 v0.1 v0.2, z_noChannel hn v0.1 v0.2, z_b, z_bz, z_zb, z_within, z_in, z_jn]
  by_cases g : (0 ≤ a0 ∧ a0 ≤ n - 1) ∧ (0 ≤ a1 ∧ a1 ≤ n - 1) ∧ a0 ≠ a1
  · rw [if_neg (not_not_intro g), if_pos g]
    by_cases g1 : a2 < -1
    · rw [if_pos g1, if_pos g1]
      exact ⟨_, rfl, rfl⟩
    · rw [if_neg g1, if_neg g1]
      by_cases g3 : 0 ≤ a3 ∧ a3 ≤ 1
      · rw [if_neg (not_not_intro g3), if_neg (not_not_intro g3), z_countOrphans hN hr hv, z_orphansNow hN hv, z_b, z_b]
        by_cases go : nOrph (q_g μM 1) ≤ 0
        · rw [if_pos go, if_pos go]
          simp (disch := omega) only [z_channelOf, z_b]
          obtain ⟨p, hp⟩ : ∃ p : Int → Bool, p = fun m => decide (mg (q_g μM 1) m 0 = a0) && decide (mg (q_g μM 1) m 1 = a1) && tran (q_g μM 1) m := ⟨_, rfl⟩
          have pc : ∀ i, 0 ≤ i → i < q_g μM 1 37 → ((q_g μC 16 i = a0 * 5 + a1 ∧ tran (q_g μM 1) i = true) ↔ p i = true) := by
            intro i i0 i1
            obtain ⟨r0, -⟩ := rM i i0 i1
            obtain ⟨m0, m1, -⟩ := vM i i0 i1
            have r0' : q_g μC 16 i = mg (q_g μM 1) i 0 * 5 + mg (q_g μM 1) i 1 := r0
            rw [hp, r0']
            simp only [Bool.and_eq_true, decide_eq_true_eq]
            constructor
            · exact fun h => ⟨by omega, h.2⟩
            · exact fun h => ⟨by omega, h.2⟩
          have hM : ∀ A B, f_M_inTransit_L46 a0 a1 a2 μM A B N 0 0 = if nth p (a2 - 0) 0 (q_g μM 1 37).toNat = -1 then B (0 + cnt p 0 (q_g μM 1 37).toNat) else A (nth p (a2 - 0) 0 (q_g μM 1 37).toNat) := by
            intro A B
            refine lp_nth (b := q_g μM 1 37) ?_ ?_ _ N 0 0 (by omega) (by omega) (by omega) (by omega)
            · intro nf x
              rw [f_M_inTransit_L46, z_ld (by omega) (by omega), if_pos (Int.le_refl _)]
            · intro nf x i hx0 hxi hi
              rw [f_M_inTransit_L46, z_ld (by omega) (by omega), if_neg (by omega)]
              simp (disch := omega) only [z_ofMessage, z_b, z_jn, z_ck, z_isInTransit hv (show 0 ≤ i by omega) hi, z_bib]
              rw [hp]
              by_cases k0 : mg (q_g μM 1) i 0 = a0
              · by_cases k1 : mg (q_g μM 1) i 1 = a1
                · cases k2 : tran (q_g μM 1) i
                  · simp [k0, k1, k2]
                  · simp [k0, k1, k2]
                · simp [k0, k1]
              · simp [k0]
          rw [hM]
          by_cases gk : a2 = -1
          · rw [if_pos gk]
            have hC : f_Wo_countCrossing N 1 (a0 * 5 + a1) μC = some (cnt p 0 (q_g μM 1 37).toNat) := by
              unfold f_Wo_countCrossing
              refine ((lp_sum (F := f_Wo_countCrossing_L4 1 (a0 * 5 + a1) μC fun x3 => some x3) (E := some) (f := fun m => bi (p m)) (b := q_g μM 1 37) (fun x i => 0 ≤ x ∧ x ≤ i ∧ 0 ≤ i) ?_ ?_ (q_g μM 1 37).toNat N 0 0 (by omega) (by omega) (by omega)).1).trans (by simp [cnt])
              · intro nf x hP
                rw [f_Wo_countCrossing_L4, z_fl, Int.cast_ofNat_Int, e8, if_pos (Int.le_refl _)]
              · intro nf x i hi hP
                have hb := bi_bd (p i)
                refine ⟨?_, by omega, by omega, by omega⟩
                rw [f_Wo_countCrossing_L4, z_fl, Int.cast_ofNat_Int, e8, if_neg (by omega), z_ld (by omega) (by omega), z_crossesCut hr hv (by omega) hi]
                simp (disch := omega) only [z_b, z_jn, z_ck, z_bib]
                have hw := pc i (by omega) hi
                have hw' : (q_g μC (1 + 15) i = a0 * 5 + a1 ∧ tran (q_g μM 1) i = true) ↔ p i = true := hw
                by_cases k0 : q_g μC (1 + 15) i = a0 * 5 + a1
                · rw [if_pos k0]
                  cases k2 : tran (q_g μM 1) i
                  · rw [if_pos rfl, show p i = false from Bool.eq_false_iff.mpr (fun h => by rw [(hw'.mpr h).2] at k2; exact absurd k2 (by decide))]
                    simp [bi]
                  · rw [if_neg (by decide), hw'.mp ⟨k0, k2⟩]
                    simp [bi]
                · rw [if_neg k0, show p i = false from Bool.eq_false_iff.mpr (fun h => k0 (hw'.mpr h).1)]
                  simp [bi]
            have hk : nth p (a2 - 0) 0 (q_g μM 1 37).toNat = -1 := by
              have key : ∀ (d : Nat) (k i : Int), k < 0 → nth p k i d = -1 := by
                intro d
                induction d with
                | zero => intro k i _; rfl
                | succ d ih =>
                  intro k i hk
                  unfold nth
                  by_cases e : p i = true
                  · rw [if_pos e, if_neg (by omega)]
                    exact ih _ _ (by omega)
                  · rw [if_neg e]
                    exact ih _ _ hk
              exact key _ _ _ (by omega)
            rw [hC, hk, if_pos rfl, if_neg (by omega), z_b, Int.zero_add]
            exact ⟨_, rfl, rfl⟩
          · rw [if_neg gk]
            have hC : f_Wo_crossingAt N 1 (a0 * 5 + a1) a2 μC = some (nth p a2 0 (q_g μM 1 37).toNat) := by
              unfold f_Wo_crossingAt
              rw [lp_nth (F := f_Wo_crossingAt_L5 1 (a0 * 5 + a1) a2 μC (fun x3 => some x3) (some (-1))) (A := some) (B := fun _ => some (-1)) (p := p) (k := a2) (b := q_g μM 1 37) ?_ ?_ (q_g μM 1 37).toNat N 0 0 (by omega) (by omega) (by omega) (by omega)]
              · rw [Int.sub_zero]
                by_cases h : nth p a2 0 (q_g μM 1 37).toNat = -1
                · rw [if_pos h, h]
                · rw [if_neg h]
              · intro nf x
                rw [f_Wo_crossingAt_L5, z_fl, Int.cast_ofNat_Int, e8, if_pos (Int.le_refl _)]
              · intro nf x i hx0 hxi hi
                rw [f_Wo_crossingAt_L5, z_fl, Int.cast_ofNat_Int, e8, if_neg (by omega), z_ld (by omega) (by omega), z_crossesCut hr hv (by omega) hi]
                simp (disch := omega) only [z_b, z_jn, z_ck, z_bib]
                have hw := pc i (by omega) hi
                have hw' : (q_g μC (1 + 15) i = a0 * 5 + a1 ∧ tran (q_g μM 1) i = true) ↔ p i = true := hw
                by_cases k0 : q_g μC (1 + 15) i = a0 * 5 + a1
                · rw [if_pos k0]
                  cases k2 : tran (q_g μM 1) i
                  · rw [if_pos rfl, if_neg (fun h => by rw [(hw'.mpr h).2] at k2; exact absurd k2 (by decide))]
                  · rw [if_neg (by decide), if_pos (hw'.mp ⟨k0, k2⟩)]
                · rw [if_neg k0, if_neg (fun h => k0 (hw'.mpr h).1)]
            rw [hC, z_b, Int.sub_zero]
            rcases nth_in (p := p) (d := (q_g μM 1 37).toNat) (k := a2) (i := 0) with e | e
            · rw [if_pos e, if_pos e, if_pos (show 0 ≤ a2 by omega)]
              exact ⟨_, rfl, rfl⟩
            · rw [if_neg (show ¬ nth p a2 0 (q_g μM 1 37).toNat = -1 by omega), if_neg (show ¬ nth p a2 0 (q_g μM 1 37).toNat = -1 by omega)]
              obtain ⟨-, r2, r3, -⟩ := rM (nth p a2 0 (q_g μM 1 37).toNat) (by omega) (by omega)
              simp (disch := omega) only [z_ck, z_ld, z_ofMessage, z_b]
              have r2' : q_g μC 17 (nth p a2 0 (q_g μM 1 37).toNat) = _ := r2
              have r3' : q_g μC 18 (nth p a2 0 (q_g μM 1 37).toNat) = _ := r3
              by_cases k3 : a3 = 0
              · rw [if_pos k3, k3, r2']
                exact ⟨_, rfl, rfl⟩
              · rw [if_neg k3, show a3 = 1 by omega, r3']
                exact ⟨_, rfl, rfl⟩
        · rw [if_neg go, if_neg go]
          exact ⟨_, rfl, rfl⟩
      · rw [if_pos g3, if_pos g3]
        exact ⟨_, rfl, rfl⟩
  · rw [if_pos g, if_neg g]
    exact ⟨_, rfl, rfl⟩
