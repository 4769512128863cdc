/-! text, costs, rules taken away, reset: what lies outside the Worlds -/
theorem vI_out {c : Nat} {n : Int} {μC μM μC' μM' : q_M} (hr : rr_C 1 n μC (q_g μM 1)) (hv : rv n (q_g μM 1) c) (hA : vA n c μC μM) (hn : q_g μM 0 0 = n) (hc : c < 512) (hC : ∀ k, k < 47 → q_g μC' k = q_g μC k) (h1 : q_g μM' 1 = q_g μM 1) (h2 : q_g μM' 2 = q_g μM 2) (h0 : q_g μM' 0 0 = q_g μM 0 0) (h3 : q_g μM' 0 3 = q_g μM 0 3) (hT : vT μC' μM') (hU : vU n μC' μM') (hK : vK μC' μM') : vI (c + 1) μC' μM' := by
  refine ⟨n, ?_, ?_, by rw [h0]; exact hn, ?_, hT, hU, hK⟩
  · rw [h1]
    exact rr_frame hr (fun k g1 g2 => hC k (by omega))
  · rw [h1]
    exact rv_up hv (by omega) (by omega)
  · have hA := vA_up hA (c' := (c + 1 : Nat)) (by omega) (by omega)
    unfold vA at hA ⊢
    rw [hC 0 (by omega), h3, h2]
    exact ⟨hA.1, hA.2.1, fun g => ⟨rr_frame (hA.2.2 g).1 (fun k h1 h2 => hC k (by omega)), (hA.2.2 g).2⟩⟩
theorem vT_out {μC μM μC' μM' : q_M} (h : vT μC μM) (h1 : q_g μC' 47 = q_g μC 47) (h2 : q_g μC' 48 = q_g μC 48) (h3 : q_g μM' 0 4 = q_g μM 0 4) (h4 : q_g μM' 3 = q_g μM 3) : vT μC' μM' := by
  unfold vT at h ⊢
  rw [h1, h2, h3, h4]
  exact h
theorem vU_out {n : Int} {μC μM μC' μM' : q_M} (h : vU n μC μM) (h1 : ∀ k, 49 ≤ k → k ≤ 53 → q_g μC' k = q_g μC k) (h3 : q_g μM' 0 6 = q_g μM 0 6) (h4 : ∀ k, 4 ≤ k → k ≤ 7 → q_g μM' k = q_g μM k) : vU n μC' μM' := by
  unfold vU at h ⊢
  rw [h1 49 (by omega) (by omega), h1 50 (by omega) (by omega), h1 51 (by omega) (by omega), h1 52 (by omega) (by omega), h1 53 (by omega) (by omega), h3, h4 4 (by omega) (by omega), h4 5 (by omega) (by omega), h4 6 (by omega) (by omega), h4 7 (by omega) (by omega)]
  exact h
theorem vK_out {μC μM μC' μM' : q_M} (h : vK μC μM) (h1 : q_g μC' 54 = q_g μC 54) (h2 : q_g μC' 55 = q_g μC 55) (h3 : q_g μM' 0 12 = q_g μM 0 12) (h5 : q_g μM' 0 13 = q_g μM 0 13) (h4 : q_g μM' 8 = q_g μM 8) : vK μC' μM' := by
  unfold vK at h ⊢
  rw [h1, h2, h3, h4, h5]
  exact h
theorem s_clearText {N : Nat} : q_st_clearText N vI := by
  intro c μC μM hc hI
  obtain ⟨n, hr, hv, hn, hA, hT, hU, hK⟩ := hI
  simp only [f_CR_clearText, f_M_clearText, z_fl, z_fs, Int.cast_ofNat_Int]
  refine ⟨_, _, _, rfl, by rw [hT.1], vI_out hr hv hA hn hc (fun k hk => g_sn (by omega)) (g_sn (by omega)) (g_sn (by omega)) ?_ ?_ ?_ (vU_out hU (fun k h1 h2 => g_sn (by omega)) ?_ (fun k h1 h2 => g_sn (by omega))) (vK_out hK (g_sn (by omega)) (g_sn (by omega)) ?_ ?_ (g_sn (by omega)))⟩
  · rw [g_s (by omega), u_n (by omega)]
  · rw [g_s (by omega), u_n (by omega)]
  · unfold vT
    rw [g_s (by omega), g_s (by omega), u_s, u_s]
    exact ⟨rfl, by omega, fun i h1 h2 => absurd h2 (by omega)⟩
  · rw [g_s (by omega), u_n (by omega)]
  · rw [g_s (by omega), u_n (by omega)]
  · rw [g_s (by omega), u_n (by omega)]
theorem s_type {N : Nat} : q_st_type N vI := by
  intro c μC μM hc hI a0 h0
  have hI' := hI
  obtain ⟨n, hr, hv, hn, hA, hT, hU, hK⟩ := hI
  obtain ⟨t0, t1, t2⟩ := hT
  simp only [f_CR_type, f_M_type, f_RT_append, z_fl, z_fs, Int.cast_ofNat_Int, t0]
  by_cases g : q_g μM 0 4 < 20
  · rw [if_pos g, if_neg (by omega), z_stc t1.1 (by omega) h0.1 h0.2, z_stc t1.1 (by omega) h0.1 h0.2]
    rw [g_sn (μ := μC) (k := 48) (k' := 47) (by omega), g_sn (μ := μM) (k := 3) (k' := 0) (by omega), t0]
    simp (disch := omega) only [z_ck, z_b, g_s, u_s]
    refine ⟨_, _, _, rfl, rfl, vI_out hr hv hA hn hc (fun k hk => by rw [g_sn (by omega), g_sn (by omega)]) (by rw [g_sn (by omega), g_sn (by omega)]) (by rw [g_sn (by omega), g_sn (by omega)]) ?_ ?_ ?_ (vU_out hU (fun k h1 h2 => by rw [g_sn (by omega), g_sn (by omega)]) ?_ (fun k h1 h2 => by rw [g_sn (by omega), g_sn (by omega)])) (vK_out hK (by rw [g_sn (by omega), g_sn (by omega)]) (by rw [g_sn (by omega), g_sn (by omega)]) ?_ ?_ (by rw [g_sn (by omega), g_sn (by omega)]))⟩
    · rw [g_s (by omega), u_n (by omega), g_sn (by omega)]
    · rw [g_s (by omega), u_n (by omega), g_sn (by omega)]
    · unfold vT
      simp (disch := omega) only [g_s, g_sn, u_s]
      refine ⟨trivial, by omega, fun i h1 h2 => ?_⟩
      by_cases k : i = q_g μM 0 4
      · rw [k, u_s, u_s]
        exact ⟨rfl, h0⟩
      · rw [u_n k, u_n k]
        exact t2 i h1 (by omega)
    · rw [g_s (by omega), u_n (by omega), g_sn (by omega)]
    · rw [g_s (by omega), u_n (by omega), g_sn (by omega)]
    · rw [g_s (by omega), u_n (by omega), g_sn (by omega)]
  · rw [if_neg g, if_pos (by omega)]
    exact ⟨_, _, _, rfl, rfl, vI_up hc hI'⟩
theorem s_setMoveCost {N : Nat} : q_st_setMoveCost N vI := by
  intro c μC μM hc hI a0 h0 a1 h1 a2 h2
  have hI' := hI
  obtain ⟨n, hr, hv, hn, hA, hT, hU, hK⟩ := hI
  have v0 := hv.1
  obtain ⟨k0, k1, k2⟩ := hK
  simp only [f_CR_setMoveCost, f_M_setMoveCost, z_isPair hr.1 v0.1 v0.2, z_noChannel hn v0.1 v0.2, z_b, z_bz, z_zb, z_within, z_in]
  by_cases g : (0 ≤ a0 ∧ a0 ≤ n - 1) ∧ (0 ≤ a1 ∧ a1 ≤ n - 1) ∧ a0 ≠ a1
  · rw [if_neg (not_not_intro g), if_pos g]
    by_cases g1 : 1 ≤ a2 ∧ a2 ≤ 1000
    · rw [if_neg (not_not_intro g1), if_neg (not_not_intro g1)]
      simp (disch := omega) only [z_channelOf, z_b, z_ck, z_ld, z_st]
      rw [(k0 (a0 * 5 + a1) (by omega) (by omega)).1, show (5 : Int) * a0 + a1 = a0 * 5 + a1 by omega]
      obtain ⟨i, hi⟩ : ∃ i, a0 * 5 + a1 = i := ⟨_, rfl⟩
      have i0 : 0 ≤ i ∧ i < 25 := by omega
      rw [hi]
      refine ⟨_, _, _, rfl, rfl, vI_out hr hv hA hn hc (fun k hk => g_sn (by omega)) (g_sn (by omega)) (g_sn (by omega)) (by rw [g_sn (by omega)]) (by rw [g_sn (by omega)]) (vT_out hT (g_sn (by omega)) (g_sn (by omega)) (by rw [g_sn (by omega)]) (g_sn (by omega))) (vU_out hU (fun k h1 h2 => g_sn (by omega)) (by rw [g_sn (by omega)]) (fun k h1 h2 => g_sn (by omega))) ?_⟩
      unfold vK
      rw [g_s (by omega), g_s (by omega), g_sn (by omega), g_sn (by omega)]
      refine ⟨fun j j1 j2 => ?_, k1, k2⟩
      by_cases k : j = i
      · rw [k, u_s, u_s]
        exact ⟨rfl, g1⟩
      · rw [u_n k, u_n k]
        exact k0 j j1 j2
    · rw [if_pos g1, if_pos g1]
      exact ⟨_, _, _, rfl, rfl, vI_up hc hI'⟩
  · rw [if_pos g, if_neg g]
    exact ⟨_, _, _, rfl, rfl, vI_up hc hI'⟩
theorem s_setOutsideCosts {N : Nat} : q_st_setOutsideCosts N vI := by
  intro c μC μM hc hI a0 h0 a1 h1
  have hI' := hI
  obtain ⟨n, hr, hv, hn, hA, hT, hU, hK⟩ := hI
  obtain ⟨k0, k1, k2⟩ := hK
  simp only [f_CR_setOutsideCosts, f_M_setOutsideCosts, z_b, z_bz, z_within, z_in, z_jn, z_fl, z_fs, Int.cast_ofNat_Int, k1.1, k2.1]
  by_cases g0 : 1 ≤ a0 ∧ a0 ≤ 1000
  · by_cases g1 : 1 ≤ a1 ∧ a1 ≤ 1000
    · rw [if_neg (not_not_intro g0), if_neg (not_not_intro g0), if_neg (not_not_intro g1), if_neg (not_not_intro g1)]
      have key : vI (c + 1) (q_x (q_x μC 54 1 a0) 54 2 a1) (q_x (q_x μM 0 12 a0) 0 13 a1) := by
        refine vI_out hr hv hA hn hc (fun k hk => by rw [g_sn (by omega), g_sn (by omega)]) (by rw [g_sn (by omega), g_sn (by omega)]) (by rw [g_sn (by omega), g_sn (by omega)]) ?_ ?_ (vT_out hT (by rw [g_sn (by omega), g_sn (by omega)]) (by rw [g_sn (by omega), g_sn (by omega)]) ?_ (by rw [g_sn (by omega), g_sn (by omega)])) (vU_out hU (fun k h1 h2 => by rw [g_sn (by omega), g_sn (by omega)]) ?_ (fun k h1 h2 => by rw [g_sn (by omega), g_sn (by omega)])) ?_
        · rw [g_s (by omega), g_s (by omega), u_n (by omega), u_n (by omega)]
        · rw [g_s (by omega), g_s (by omega), u_n (by omega), u_n (by omega)]
        · rw [g_s (by omega), g_s (by omega), u_n (by omega), u_n (by omega)]
        · rw [g_s (by omega), g_s (by omega), u_n (by omega), u_n (by omega)]
        · unfold vK
          simp (disch := omega) only [g_s, g_sn, u_s, u_n]
          exact ⟨k0, ⟨trivial, g0⟩, trivial, g1⟩
      by_cases e0 : a0 = q_g μM 0 12
      · by_cases e1 : a1 = q_g μM 0 13
        · rw [if_pos e0, if_pos e0.symm, if_pos e1, if_pos e1.symm]
          exact ⟨_, _, _, rfl, rfl, key⟩
        · rw [if_pos e0, if_pos e0.symm, if_neg e1, if_neg (Ne.symm e1)]
          exact ⟨_, _, _, rfl, rfl, key⟩
      · rw [if_neg e0, if_neg (Ne.symm e0)]
        exact ⟨_, _, _, rfl, rfl, key⟩
    · rw [if_neg (not_not_intro g0), if_neg (not_not_intro g0), if_pos g1, if_pos g1]
      exact ⟨_, _, _, rfl, rfl, vI_up hc hI'⟩
  · rw [if_pos g0, if_pos g0]
    exact ⟨_, _, _, rfl, rfl, vI_up hc hI'⟩
/-- four cells whose slots from i to b - 1 take the next one's -/
def sh4 (k : Nat) (μ : q_M) (i : Int) : q_M :=
  let μ1 := q_x μ k i (q_g μ k (i + 1))
  let μ2 := q_x μ1 (k + 1) i (q_g μ1 (k + 1) (i + 1))
  let μ3 := q_x μ2 (k + 2) i (q_g μ2 (k + 2) (i + 1))
  q_x μ3 (k + 3) i (q_g μ3 (k + 3) (i + 1))
theorem sh4_n {k k' : Nat} {μ : q_M} {i : Int} (h : k' < k ∨ k + 3 < k') : q_g (sh4 k μ i) k' = q_g μ k' := by
  unfold sh4
  rw [g_sn (by omega), g_sn (by omega), g_sn (by omega), g_sn (by omega)]
theorem sh4_s {k k' : Nat} {μ : q_M} {i : Int} (hi : 0 ≤ i) (h : k ≤ k') (h' : k' ≤ k + 3) : q_g (sh4 k μ i) k' = q_u (q_g μ k') i (q_g μ k' (i + 1)) := by
  unfold sh4
  obtain e | e | e | e : k' = k ∨ k' = k + 1 ∨ k' = k + 2 ∨ k' = k + 3 := by omega
  · rw [e, g_sn (by omega), g_sn (by omega), g_sn (by omega), g_s hi]
  · rw [e, g_sn (by omega), g_sn (by omega), g_s hi, g_sn (by omega)]
  · rw [e, g_sn (by omega), g_s hi, g_sn (by omega), g_sn (by omega)]
  · rw [e, g_s hi, g_sn (by omega), g_sn (by omega), g_sn (by omega)]
theorem lp_shift {α : Type} {F : Nat → Int → q_M → Option α} {E : q_M → Option α} {k ks : Nat} {js b : Int} (hks : ks < k ∨ k + 3 < ks) (hx : ∀ nf μ, q_g μ ks js = b → F (nf + 1) b μ = E μ) (hs : ∀ nf i μ, q_g μ ks js = b → 0 ≤ i → i < b → F (nf + 1) i μ = F nf (i + 1) (sh4 k μ i)) : ∀ (d nf : Nat) (i : Int) (μ : q_M), 0 ≤ i → i + d = b → d < nf → q_g μ ks js = b → ∃ μ', F nf i μ = E μ' ∧ (∀ k', k' < k ∨ k + 3 < k' → q_g μ' k' = q_g μ k') ∧ ∀ k', k ≤ k' → k' ≤ k + 3 → ∀ j, q_g μ' k' j = if i ≤ j ∧ j < b then q_g μ k' (j + 1) else q_g μ k' j := by
  intro d
  induction d with
  | zero =>
    intro nf i μ h0 h1 h2 h3
    obtain ⟨nf, rfl⟩ : ∃ m, nf = m + 1 := ⟨nf - 1, by omega⟩
    have e : i = b := by omega
    subst e
    exact ⟨μ, hx nf μ h3, fun _ _ => rfl, fun k' _ _ j => by rw [if_neg (by omega)]⟩
  | succ d ih =>
    intro nf i μ h0 h1 h2 h3
    obtain ⟨nf, rfl⟩ : ∃ m, nf = m + 1 := ⟨nf - 1, by omega⟩
    obtain ⟨μ', g1, g2, g3⟩ := ih nf (i + 1) (sh4 k μ i) (by omega) (by omega) (by omega) (by rw [sh4_n hks]; exact h3)
    refine ⟨μ', by rw [hs nf i μ h3 h0 (by omega), g1], fun k' hk => by rw [g2 k' hk, sh4_n hk], fun k' hk hk' j => ?_⟩
    rw [g3 k' hk hk' j, sh4_s h0 hk hk']
    by_cases e : j = i
    · rw [if_neg (by omega), if_pos (by omega), e, u_s]
    · by_cases l : i ≤ j ∧ j < b
      · rw [if_pos (by omega), if_pos l, u_n (by omega)]
      · rw [if_neg (by omega), if_neg l, u_n (by omega)]
theorem s_removeRule {N : Nat} (hN : 1000 ≤ N) : q_st_removeRule N vI := by
  intro c μC μM hc hI a0 h0
  have hI' := hI
  obtain ⟨n, hr, hv, hn, hA, hT, hU, hK⟩ := hI
  obtain ⟨u0, u1, u2⟩ := hU
  simp (disch := omega) only [f_CR_removeRule, f_M_removeRule, f_RB_drop, z_noRule rfl u1.1 u1.2, z_fl, z_fs, Int.cast_ofNat_Int, u0, z_ck, z_within, z_b, z_bz, z_zb]
  by_cases g : 0 ≤ a0 ∧ a0 ≤ q_g μM 0 6 - 1
  · rw [if_neg (not_not_intro g), if_pos g]
    obtain ⟨b, hb⟩ : ∃ b, q_g μM 0 6 - 1 = b := ⟨_, rfl⟩
    rw [hb]
    obtain ⟨μ1, c1, c2, c3⟩ := lp_shift (F := f_RB_drop_L12 fun μ6 => some μ6) (E := some) (k := 50) (ks := 49) (js := 0) (b := b) (by omega) (fun nf μ h => by rw [f_RB_drop_L12, z_fl, Int.cast_ofNat_Int, h, if_pos (Int.le_refl _)]) (fun nf i μ h i0 i1 => by
      rw [f_RB_drop_L12, z_fl, Int.cast_ofNat_Int, h, if_neg (by omega)]
      simp (disch := omega) only [z_ck, z_ld, z_st, sh4]) (b - a0).toNat N a0 (q_x μC 49 0 b) g.1 (by omega) (by omega) (by rw [g_s (by omega), u_s])
    obtain ⟨μ2, d1, d2, d3⟩ := lp_shift (F := f_M_removeRule_L23 fun μ8 => q_fl μ8 0 6 fun x24 => some (x24, μ8)) (E := fun μ8 => some (q_g μ8 0 6, μ8)) (k := 4) (ks := 0) (js := 6) (b := b) (by omega) (fun nf μ h => by rw [f_M_removeRule_L23, z_fl, Int.cast_ofNat_Int, h, if_pos (Int.le_refl _), z_fl, Int.cast_ofNat_Int, h]) (fun nf i μ h i0 i1 => by
      rw [f_M_removeRule_L23, z_fl, Int.cast_ofNat_Int, h, if_neg (by omega)]
      simp (disch := omega) only [z_ck, z_ld, z_st, sh4]) (b - a0).toNat N a0 (q_x μM 0 6 b) g.1 (by omega) (by omega) (by rw [g_s (by omega), u_s])
    have s1 : q_g μ1 49 0 = b := by rw [c2 49 (by omega), g_s (by omega), u_s]
    have s2 : q_g μ2 0 6 = b := by rw [d2 0 (by omega), g_s (by omega), u_s]
    refine ⟨b, μ1, μ2, ?_, ?_, ?_⟩
    · rw [c1, z_b, s1]
    · refine Eq.trans ?_ (d1.trans ?_)
      · rfl
      · rw [s2]
    · refine vI_out hr hv hA hn hc (fun k hk => by rw [c2 k (by omega), g_sn (by omega)]) (by rw [d2 _ (by omega), g_sn (by omega)]) (by rw [d2 _ (by omega), g_sn (by omega)]) (by rw [d2 _ (by omega), g_s (by omega), u_n (by omega)]) (by rw [d2 _ (by omega), g_s (by omega), u_n (by omega)]) (vT_out hT (by rw [c2 _ (by omega), g_sn (by omega)]) (by rw [c2 _ (by omega), g_sn (by omega)]) (by rw [d2 _ (by omega), g_s (by omega), u_n (by omega)]) (by rw [d2 _ (by omega), g_sn (by omega)])) ⟨by rw [s1, s2], by omega, fun i i1 i2 => ?_⟩ (vK_out hK (by rw [c2 _ (by omega), g_sn (by omega)]) (by rw [c2 _ (by omega), g_sn (by omega)]) (by rw [d2 _ (by omega), g_s (by omega), u_n (by omega)]) (by rw [d2 _ (by omega), g_s (by omega), u_n (by omega)]) (by rw [d2 _ (by omega), g_sn (by omega)]))
      rw [s2] at i2
      rw [c3 50 (by omega) (by omega), c3 51 (by omega) (by omega), c3 52 (by omega) (by omega), c3 53 (by omega) (by omega), d3 4 (by omega) (by omega), d3 5 (by omega) (by omega), d3 6 (by omega) (by omega), d3 7 (by omega) (by omega)]
      rw [g_sn (by omega), g_sn (by omega), g_sn (by omega), g_sn (by omega), g_sn (by omega), g_sn (by omega), g_sn (by omega), g_sn (by omega)]
      by_cases l : a0 ≤ i ∧ i < b
      · simp only [if_pos l]
        exact u2 (i + 1) (by omega) (by omega)
      · simp only [if_neg l]
        exact u2 i (by omega) (by omega)
  · rw [if_pos g, if_neg g]
    exact ⟨_, _, _, rfl, rfl, vI_up hc hI'⟩
