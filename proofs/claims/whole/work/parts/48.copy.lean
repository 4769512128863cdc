/-! rows that agree where it counts; writing loops; restore; snapshots -/
def rq (w w' : Int → Int) : Prop := (∀ i, 0 ≤ i → i < 64 → w' i = w i) ∧ (∀ e j, 0 ≤ e → e < w 36 → 0 ≤ j → j < 12 → ev w' e j = ev w e j) ∧ ∀ m j, 0 ≤ m → m < w 37 → 0 ≤ j → j < 6 → mg w' m j = mg w m j
theorem rv_rq {n c : Int} {w w' : Int → Int} (q : rq w w') (h : rv n w c) : rv n w' c := by
  obtain ⟨a0, a1, a2, a3, a4, a5, a6, a7, a8, a9, a10, a11, a12, a13⟩ := h
  obtain ⟨hw, e, m⟩ := q
  have d : ∀ p, 0 ≤ p → p < 5 → w' (25 + p) = w (25 + p) := fun p g1 g2 => hw _ (by omega) (by omega)
  have l := hw 36 (by omega) (by omega)
  have k := hw 37 (by omega) (by omega)
  have s := hw 35 (by omega) (by omega)
  refine ⟨a0, ?_, by omega, by omega, ?_, ?_, ⟨?_, ?_⟩, ?_, by omega, ?_, ?_, ?_, ?_, ?_⟩
  · intro j g1 g2
    rw [hw j g1 (by omega)]
    exact a1 j g1 g2
  · intro p g1 g2
    have y := a4 p g1 g2
    unfold rv_p at y ⊢
    rw [d p g1 g2, hw (20 + p) (by omega) (by omega), hw (30 + p) (by omega) (by omega)]
    exact y
  · rw [hw 25 (by omega) (by omega), hw 26 (by omega) (by omega), hw 27 (by omega) (by omega), hw 28 (by omega) (by omega), hw 29 (by omega) (by omega), l]
    exact a5
  · intro p g1 g2
    rw [d p (by omega) g2]
    exact a6.1 p g1 g2
  · intro p g1 g2
    rw [hw _ (by omega) (by omega)]
    exact a6.2 p g1 g2
  · intro i g1 g2
    rw [k, hw _ (by omega) (by omega)]
    exact a7 i g1 g2
  · intro h i g1 g2
    rw [hw _ (by omega) (by omega)]
    exact a9 (by omega) i g1 g2
  · intro h p g1 g2
    rw [hw _ (by omega) (by omega)]
    exact a10 (by omega) p g1 g2
  · intro i g1 g2
    have x := a11 i g1 (by omega)
    unfold rv_e at x ⊢
    simp (disch := omega) only [e, k]
    obtain ⟨x0, x1, x2, x3, x4, x5, x6, x7, x8, x9⟩ := x
    refine ⟨x0, x1, x2, x3, ?_, x5, x6, ?_, ?_, ?_⟩
    · rw [d _ x0.1 (by omega)]
      exact x4
    · intro g
      have y := x6 (by omega)
      rw [m _ _ y.2.1.1 y.2.1.2 (by omega) (by omega)]
      exact x7 g
    · intro q g3 g4
      rw [d q g3 g4, e i _ g1 (by omega) (by omega) (by omega)]
      exact x8 q g3 g4
    · exact x9
  · intro i g1 g2
    have x := a12 i g1 (by omega)
    unfold rv_m at x ⊢
    simp (disch := omega) only [m, l]
    exact x
  · obtain ⟨x0, x1, x2⟩ := a13
    refine ⟨?_, ?_, ?_⟩
    · intro i j g1 g2 g3 g4 q g5 g6
      rw [e i _ g1 (by omega) (by omega) (by omega), e j _ (by omega) (by omega) (by omega) (by omega)] at g4 ⊢
      exact x0 i j g1 g2 (by omega) g4 q g5 g6
    · intro i g1 g2 g3
      have x := a11 i g1 (by omega)
      have y := x1 i g1 (by omega) (fun f f1 f2 => by
        have := g3 f f1 (by omega)
        rwa [e f _ (by omega) (by omega) (by omega) (by omega), e i _ (by omega) (by omega) (by omega) (by omega)] at this)
      rw [e i _ g1 (by omega) (by omega) (by omega), e i _ g1 (by omega) (by omega) (by omega), d _ x.1.1 (by have := x.1.2; omega)]
      exact y
    · intro p g1 g2 g3
      rw [d p g1 g2]
      exact x2 p g1 g2 (fun i i1 i2 => by
        have := g3 i i1 (by omega)
        rwa [e i _ (by omega) (by omega) (by omega) (by omega)] at this)
theorem rr_rq {o : Nat} {n : Int} {μ : q_M} {w w' : Int → Int} (q : rq w w') (h : rr_C o n μ w) : rr_C o n μ w' := by
  obtain ⟨a0, a1, a2, a3, a4, a5, a6, a7, a8, a9, aE, aM⟩ := h
  obtain ⟨hw, e, m⟩ := q
  have l := hw 36 (by omega) (by omega)
  have k := hw 37 (by omega) (by omega)
  refine ⟨a0, fun j g1 g2 => ?_, fun j g1 g2 => ?_, fun j g1 g2 => ?_, fun j g1 g2 => ?_, fun j g1 g2 => ?_, fun j g1 g2 => ?_, by rw [l]; exact a7, by rw [k]; exact a8, ?_, fun i g1 g2 => ?_, fun i g1 g2 => ?_⟩
  · rw [hw _ (by omega) (by omega)]; exact a1 j g1 g2
  · rw [hw _ (by omega) (by omega)]; exact a2 j g1 g2
  · rw [hw _ (by omega) (by omega)]; exact a3 j g1 g2
  · rw [hw _ (by omega) (by omega)]; exact a4 j g1 g2
  · rw [hw _ (by omega) (by omega)]; exact a5 j g1 g2
  · rw [hw _ (by omega) (by omega)]; exact a6 j g1 g2
  · rw [hw _ (by omega) (by omega)]; exact a9
  · have x := aE i g1 (by omega)
    unfold rr_E at x ⊢
    simp (disch := omega) only [e]
    refine ⟨x.1, x.2.1, x.2.2.1, x.2.2.2.1, x.2.2.2.2.1, x.2.2.2.2.2.1, x.2.2.2.2.2.2.1, fun q g3 g4 => ?_⟩
    rw [e i _ g1 (by omega) (by omega) (by omega)]
    exact x.2.2.2.2.2.2.2 q g3 g4
  · have x := aM i g1 (by omega)
    unfold rr_M at x ⊢
    simp (disch := omega) only [m]
    exact x
theorem q_x_id {μ : q_M} {k : Nat} {i : Int} (hi : 0 ≤ i) : q_x μ k i (q_g μ k i) = μ := by
  funext k' j
  unfold q_x q_up q_g
  by_cases h : k' = k ∧ j = i.toNat
  · rw [if_pos h, if_pos hi, h.1, h.2]
  · rw [if_neg h]
theorem lp_wr {α : Type} {F : Nat → Int → q_M → Option α} {E : q_M → Option α} {k : Nat} {b off : Int} (v : Int → Int) (P : q_M → Prop) (h0 : 0 ≤ off) (hx : ∀ nf μ, P μ → F (nf + 1) b μ = E μ) (hs : ∀ nf i μ, P μ → 0 ≤ i → i < b → F (nf + 1) i μ = F nf (i + 1) (q_x μ k (off + i) (v i)) ∧ P (q_x μ k (off + i) (v i))) : ∀ (d nf : Nat) (i : Int) (μ : q_M), 0 ≤ i → i + d = b → d < nf → P μ → ∃ μ', F nf i μ = E μ' ∧ P μ' ∧ (∀ k', k' ≠ k → q_g μ' k' = q_g μ k') ∧ ∀ j, q_g μ' k j = if off + i ≤ j ∧ j < off + b then v (j - off) else q_g μ k j := by
  intro d
  induction d with
  | zero =>
    intro nf i μ h0 h1 h2 hP
    obtain ⟨nf, rfl⟩ : ∃ m, nf = m + 1 := ⟨nf - 1, by omega⟩
    have e : i = b := by omega
    subst e
    exact ⟨μ, hx nf μ hP, hP, fun _ _ => rfl, fun j => by rw [if_neg (by omega)]⟩
  | succ d ih =>
    intro nf i μ h0 h1 h2 hP
    obtain ⟨nf, rfl⟩ : ∃ m, nf = m + 1 := ⟨nf - 1, by omega⟩
    obtain ⟨s1, s2⟩ := hs nf i μ hP h0 (by omega)
    obtain ⟨μ', g1, gP, g2, g3⟩ := ih nf (i + 1) (q_x μ k (off + i) (v i)) (by omega) (by omega) (by omega) s2
    refine ⟨μ', by rw [s1, g1], gP, fun k' hk => by rw [g2 k' hk, g_sn hk], fun j => ?_⟩
    rw [g3 j, g_s (by omega)]
    by_cases e : j = off + i
    · rw [if_neg (by omega), if_pos (by omega), e, u_s, show off + i - off = i by omega]
    · rw [u_n e]
      by_cases l : off + i ≤ j ∧ j < off + b
      · rw [if_pos (by omega), if_pos l]
      · rw [if_neg (by omega), if_neg l]
theorem z_Wo_copyFrom {o oa : Nat} {n c : Int} {μ : q_M} {w : Int → Int} (hd : o + 22 < oa ∨ oa + 22 < o) (hr : rr_C oa n μ w) (hv : rv n w c) : ∃ μ', f_Wo_copyFrom o oa μ = some μ' ∧ (∀ k, k < o ∨ o + 22 < k → q_g μ' k = q_g μ k) ∧ rr_C o n μ' w := by
  simp only [f_Wo_copyFrom, f_Hi_copyFrom, f_Ch_copyFrom, f_Sn_copyFrom, z_fl, z_fs, z_cp, z_b, Int.cast_ofNat_Int]
  refine ⟨_, rfl, fun k hk => ?_, ?_⟩
  · simp (disch := omega) only [g_sn, g_cn]
  · obtain ⟨a0, a1, a2, a3, a4, a5, a6, a7, a8, a9, aE, aM⟩ := hr
    obtain ⟨-, -, v2, v3, -⟩ := hv
    refine ⟨?_, fun j g1 g2 => ?_, fun j g1 g2 => ?_, fun j g1 g2 => ?_, fun j g1 g2 => ?_, fun j g1 g2 => ?_, fun j g1 g2 => ?_, ?_, ?_, ?_, fun e g1 g2 => ⟨?_, ?_, ?_, ?_, ?_, ?_, ?_, fun q q1 q2 => ?_⟩, fun e g1 g2 => ⟨?_, ?_, ?_, ?_, ?_⟩⟩
    all_goals simp (disch := omega) only [g_s, g_sn, g_c, g_cn, u_s]
    · exact a0
    · exact a1 j g1 g2
    · exact a2 j g1 g2
    · exact a3 j g1 g2
    · exact a4 j g1 g2
    · exact a5 j g1 g2
    · exact a6 j g1 g2
    · exact a7
    · exact a8
    · exact a9
    · exact (aE e g1 g2).1
    · exact (aE e g1 g2).2.1
    · exact (aE e g1 g2).2.2.1
    · exact (aE e g1 g2).2.2.2.1
    · exact (aE e g1 g2).2.2.2.2.1
    · exact (aE e g1 g2).2.2.2.2.2.1
    · exact (aE e g1 g2).2.2.2.2.2.2.1
    · exact (aE e g1 g2).2.2.2.2.2.2.2 q q1 q2
    · exact (aM e g1 g2).1
    · exact (aM e g1 g2).2.1
    · exact (aM e g1 g2).2.2.1
    · exact (aM e g1 g2).2.2.2.1
    · exact (aM e g1 g2).2.2.2.2
theorem rq_copy {n c : Int} {w w' : Int → Int} (hv : rv n w c) (h : ∀ i, 0 ≤ i → i < 5104 → w' i = w i) : rq w w' := by
  obtain ⟨-, -, v2, v3, -⟩ := hv
  exact ⟨fun i h1 h2 => h i h1 (by omega), fun e j h1 h2 h3 h4 => h _ (by omega) (by omega), fun e j h1 h2 h3 h4 => h _ (by omega) (by omega)⟩
theorem s_restore {N : Nat} (hN : 6000 ≤ N) : q_st_restore N vI := by
  intro c μC μM hc hI
  have hI' := hI
  obtain ⟨n, hr, hv, hn, hA, hT, hU, hK⟩ := hI
  simp only [f_CR_restore, f_M_restore, z_fl, Int.cast_ofNat_Int, hA.1, z_fz (Or.inl rfl)]
  by_cases g : q_g μM 0 3 = 0
  · rw [if_pos g, if_pos g]
    exact ⟨_, _, _, rfl, rfl, vI_up hc hI'⟩
  · rw [if_neg g, if_neg g]
    obtain ⟨r2, v2⟩ := hA.2.2 (by have := hA.2.1; omega)
    obtain ⟨μ1, a1, a2, a3⟩ := z_Wo_copyFrom (o := 1) (oa := 24) (by omega) r2 v2
    obtain ⟨μ2, b1, bP, b2, b3⟩ := lp_wr (F := f_M_restore_L17 fun μ5 => q_ld μ5 1 5104 36 fun x10 => some (x10, μ5)) (E := fun μ5 => some (q_g μ5 1 36, μ5)) (k := 1) (b := 5104) (off := 0) (fun i => q_g μM 2 i) (fun μ => q_g μ 2 = q_g μM 2) (by omega) (fun nf μ _ => by rw [f_M_restore_L17, if_pos (Int.le_refl _), z_ld (by omega) (by omega)]) (fun nf i μ h h1 h2 => by
      rw [f_M_restore_L17, if_neg (by omega), Int.zero_add]
      simp (disch := omega) only [z_ck, z_st, z_ld, h, g_sn]
      exact ⟨trivial, trivial⟩) 5104 N 0 (q_x μM 0 3 0) (by omega) (by omega) (by omega) (g_sn (by omega))
    have q := rq_copy (w' := q_g μ2 1) v2 (fun i h1 h2 => by rw [b3, if_pos (by omega), Int.sub_zero])
    rw [a1]
    simp only [z_b, z_fz (Or.inl rfl), z_fl, Int.cast_ofNat_Int]
    have h5 : q_g (q_x μ1 0 2 0) 5 0 = q_g μ2 1 36 := by
      rw [g_sn (by omega), q.1 36 (by omega) (by omega)]
      exact a3.2.2.2.2.2.2.2.1
    have h03 : q_g μ2 0 3 = 0 := by rw [b2 0 (by omega), g_s (by omega), u_s]
    refine ⟨_, _, μ2, rfl, by rw [h5]; exact b1, n, rr_rq q (rr_frame a3 (fun k h1 h2 => g_sn (by omega))), rv_up (rv_rq q v2) (by omega) (by omega), ?_, ⟨?_, Or.inl h03, fun h => absurd h (by rw [h03]; omega)⟩, vT_out hT ?_ ?_ ?_ ?_, vU_out hU (fun k h1 h2 => ?_) ?_ (fun k h1 h2 => ?_), vK_out hK ?_ ?_ ?_ ?_ ?_⟩
    all_goals simp (disch := omega) only [b2, g_s, g_sn, u_s, u_n, a2]
    · exact hn
