/-! setters that leave history and channels -/
theorem rv_low {n c : Int} {w w' : Int → Int} (h : rv n w c) (hw : ∀ i, (25 ≤ i ∧ i < 30 ∨ i = 36 ∨ i = 37 ∨ 64 ≤ i) → w' i = w i) (h1 : ∀ j, 0 ≤ j → j < 20 → 0 ≤ w' j ∧ w' j ≤ 1000 ∧ (2 * n ≤ j % 10 → w' j = 0)) (h2 : ∀ p, 0 ≤ p → p < 5 → (0 ≤ w' (20 + p) ∧ w' (20 + p) ≤ w (25 + p)) ∧ -1 ≤ w' (30 + p) ∧ w' (30 + p) ≤ w (25 + p)) (h3 : ∀ k, 0 ≤ k → k < 25 → -1 ≤ w' (38 + k) ∧ w' (38 + k) ≤ w 37) (h4 : 0 ≤ w' 35 ∧ w' 35 ≤ 2) (h5 : w' 35 ≠ 1 → ∀ k, 0 ≤ k → k < 25 → w' (38 + k) = -1) (h6 : w' 35 = 2 → ∀ p, 0 ≤ p → p < n → 0 ≤ w' (30 + p)) (h7 : ∀ p, 0 ≤ p → p < 5 → w' (38 + 6 * p) = -1) : rv n w' c := by
  obtain ⟨a0, a1, a2, a3, a4, a5, a6, a7, a8, a9, a10, a11, a12, a13⟩ := h
  have e : ∀ e j, 0 ≤ e → 0 ≤ j → ev w' e j = ev w e j := fun e j g1 g2 => hw _ (by omega)
  have m : ∀ e j, 0 ≤ e → 0 ≤ j → mg w' e j = mg w e j := fun e j g1 g2 => hw _ (by omega)
  have d : ∀ p, 0 ≤ p → p < 5 → w' (25 + p) = w (25 + p) := fun p g1 g2 => hw _ (by omega)
  have l := hw 36 (by omega)
  have k := hw 37 (by omega)
  refine ⟨a0, h1, by omega, by omega, ?_, ?_, ?_, ?_, h4, h5, h6, ?_, ?_, ?_⟩
  · intro p g1 g2
    have x := h2 p g1 g2
    have y := a4 p g1 g2
    unfold rv_p at y ⊢
    rw [d p g1 g2]
    exact ⟨x.1, y.2.1, x.2⟩
  · rw [hw 25 (by omega), hw 26 (by omega), hw 27 (by omega), hw 28 (by omega), hw 29 (by omega), l]
    exact a5
  · refine ⟨fun p g1 g2 => ?_, h7⟩
    rw [d p (by omega) g2]
    exact a6.1 p g1 g2
  · intro i g1 g2
    rw [k]
    exact h3 i g1 g2
  · intro i g1 g2
    have x := a11 i g1 (by omega)
    unfold rv_e at x ⊢
    simp (disch := omega) only [e, k] at x ⊢
    obtain ⟨x0, x1, x2, x3, x4, x5, x6, x7, x8, x9⟩ := x
    refine ⟨x0, x1, x2, x3, ?_, x5, x6, ?_, ?_, ?_⟩
    · rw [d _ x0.1 (by omega)]
      exact x4
    · intro g
      rw [m _ _ (x6 (by omega)).2.1.1 (by omega)]
      exact x7 g
    · intro q g3 g4
      rw [d q g3 g4, e i _ g1 (by omega)]
      exact x8 q g3 g4
    · exact x9
  · intro i g1 g2
    have x := a12 i g1 (by omega)
    unfold rv_m at x ⊢
    simp (disch := omega) only [m, l] at x ⊢
    exact x
  · obtain ⟨x0, x1, x2⟩ := a13
    refine ⟨?_, ?_, ?_⟩
    · intro i j g1 g2 g3 g4 q g5 g6
      rw [e i _ g1 (by omega), e j _ (by omega) (by omega)] at g4 ⊢
      exact x0 i j g1 g2 (by omega) g4 q g5 g6
    · intro i g1 g2 g3
      have x := a11 i g1 (by omega)
      have y := x1 i g1 (by omega) (fun f f1 f2 => by
        have := g3 f f1 (by omega)
        rwa [e f _ (by omega) (by omega), e i _ (by omega) (by omega)] at this)
      rw [e i _ g1 (by omega), e i _ g1 (by omega), d _ x.1.1 (by have := x.1.2; omega)]
      exact y
    · intro p g1 g2 g3
      rw [d p g1 g2]
      exact x2 p g1 g2 (fun i i1 i2 => by
        have := g3 i i1 (by omega)
        rwa [e i _ (by omega) (by omega)] at this)
theorem rr_low {o : Nat} {n : Int} {μ μ' : q_M} {w w' : Int → Int} (h : rr_C o n μ w) (h36 : w' 36 = w 36) (h37 : w' 37 = w 37) (hw : ∀ i, 64 ≤ i → w' i = w i) (hμ : ∀ k, (4 ≤ k ∧ k ≤ 12 ∨ 14 ≤ k ∧ k ≤ 19) → q_g μ' (o + k) = q_g μ (o + k)) (h0 : q_g μ' o 0 = n) (h1 : ∀ j, 0 ≤ j → j < 10 → q_g μ' (o + 1) j = w' j) (h2 : ∀ j, 0 ≤ j → j < 10 → q_g μ' (o + 2) j = w' (10 + j)) (h3 : ∀ p, 0 ≤ p → p < 5 → q_g μ' (o + 3) p = w' (20 + p)) (h4 : ∀ p, 0 ≤ p → p < 5 → q_g μ' (o + 13) p = w' (25 + p)) (h5 : ∀ p, 0 ≤ p → p < 5 → q_g μ' (o + 22) p = w' (30 + p)) (h6 : ∀ c, 0 ≤ c → c < 25 → q_g μ' (o + 20) c = w' (38 + c)) (h9 : q_g μ' (o + 21) 0 = w' 35) : rr_C o n μ' w' := by
  obtain ⟨-, -, -, -, -, -, -, a7, a8, -, aE, aM⟩ := h
  have e : ∀ e j, 0 ≤ e → 0 ≤ j → ev w' e j = ev w e j := fun e j g1 g2 => hw _ (by omega)
  have m : ∀ e j, 0 ≤ e → 0 ≤ j → mg w' e j = mg w e j := fun e j g1 g2 => hw _ (by omega)
  refine ⟨h0, h1, h2, h3, h4, h5, h6, ?_, ?_, h9, ?_, ?_⟩
  · rw [hμ 4 (by omega), h36]
    exact a7
  · rw [hμ 14 (by omega), h37]
    exact a8
  · intro i g1 g2
    have x := aE i g1 (by omega)
    unfold rr_E at x ⊢
    simp (disch := omega) only [e, hμ]
    refine ⟨x.1, x.2.1, x.2.2.1, x.2.2.2.1, x.2.2.2.2.1, x.2.2.2.2.2.1, x.2.2.2.2.2.2.1, fun q g3 g4 => ?_⟩
    rw [e i _ g1 (by omega)]
    exact x.2.2.2.2.2.2.2 q g3 g4
  · intro i g1 g2
    have x := aM i g1 (by omega)
    unfold rr_M at x ⊢
    simp (disch := omega) only [m, hμ]
    exact x
theorem s_setCut {N : Nat} : q_st_setCut N vI := by
  intro c μC μM hc hI a0 h0 a1 h1
  have hI' := hI
  obtain ⟨n, hr, hv, hn, hA, hT, hU, hK⟩ := hI
  have hr' := hr
  have hv' := hv
  obtain ⟨e0, e1, e2, e3, e4, e5, e6, -, -, e9, -⟩ := hr'
  obtain ⟨v0, v1, v2, v3, v4, v5, v6, v7, v8, v9, v10, -⟩ := hv'
  simp only [f_CR_setCut, f_M_setCut, z_isProcess e0 v0.1 v0.2, z_noProcess hn v0.1 v0.2, z_b, z_bz, z_zb, z_within, z_in]
  by_cases g : 0 ≤ a0 ∧ a0 ≤ n - 1
  · rw [if_neg (not_not_intro g), if_pos g]
    simp (disch := omega) only [z_ck, z_ld]
    rw [show (14 : Nat) = 1 + 13 from rfl, show (4 : Nat) = 1 + 3 from rfl, e4 _ (by omega) (by omega), e3 _ (by omega) (by omega)]
    by_cases g1 : 0 ≤ a1 ∧ a1 ≤ q_g μM 1 (25 + a0)
    · rw [if_neg (not_not_intro g1), if_neg (not_not_intro g1), z_st (by omega) (by omega), z_st (by omega) (by omega)]
      have hM : q_g (q_x μM 1 (20 + a0) a1) 1 = q_u (q_g μM 1) (20 + a0) a1 := g_s (by omega)
      refine ⟨_, _, _, rfl, rfl, vI_now hA hT hU hK hn hc (fun k hk => g_sn (by omega)) (fun k hk => g_sn hk) ?_ ?_⟩
      · rw [hM]
        refine rr_low hr (u_n (by omega)) (u_n (by omega)) (fun i hi => u_n (by omega)) (fun k hk => g_sn (by omega)) ?_ ?_ ?_ ?_ ?_ ?_ ?_ ?_
        · rw [g_sn (by omega)]; exact e0
        · intro j j1 j2; rw [g_sn (by omega), u_n (by omega)]; exact e1 j j1 j2
        · intro j j1 j2; rw [g_sn (by omega), u_n (by omega)]; exact e2 j j1 j2
        · intro p p1 p2
          rw [g_s (by omega)]
          by_cases k : p = a0
          · rw [k, u_s, u_s]
          · rw [u_n k, u_n (by omega)]; exact e3 p p1 p2
        · intro j j1 j2; rw [g_sn (by omega), u_n (by omega)]; exact e4 j j1 j2
        · intro j j1 j2; rw [g_sn (by omega), u_n (by omega)]; exact e5 j j1 j2
        · intro j j1 j2; rw [g_sn (by omega), u_n (by omega)]; exact e6 j j1 j2
        · rw [g_sn (by omega), u_n (by omega)]; exact e9
      · rw [hM]
        refine rv_up (rv_low hv (fun i hi => u_n (by omega)) ?_ ?_ ?_ ?_ ?_ ?_ ?_) (by omega) (by omega)
        · exact fun j j1 j2 => by rw [u_n (by omega)]; exact v1 j j1 j2
        · intro p p1 p2
          have := v4 p p1 p2
          rw [u_n (i := 20 + a0) (j := 30 + p) (by omega)]
          by_cases k : p = a0
          · rw [k, u_s]; rw [k] at this; exact ⟨g1, this.2.2⟩
          · rw [u_n (by omega)]; exact ⟨this.1, this.2.2⟩
        · exact fun j j1 j2 => by rw [u_n (by omega)]; exact v7 j j1 j2
        · rw [u_n (by omega)]; exact v8
        · rw [u_n (by omega)]; exact fun x j j1 j2 => by rw [u_n (by omega)]; exact v9 x j j1 j2
        · rw [u_n (by omega)]; exact fun x j j1 j2 => by rw [u_n (by omega)]; exact v10 x j j1 j2
        · intro j j1 j2; rw [u_n (by omega)]; exact v6.2 j j1 j2
    · rw [if_pos g1, if_pos g1]
      exact ⟨_, _, _, rfl, rfl, vI_up hc hI'⟩
  · rw [if_pos g, if_neg g]
    exact ⟨_, _, _, rfl, rfl, vI_up hc hI'⟩
theorem s_setStock {N : Nat} : q_st_setStock N vI := by
  intro c μC μM hc hI a0 h0 a1 h1 a2 h2
  have hI' := hI
  obtain ⟨n, hr, hv, hn, hA, hT, hU, hK⟩ := hI
  have hr' := hr
  have hv' := hv
  obtain ⟨e0, e1, e2, e3, e4, e5, e6, e7, -, e9, -⟩ := hr'
  obtain ⟨v0, v1, v2, v3, v4, v5, v6, v7, v8, v9, v10, -⟩ := hv'
  have e7' : q_g μC 5 0 = q_g μM 1 36 := e7
  simp (disch := omega) only [f_CR_setStock, f_M_setStock, z_isProcess e0 v0.1 v0.2, z_noStock hn v0.1 v0.2, z_isStock, z_b, z_bz, z_zb, z_within, z_in, z_jn, z_fl, Int.cast_ofNat_Int, e7', z_ld]
  by_cases g : 0 ≤ a0 ∧ a0 ≤ n - 1
  · by_cases g1 : 0 ≤ a1 ∧ a1 ≤ 1
    · rw [if_neg (not_not_intro g), if_neg (not_not_intro g1), if_pos (show (0 ≤ a0 ∧ a0 ≤ n - 1) ∧ 0 ≤ a1 ∧ a1 ≤ 1 from ⟨g, g1⟩)]
      by_cases g2 : 0 ≤ a2 ∧ a2 ≤ 1000
      · rw [if_neg (not_not_intro g2), if_neg (not_not_intro g2)]
        by_cases g3 : q_g μM 1 36 ≤ 0
        · rw [if_pos g3, if_pos g3]
          simp (disch := omega) only [z_slot, z_b, z_ck, z_ld, z_st]
          rw [show (2 : Nat) = 1 + 1 from rfl, show (3 : Nat) = 1 + 2 from rfl, e1 _ (by omega) (by omega), show (0 : Int) + 2 * a0 + a1 = a0 * 2 + a1 by omega, show (10 : Int) + 2 * a0 + a1 = 10 + (a0 * 2 + a1) by omega]
          obtain ⟨i, hi⟩ : ∃ i, a0 * 2 + a1 = i := ⟨_, rfl⟩
          have i0 : 0 ≤ i ∧ i < 10 := by omega
          rw [hi]
          have hM : q_g (q_x (q_x μM 1 i a2) 1 (10 + i) a2) 1 = q_u (q_u (q_g μM 1) i a2) (10 + i) a2 := by rw [g_s (by omega), g_s (by omega)]
          refine ⟨_, _, _, rfl, rfl, vI_now hA hT hU hK hn hc (fun k hk => by rw [g_sn (by omega), g_sn (by omega)]) (fun k hk => by rw [g_sn hk, g_sn hk]) ?_ ?_⟩
          · rw [hM]
            refine rr_low hr ?_ ?_ ?_ ?_ ?_ ?_ ?_ ?_ ?_ ?_ ?_ ?_
            · rw [u_n (by omega), u_n (by omega)]
            · rw [u_n (by omega), u_n (by omega)]
            · exact fun i hi => by rw [u_n (by omega), u_n (by omega)]
            · exact fun k hk => by rw [g_sn (by omega), g_sn (by omega)]
            · rw [g_sn (by omega), g_sn (by omega)]; exact e0
            · intro j j1 j2
              rw [g_sn (by omega), g_s (by omega), u_n (i := 10 + i) (by omega)]
              by_cases k : j = i
              · rw [k, u_s, u_s]
              · rw [u_n k, u_n k]; exact e1 j j1 j2
            · intro j j1 j2
              rw [g_s (by omega), g_sn (by omega)]
              by_cases k : j = i
              · rw [k, u_s, u_s]
              · rw [u_n k, u_n (by omega), u_n (by omega)]; exact e2 j j1 j2
            · intro j j1 j2; rw [g_sn (by omega), g_sn (by omega), u_n (by omega), u_n (by omega)]; exact e3 j j1 j2
            · intro j j1 j2; rw [g_sn (by omega), g_sn (by omega), u_n (by omega), u_n (by omega)]; exact e4 j j1 j2
            · intro j j1 j2; rw [g_sn (by omega), g_sn (by omega), u_n (by omega), u_n (by omega)]; exact e5 j j1 j2
            · intro j j1 j2; rw [g_sn (by omega), g_sn (by omega), u_n (by omega), u_n (by omega)]; exact e6 j j1 j2
            · rw [g_sn (by omega), g_sn (by omega), u_n (by omega), u_n (by omega)]; exact e9
          · rw [hM]
            refine rv_up (rv_low hv (fun i hi => by rw [u_n (by omega), u_n (by omega)]) ?_ ?_ ?_ ?_ ?_ ?_ ?_) (by omega) (by omega)
            · intro j j1 j2
              have := v1 j j1 j2
              unfold q_u
              by_cases k1 : j = 10 + i
              · rw [if_pos k1]; exact ⟨g2.1, g2.2, fun q => by omega⟩
              · by_cases k2 : j = i
                · rw [if_neg k1, if_pos k2]; exact ⟨g2.1, g2.2, fun q => by omega⟩
                · rw [if_neg k1, if_neg k2]; exact this
            · intro p p1 p2
              have := v4 p p1 p2
              simp (disch := omega) only [u_n]
              exact ⟨this.1, this.2.2⟩
            · intro j j1 j2; simp (disch := omega) only [u_n]; exact v7 j j1 j2
            · simp (disch := omega) only [u_n]; exact v8
            · simp (disch := omega) only [u_n]; exact fun x j j1 j2 => by simp (disch := omega) only [u_n]; exact v9 x j j1 j2
            · simp (disch := omega) only [u_n]; exact fun x j j1 j2 => by simp (disch := omega) only [u_n]; exact v10 x j j1 j2
            · intro j j1 j2; simp (disch := omega) only [u_n]; exact v6.2 j j1 j2
        · rw [if_neg g3, if_neg g3]
          exact ⟨_, _, _, rfl, rfl, vI_up hc hI'⟩
      · rw [if_pos g2, if_pos g2]
        exact ⟨_, _, _, rfl, rfl, vI_up hc hI'⟩
    · rw [if_neg (not_not_intro g), if_pos g1, if_neg (fun h => g1 h.2)]
      exact ⟨_, _, _, rfl, rfl, vI_up hc hI'⟩
  · rw [if_pos g, if_neg (fun h => g h.1)]
    exact ⟨_, _, _, rfl, rfl, vI_up hc hI'⟩
