theorem z_tryChange {N o : Nat} {n c p s a : Int} {μ : q_M} {w : Int → Int} (hN : 1000 ≤ N) (hr : rr_C o n μ w) (hv : rv n w c) (hp : 0 ≤ p) (hp' : p < n) (hs : 0 ≤ s ∧ s ≤ 1) (ha : -100 ≤ a ∧ a ≤ 100) : ∃ μ', f_Wo_tryChange N o p s a μ = some (rCh w p s a, μ') ∧ (∀ k, k < o ∨ o + 22 < k → q_g μ' k = q_g μ k) ∧ rr_C o n μ' (if 0 ≤ rCh w p s a then wCh w p s a else w) := by
  have hv' := hv
  obtain ⟨v0, v1, v2, v3, v4, -⟩ := hv'
  have hr' := hr
  obtain ⟨e0, e1, e2, e3, e4, e5, e6, e7, e8, e9, eE, eM⟩ := hr'
  have st := v1 (2 * p + s) (by omega) (by omega)
  unfold f_Wo_tryChange rCh
  rw [z_slot (by omega) (by omega) hs.1 hs.2, z_b, z_ld (by omega) (by omega), e1 _ (by omega) (by omega), show p * 2 + s = 2 * p + s by omega, z_ck (by omega) (by omega), z_within, z_b, z_fl, Int.cast_ofNat_Int, e7]
  simp only [z_bz]
  by_cases g : ¬ (0 ≤ w (2 * p + s) + a ∧ w (2 * p + s) + a ≤ 1000)
  · rw [if_pos g, if_pos g]
    exact ⟨μ, rfl, fun _ _ => rfl, by rw [if_neg (by omega)]; exact hr⟩
  · rw [if_neg g, if_neg g]
    by_cases g2 : w 36 = 100
    · rw [if_pos g2, if_neg (by omega)]
      exact ⟨μ, rfl, fun _ _ => rfl, by rw [if_neg (by omega)]; exact hr⟩
    · rw [if_neg g2, if_pos (by omega), z_b, z_st (by omega) (by omega)]
      have hp4 := v4 p hp (by omega)
      have hp41 := hp4.1
      have hp42 := hp4.2.1
      obtain ⟨μ1, b1, b4, b5, b6, b10, b11, b13, b12, bf⟩ := z_add (N := N) (o := o) (p := p) (kind := 0) (msg := -1) (e := w 36) (h := w (25 + p)) (μ := q_x μ (o + 1) (2 * p + s) (w (2 * p + s) + a)) (w := w) hN (by rw [g_sn (by omega)]; exact e7) (by omega) (by omega) rfl hp (by omega) (by rw [g_sn (by omega)]; exact e4 p hp (by omega)) (by omega) (fun k k0 k1 => by rw [g_sn (by omega)]; exact (eE k k0 k1).1) (fun k k0 k1 q q0 q1 => by rw [g_sn (by omega)]; exact (eE k k0 k1).2.2.2.2.2.2.2 q q0 q1) (bas_p hv hp (by omega))
      rw [b1, z_b2]
      unfold f_Hi_describe
      rw [z_st (by omega) (by omega), z_st (by omega) (by omega), z_st (by omega) (by omega), z_b, show o + 4 + 3 = o + 7 from rfl, show o + 4 + 4 = o + 8 from rfl, show o + 4 + 5 = o + 9 from rfl]
      refine ⟨_, rfl, fun k hk => ?_, ?_⟩
      · rw [g_sn (by omega), g_sn (by omega), g_sn (by omega), bf k (by omega), g_sn (by omega)]
      · rw [if_pos v2.1]
        obtain ⟨g1, gR, g37⟩ := ap_ch (a := a) hv hp hp' hs (by omega)
        have f : ∀ k, k ≠ 1 ∧ k ≠ 4 ∧ k ≠ 5 ∧ k ≠ 6 ∧ k ≠ 7 ∧ k ≠ 8 ∧ k ≠ 9 ∧ k ≠ 10 ∧ k ≠ 11 ∧ k ≠ 12 ∧ k ≠ 13 → q_g (q_x (q_x (q_x μ1 (o + 7) (w 36) s) (o + 8) (w 36) a) (o + 9) (w 36) (-100006)) (o + k) = q_g μ (o + k) := fun k hk => by
          rw [g_sn (by omega), g_sn (by omega), g_sn (by omega), bf _ (by omega), g_sn (by omega)]
        refine rr_ap hr hv hp hp' g1 gR ?_ ?_ ?_ ?_ ?_ ?_ ?_ ?_ ?_ ?_ ?_ ?_ ?_ ?_ ?_
        · exact (congrFun (f 0 (by omega)) 0).trans e0
        · intro j j0 j1
          rw [g_sn (by omega), g_sn (by omega), g_sn (by omega), bf _ (by omega), g_s (by omega), wCh_st v2.1 hp (by omega) hs j0 j1]
          by_cases e : j = 2 * p + s
          · rw [e, u_s, u_s]
          · rw [u_n e, u_n e]; exact e1 j j0 j1
        · exact fun k hk => f k (by omega)
        · rw [g_sn (by omega), g_sn (by omega), g_sn (by omega), b4, u_s]
        · rw [g_sn (by omega), g_sn (by omega), g_sn (by omega), b5, g_sn (by omega)]
        · rw [g_sn (by omega), g_sn (by omega), g_sn (by omega), b6, g_sn (by omega)]
        · rw [g_sn (by omega), g_sn (by omega), g_s (by omega), bf _ (by omega), g_sn (by omega)]
        · rw [g_sn (by omega), g_s (by omega), g_sn (by omega), bf _ (by omega), g_sn (by omega)]
        · rw [g_s (by omega), g_sn (by omega), g_sn (by omega), bf _ (by omega), g_sn (by omega)]
        · rw [g_sn (by omega), g_sn (by omega), g_sn (by omega), b10, g_sn (by omega)]
        · rw [g_sn (by omega), g_sn (by omega), g_sn (by omega), b11, g_sn (by omega)]
        · intro j
          rw [g_sn (by omega), g_sn (by omega), g_sn (by omega), b12, g_sn (by omega)]
        · rw [g_sn (by omega), g_sn (by omega), g_sn (by omega), b13, g_sn (by omega)]
        · rw [f 14 (by omega), g37]; exact e8
        · intro m m0 m1
          rw [g37] at m1
          obtain ⟨x0, x1, x2, x3, x4⟩ := eM m m0 m1
          obtain ⟨-, -, -, -, -, rm, rm5⟩ := gR
          unfold rr_M
          rw [f 15 (by omega), f 16 (by omega), f 17 (by omega), f 18 (by omega), f 19 (by omega), rm m 0 m0 m1 (by omega) (by omega), rm m 1 m0 m1 (by omega) (by omega), rm m 2 m0 m1 (by omega) (by omega), rm m 3 m0 m1 (by omega) (by omega), rm m 4 m0 m1 (by omega) (by omega), rm5 m m0 m1, if_neg (fun h => absurd h.1 (by decide))]
          exact ⟨x0, x1, x2, x3, x4⟩
theorem rv_chi {n c p s a : Int} {w : Int → Int} (hv : rv n w c) (hp : 0 ≤ p) (hp' : p < n) (hs : 0 ≤ s ∧ s ≤ 1) (ha : -100 ≤ a ∧ a ≤ 100) : rv n (if 0 ≤ rCh w p s a then wCh w p s a else w) c := by
  have v2 := hv.2.2.1
  by_cases g : 0 ≤ rCh w p s a
  · rw [if_pos g]
    unfold rCh at g
    by_cases g1 : ¬ (0 ≤ w (2 * p + s) + a ∧ w (2 * p + s) + a ≤ 1000)
    · rw [if_pos g1] at g; omega
    · rw [if_neg g1] at g
      by_cases g2 : w 36 = 100
      · rw [if_pos g2] at g; omega
      · exact rv_ch hv hp hp' hs ha (by omega) (Classical.not_not.mp g1)
  · rw [if_neg g]; exact hv
theorem s_change {N : Nat} (hN : 1000 ≤ N) : q_st_change N vI := by
  intro c μC μM hc hI a0 h0 a1 h1 a2 h2
  have hI' := hI
  obtain ⟨n, hr, hv, hn, hA, hT, hU, hK⟩ := hI
  have v0 := hv.1
  simp only [f_CR_change, f_M_change, z_isProcess hr.1 v0.1 v0.2, z_noStock hn v0.1 v0.2, z_isStock, z_b, z_bz, z_zb, z_within, z_in, z_jn]
  by_cases g : 0 ≤ a0 ∧ a0 ≤ n - 1
  · by_cases g1 : 0 ≤ a1 ∧ a1 ≤ 1
    · rw [if_neg (not_not_intro g), if_neg (not_not_intro g1), if_pos (show (0 ≤ a0 ∧ a0 ≤ n - 1) ∧ 0 ≤ a1 ∧ a1 ≤ 1 from ⟨g, g1⟩)]
      by_cases g2 : -100 ≤ a2 ∧ a2 ≤ 100
      · rw [if_neg (not_not_intro g2), if_neg (not_not_intro g2)]
        by_cases g3 : a2 = 0
        · rw [if_pos g3, if_pos g3]
          exact ⟨_, _, _, rfl, rfl, vI_up hc hI'⟩
        · rw [if_neg g3, if_neg g3]
          obtain ⟨μ1, b1, b2, b3⟩ := z_tryChange (N := N) (o := 1) (p := a0) (s := a1) (a := a2) hN hr hv g.1 (by omega) g1 g2
          obtain ⟨μ2, d1, d2, d3⟩ := z_changeNow (N := N) (p := a0) (s := a1) (a := a2) hN hv g.1 (show a0 < n by omega) g1 g2
          rw [b1, d1, z_b2, z_b2]
          exact ⟨_, μ1, μ2, rfl, rfl, vI_now hA hT hU hK hn hc (fun k hk => b2 k (by omega)) d2 (by rw [d3]; exact b3) (by rw [d3]; exact rv_up (rv_chi hv g.1 (by omega) g1 g2) (by omega) (by omega))⟩
      · rw [if_pos g2, if_pos g2]
        exact ⟨_, _, _, rfl, rfl, vI_up hc hI'⟩
    · rw [if_neg (not_not_intro g), if_pos g1, if_neg (fun h => g1 h.2)]
      exact ⟨_, _, _, rfl, rfl, vI_up hc hI'⟩
  · rw [if_pos g, if_neg (fun h => g h.1)]
    exact ⟨_, _, _, rfl, rfl, vI_up hc hI'⟩
