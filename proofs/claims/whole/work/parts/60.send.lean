theorem rv_sni {n c c' f t s a : Int} {w : Int → Int} (hv : rv n w c) (hc : w 37 < c') (hc' : c' ≤ 512) (hf : 0 ≤ f) (hf' : f < n) (ht : 0 ≤ t ∧ t < n) (hft : f ≠ t) (hs : 0 ≤ s ∧ s ≤ 1) (ha : 1 ≤ a ∧ a ≤ 100) : rv n (if 0 ≤ rSn w f t s a then wSn w f t s a else w) c' := by
  have v2 := hv.2.2.1
  by_cases g : 0 ≤ rSn w f t s a
  · rw [if_pos g]
    unfold rSn at g
    by_cases g1 : w (2 * f + s) < a
    · rw [if_pos g1] at g; omega
    · rw [if_neg g1] at g
      by_cases g2 : w 36 = 100 ∨ 6 ≤ cnt (wait w f t) 0 (w 37).toNat
      · rw [if_pos g2] at g; omega
      · exact rv_sn hv hc hc' hf hf' ht hft hs ha (by omega) (by omega)
  · rw [if_neg g]
    obtain ⟨a0, a1, a2, a3, a4⟩ := hv
    exact ⟨a0, a1, a2, by omega, a4⟩
theorem s_send {N : Nat} (hN : 1000 ≤ N) : q_st_send N vI := by
  intro c μC μM hc hI a0 h0 a1 h1 a2 h2 a3 h3
  have hI' := hI
  obtain ⟨n, hr, hv, hn, hA, hT, hU, hK⟩ := hI
  have v0 := hv.1
  have v3 := hv.2.2.2.1
  simp only [f_CR_send, f_M_send, z_isPair hr.1 v0.1 v0.2, z_noChannel hn v0.1 v0.2, z_isStock, z_b, z_bz, z_zb, z_within, z_in, z_jn]
  by_cases g : (0 ≤ a0 ∧ a0 ≤ n - 1) ∧ (0 ≤ a1 ∧ a1 ≤ n - 1) ∧ a0 ≠ a1
  · by_cases g1 : 0 ≤ a2 ∧ a2 ≤ 1
    · rw [if_neg (not_not_intro g), if_pos g, if_neg (not_not_intro g1), if_neg (not_not_intro g1)]
      by_cases g2 : 1 ≤ a3 ∧ a3 ≤ 100
      · rw [if_neg (not_not_intro g2), if_neg (not_not_intro g2)]
        obtain ⟨μ1, b1, b2, b3⟩ := z_trySend (N := N) (o := 1) (f := a0) (t := a1) (s := a2) (a := a3) hN hr hv (by omega) g.1.1 (by omega) (by omega) g.2.2 g1 g2
        obtain ⟨μ2, d1, d2, d3⟩ := z_sendNow (N := N) (f := a0) (t := a1) (s := a2) (a := a3) hN hv g.1.1 (show a0 < n by omega) g1 g2
        rw [b1, d1, z_b2, z_b2]
        exact ⟨_, μ1, μ2, rfl, rfl, vI_now hA hT hU hK hn hc (fun k hk => b2 k (by omega)) d2 (by rw [d3]; exact b3) (by rw [d3]; exact rv_sni hv (by omega) (by omega) g.1.1 (by omega) (by omega) g.2.2 g1 g2)⟩
      · rw [if_pos g2, if_pos g2]
        exact ⟨_, _, _, rfl, rfl, vI_up hc hI'⟩
    · rw [if_neg (not_not_intro g), if_pos g, if_pos g1, if_pos g1]
      exact ⟨_, _, _, rfl, rfl, vI_up hc hI'⟩
  · rw [if_pos g, if_neg g]
    exact ⟨_, _, _, rfl, rfl, vI_up hc hI'⟩
