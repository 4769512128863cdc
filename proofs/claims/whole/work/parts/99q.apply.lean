/-! apply -/
theorem s_apply {N : Nat} (hN : 200000 ≤ N) : q_st_apply N vI := by
  intro c μC μM hc hI a0 h0
  obtain ⟨n, hr, hv, hn, hA, hT, hU, hK⟩ := hI
  have v0 := hv.1
  have v3 := hv.2.2.2.1
  have v2 := hv.2.2.1
  obtain ⟨x, μ1, μ2, a1, a2, f1, f2, f3, hx⟩ := z_findRepairs hN hr hv hn hU hK
  unfold f_CR_apply f_M_apply
  rw [a1, a2, z_b2, z_b2]
  rcases hx with ⟨hx, -⟩ | ⟨hx, -, Y0, Y1, d0, d1, -⟩
  · rw [if_neg (by omega), if_neg (by omega)]
    exact ⟨_, _, _, rfl, rfl, vI_rep hr hv hn hA hT hU hK hc f1 f2 f3⟩
  · rw [if_pos hx, if_pos (show 0 ≤ x by omega)]
    have hd : ∀ s, s = 0 ∨ s = 1 → ∃ Y, both n (q_g μM 8) (q_g μM 0 12) (q_g μM 0 13) μ1 μ2 s Y := fun s hs => by
      rcases hs with rfl | rfl
      · exact ⟨Y0, d0⟩
      · exact ⟨Y1, d1⟩
    have d6 : nd 6 := ⟨by decide, by decide⟩
    have hS : ∀ p s, 0 ≤ p → p < n → s = 0 ∨ s = 1 → q_g μ1 (flo s + 1) (p * 7 + 6) = q_g μ2 21 (2 * p + s) ∧ 0 ≤ q_g μ2 21 (2 * p + s) ∧ q_g μ2 21 (2 * p + s) ≤ 1000 := fun p s p0 p1 hs => by
      obtain ⟨Y, hY⟩ := hd s hs
      have t1 := hY.1 p 6 ⟨p0, by omega⟩ d6
      have t2 := hY.2.2.1 p p0 p1
      exact ⟨by rw [t1.1, t2.1], by rw [t2.1]; exact t1.2.2.1, by rw [t2.1]; exact t2.2⟩
    have hSb : ∀ j, 0 ≤ j → j < 2 * n → 0 ≤ q_g μ2 21 j ∧ q_g μ2 21 j ≤ 1000 := fun j j0 j1 => by
      have := (hS (j / 2) (j % 2) (by omega) (by omega) (by omega)).2
      rwa [show 2 * (j / 2) + j % 2 = j by omega] at this
    obtain ⟨μ3, b1, b2, b3, b4, b5⟩ := appC (N := N) (S := q_g μ2 21) (KK := fun μ11 => q_b2 (f_CR_replay N a0 μ11) fun x31 μ32 => some (x31, μ32)) (by omega) (rr_frame hr (fun k k0 k1 => f1 k (by omega))) hv (fun p s p0 p1 hs => (hS p s p0 p1 hs).1)
    obtain ⟨μ4, c1, c2, c3, c4, c5⟩ := appM (N := N) (KK := fun μ75 => f_M_apply_L279 N a0 (fun μ78 => q_ld μ78 1 5104 36 fun x107 => some (x107, μ78)) N 0 μ75) (by omega) (f2 1 (by omega) (by omega)) hv (show q_g μ2 0 0 = n by rw [f3 0 (by decide) (by decide) (by decide) (by decide)]; exact hn)
    rw [b1, c1]
    have vv := isN_rv hv c2 hSb
    have vr := b3 _ c2
    have z36 : q_g μ4 1 36 = 0 := c2.2.2.2.2.1
    have z37 : q_g μ4 1 37 = kp (q_g μM 1) (q_g μM 1 37).toNat := c2.2.2.2.2.2.1
    have z35 : q_g μ4 1 35 = 0 := c2.2.2.2.1
    have a36 := c3.1 36 (by decide) (by decide)
    have a37 := c3.1 37 (by decide) (by decide)
    have u0 : ∀ j, j ≠ 3 → q_g μ4 0 j = q_g μ2 0 j := fun j hj => by rw [c5, u_n hj]
    have e00 : q_g μ4 0 0 = n := by rw [u0 0 (by decide), f3 0 (by decide) (by decide) (by decide) (by decide)]; exact hn
    have e06 : q_g μ4 0 6 = q_g μM 0 6 := by rw [u0 6 (by decide), f3 6 (by decide) (by decide) (by decide) (by decide)]
    have fC : ∀ k, 47 ≤ k → k < 56 → q_g μ3 k = q_g μC k := fun k k0 k1 => by rw [b4 k k0, f1 k k1]
    have fM : ∀ k, 2 < k → (k < 9 ∨ 21 < k) → q_g μ4 k = q_g μM k := fun k k0 k1 => by rw [c4 k (by omega) (by omega) (by omega), f2 k (by omega) k1]
    have hU4 : vU n μ3 μ4 := vU_out hU (fun k k0 k1 => fC k (by omega) (by omega)) e06 (fun k k0 k1 => fM k (by omega) (by omega))
    have hcap := cap hv
    have esm : sm (fun i => bi (uns (q_g μ4 2) i)) 0 (q_g μ4 2 36).toNat = sm (fun i => bi (uns (q_g μM 1) i)) 0 (q_g μM 1 36).toNat := by
      rw [a36]
      refine sm_cong (fun e e0 e1 => ?_)
      have hE := (hv.2.2.2.2.2.2.2.2.2.2.2.1 e e0 (by omega)).1
      unfold uns cutE
      rw [c3.2.1 e 1 e0 (by omega) (by decide) (by decide), c3.2.1 e 6 e0 (by omega) (by decide) (by decide), c3.2.1 e 0 e0 (by omega) (by decide) (by decide), c3.1 _ (by omega) (by omega)]
    obtain ⟨μ5, μ6, r1, r2, r3, r4, r5, r6⟩ := z_replay (N := N) (a0 := a0) (by omega) (rv_rq c3 hv) (q_g μ4 2 36).toNat N N 0 μ3 μ4 (by omega) (by omega) (by omega) (by omega) rfl e00 hU4 vr vv (rr_rq c3 b2) (by rw [z35]; decide) (by rw [esm, z37, a37]; exact hcap)
    rw [z36] at r1
    unfold f_CR_replay
    rw [r1, r2, z_b2]
    have g0 : ∀ j, j ≠ 3 → j ≠ 14 → j ≠ 23 → j ≠ 24 → j ≠ 28 → q_g μ6 0 j = q_g μM 0 j := fun j h1 h2 h3 h4 h5 => by rw [r4 0 (by omega), u0 j h1, f3 j h2 h3 h4 h5]
    have gC : ∀ k, 47 ≤ k → k < 56 → q_g μ5 k = q_g μC k := fun k k0 k1 => by rw [r3 k (by omega), fC k k0 k1]
    have gM : ∀ k, 2 < k → (k < 9 ∨ 21 < k) → q_g μ6 k = q_g μM k := fun k k0 k1 => by rw [r4 k (by omega), fM k k0 k1]
    have h03 : q_g μ6 0 3 = 1 := by rw [r4 0 (by omega), c5, u_s]
    have h02 : q_g μ5 0 2 = 1 := by rw [r3 0 (by omega), b5, u_s]
    have hrA : rr_C 24 n μ5 (q_g μ6 2) := by
      rw [r4 2 (by omega)]
      exact rr_frame (rr_rq c3 b2) (fun k k0 k1 => r3 k (by omega))
    have hvA : rv n (q_g μ6 2) (c + 1 : Nat) := by
      rw [r4 2 (by omega)]
      exact rv_up (rv_rq c3 hv) (by omega) (by omega)
    exact ⟨_, μ5, μ6, rfl, rfl, n, r5, rv_up r6 (by omega) (by omega), by rw [g0 0 (by decide) (by decide) (by decide) (by decide) (by decide)]; exact hn, ⟨by rw [h02, h03], Or.inr h03, fun _ => ⟨hrA, hvA⟩⟩, vT_out hT (gC 47 (by omega) (by omega)) (gC 48 (by omega) (by omega)) (g0 4 (by decide) (by decide) (by decide) (by decide) (by decide)) (gM 3 (by omega) (by omega)), vU_out hU (fun k k0 k1 => gC k (by omega) (by omega)) (g0 6 (by decide) (by decide) (by decide) (by decide) (by decide)) (fun k k0 k1 => gM k (by omega) (by omega)), vK_out hK (gC 54 (by omega) (by omega)) (gC 55 (by omega) (by omega)) (g0 12 (by decide) (by decide) (by decide) (by decide) (by decide)) (g0 13 (by decide) (by decide) (by decide) (by decide) (by decide)) (gM 8 (by omega) (by omega))⟩
