theorem rv_rvi {n c p f : Int} {w : Int → Int} (hv : rv n w c) (hp : 0 ≤ p ∧ p < n) (hf : 0 ≤ f ∧ f < n) (hft : f ≠ p) : rv n (wRv w n p f) c := by
  have hv' := hv
  obtain ⟨v0, v1, v2, v3, v4, -, -, v7, v8, v9, -⟩ := hv'
  have hfi := fi_in (p := wait w f p) (d := (w 37).toNat) (i := 0)
  have hst9 := fun h : w 35 ≠ 1 => v9 h (f * 5 + p) (by omega) (by omega)
  rw [show 38 + (f * 5 + p) = 38 + 5 * f + p by omega] at hst9
  unfold wRv
  by_cases g : 0 ≤ w (38 + 5 * f + p) ∧ w (38 + 5 * f + p) ≤ mRv w p f
  · rw [if_pos g]
    exact rv_tm hv hf hp (by
      refine Classical.byContradiction fun h => ?_
      have := hst9 h
      omega)
  · rw [if_neg g]
    by_cases gm : mRv w p f = w 37
    · rw [if_pos gm]; exact hv
    · rw [if_neg gm]
      have m0 : 0 ≤ mRv w p f := hfi.1
      have m1 : mRv w p f < w 37 := by
        have := hfi.2.1
        unfold mRv at gm ⊢
        omega
      by_cases g3 : 0 ≤ rRc w p (mRv w p f)
      · rw [if_pos g3]
        unfold rRc at g3
        by_cases g1 : 1000 < w (2 * p + mg w (mRv w p f) 2) + mg w (mRv w p f) 3
        · rw [if_pos g1] at g3; omega
        · rw [if_neg g1] at g3
          by_cases g2 : w 36 = 100
          · rw [if_pos g2] at g3; omega
          · exact rv_rc hv hp.1 hp.2 hf hft m0 m1 (by omega) (by omega)
      · rw [if_neg g3]; exact hv
theorem s_receive {N : Nat} (hN : 1000 ≤ N) : q_st_receive N vI := by
  intro c μC μM hc hI a0 h0 a1 h1
  have hI' := hI
  obtain ⟨n, hr, hv, hn, hA, hT, hU, hK⟩ := hI
  have v0 := hv.1
  have v3 := hv.2.2.2.1
  have v9 := hv.2.2.2.2.2.2.2.2.2.1
  simp only [f_CR_receive, f_M_receive, z_isPair hr.1 v0.1 v0.2, z_noChannel hn v0.1 v0.2, z_b, z_bz, z_zb, z_jn]
  by_cases g : (0 ≤ a1 ∧ a1 ≤ n - 1) ∧ (0 ≤ a0 ∧ a0 ≤ n - 1) ∧ a1 ≠ a0
  · rw [if_neg (not_not_intro g), if_pos g]
    have hp : 0 ≤ a0 ∧ a0 < n := by omega
    have hf : 0 ≤ a1 ∧ a1 < n := by omega
    obtain ⟨μ1, b1, b2, b3⟩ := z_tryReceive (N := N) (o := 1) hN hr hv hp hf g.2.2
    have rvi := rv_rvi hv hp hf g.2.2
    have hst9 := fun h : q_g μM 1 35 ≠ 1 => v9 h (a1 * 5 + a0) (by omega) (by omega)
    rw [show 38 + (a1 * 5 + a0) = 38 + 5 * a1 + a0 by omega] at hst9
    have hfi := fi_in (p := wait (q_g μM 1) a1 a0) (d := (q_g μM 1 37).toNat) (i := 0)
    have key : ∀ μ2, (∀ k, k ≠ 1 → q_g μ2 k = q_g μM k) → q_g μ2 1 = wRv (q_g μM 1) n a0 a1 → vI (c + 1) μ1 μ2 := fun μ2 d2 d3 => vI_now hA hT hU hK hn hc (fun k hk => b2 k (by omega)) d2 (by rw [d3]; exact b3) (by rw [d3]; exact rv_up rvi (by omega) (by omega))
    rw [b1, z_b2, z_waitingFrom hN hv (by omega) (by omega), z_b, Int.sub_zero]
    have hm : mRv (q_g μM 1) a0 a1 = fi (wait (q_g μM 1) a1 a0) 0 (q_g μM 1 37).toNat := rfl
    rw [← hm] at hfi ⊢
    simp (disch := omega) only [z_ck, z_ld, z_b]
    unfold wRv at key
    unfold rRv
    by_cases g1 : 0 ≤ q_g μM 1 (38 + 5 * a1 + a0) ∧ q_g μM 1 (38 + 5 * a1 + a0) ≤ mRv (q_g μM 1) a0 a1
    · obtain ⟨μ2, d1, d2, d3⟩ := z_takeMarkerM (N := N) hN hv hn hf hp (by
        refine Classical.byContradiction fun h => ?_
        have := hst9 h
        omega)
      rw [if_pos g1] at key
      rw [if_neg (show ¬ q_g μM 1 (38 + 5 * a1 + a0) < 0 by omega), if_neg (show ¬ mRv (q_g μM 1) a0 a1 < q_g μM 1 (38 + 5 * a1 + a0) by omega), d1, z_b, if_pos g1]
      exact ⟨_, μ1, μ2, rfl, rfl, key μ2 d2 d3⟩
    · rw [if_neg g1] at key ⊢
      have hj : ∀ x y : Option (Int × q_M), (if q_g μM 1 (38 + 5 * a1 + a0) < 0 then x else if mRv (q_g μM 1) a0 a1 < q_g μM 1 (38 + 5 * a1 + a0) then x else y) = x := fun x y => by
        by_cases l : q_g μM 1 (38 + 5 * a1 + a0) < 0
        · rw [if_pos l]
        · rw [if_neg l, if_pos (by omega)]
      rw [hj]
      by_cases gm : mRv (q_g μM 1) a0 a1 = q_g μM 1 37
      · rw [if_pos gm] at key
        rw [if_pos gm, if_pos gm]
        exact ⟨_, μ1, μM, rfl, rfl, key μM (fun _ _ => rfl) rfl⟩
      · rw [if_neg gm] at key
        obtain ⟨μ2, d1, d2, d3⟩ := z_receiveNow (N := N) (f := a1) (m := mRv (q_g μM 1) a0 a1) hN hv hp.1 hp.2 hfi.1 (by have := hfi.2.1; omega)
        rw [if_neg gm, if_neg gm, d1, z_b2]
        exact ⟨_, μ1, μ2, rfl, rfl, key μ2 d2 d3⟩
  · rw [if_pos g, if_neg g]
    exact ⟨_, _, _, rfl, rfl, vI_up hc hI'⟩
