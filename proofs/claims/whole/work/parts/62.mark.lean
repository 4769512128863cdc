theorem rr_one {o : Nat} {n v : Int} {μ : q_M} {w : Int → Int} {i : Int} (hr : rr_C o n μ w) (h0 : 38 ≤ i) (h1 : i < 63) : rr_C o n (q_x μ (o + 20) (i - 38) v) (q_u w i v) := by
  have hr' := hr
  obtain ⟨e0, e1, e2, e3, e4, e5, e6, -, -, e9, -⟩ := hr'
  refine rr_low hr (u_n (by omega)) (u_n (by omega)) (fun i hi => u_n (by omega)) (fun k hk => g_sn (by omega)) ?_ ?_ ?_ ?_ ?_ ?_ ?_ ?_
  · rw [g_sn (by omega)]; exact e0
  · intro j j1 j2; rw [g_sn (by omega), u_n (by omega)]; exact e1 j j1 j2
  · intro j j1 j2; rw [g_sn (by omega), u_n (by omega)]; exact e2 j j1 j2
  · intro j j1 j2; rw [g_sn (by omega), u_n (by omega)]; exact e3 j j1 j2
  · intro j j1 j2; rw [g_sn (by omega), u_n (by omega)]; exact e4 j j1 j2
  · intro j j1 j2; rw [g_sn (by omega), u_n (by omega)]; exact e5 j j1 j2
  · intro j j1 j2
    rw [g_s (by omega)]
    by_cases e : j = i - 38
    · rw [e, u_s, show 38 + (i - 38) = i by omega, u_s]
    · rw [u_n e, u_n (by omega)]; exact e6 j j1 j2
  · rw [g_sn (by omega), u_n (by omega)]; exact e9
theorem rr_state {o : Nat} {n v : Int} {μ : q_M} {w : Int → Int} (hr : rr_C o n μ w) : rr_C o n (q_x μ (o + 21) 0 v) (q_u w 35 v) := by
  have hr' := hr
  obtain ⟨e0, e1, e2, e3, e4, e5, e6, -, -, e9, -⟩ := hr'
  refine rr_low hr (u_n (by omega)) (u_n (by omega)) (fun i hi => u_n (by omega)) (fun k hk => g_sn (by omega)) ?_ ?_ ?_ ?_ ?_ ?_ ?_ ?_
  · rw [g_sn (by omega)]; exact e0
  · intro j j1 j2; rw [g_sn (by omega), u_n (by omega)]; exact e1 j j1 j2
  · intro j j1 j2; rw [g_sn (by omega), u_n (by omega)]; exact e2 j j1 j2
  · intro j j1 j2; rw [g_sn (by omega), u_n (by omega)]; exact e3 j j1 j2
  · intro j j1 j2; rw [g_sn (by omega), u_n (by omega)]; exact e4 j j1 j2
  · intro j j1 j2; rw [g_sn (by omega), u_n (by omega)]; exact e5 j j1 j2
  · intro j j1 j2; rw [g_sn (by omega), u_n (by omega)]; exact e6 j j1 j2
  · rw [g_s (by omega), u_s, u_s]
theorem u_id {w : Int → Int} {i v : Int} (h : w i = v) : q_u w i v = w := by
  funext j
  unfold q_u
  by_cases e : j = i
  · rw [if_pos e, e, h]
  · rw [if_neg e]
theorem z_takeMarkerC {N o : Nat} {n c f t : Int} {μ : q_M} {w : Int → Int} (hN : 1000 ≤ N) (hr : rr_C o n μ w) (hv : rv n w c) (hf : 0 ≤ f ∧ f < n) (ht : 0 ≤ t ∧ t < n) (hs : w 35 = 1) : ∃ μ', f_Wo_takeMarker N o t (f * 5 + t) μ = some μ' ∧ (∀ k, k < o ∨ o + 22 < k → q_g μ' k = q_g μ k) ∧ rr_C o n μ' (wTM w n f t) := by
  have v0 := hv.1
  have vp := (hv.2.2.2.2.1 t ht.1 (show t < 5 by omega)).2.2.1
  have vd := hv.2.2.2.2.2.2.1.2
  obtain ⟨h2, s2⟩ := rv_m2 hv hf ht hs
  have hr1 : rr_C o n (q_x μ (o + 20) (f * 5 + t) (-1)) (wM1 w f t) := by
    have := rr_one (i := 38 + 5 * f + t) (v := -1) hr (by omega) (by omega)
    rw [show 38 + 5 * f + t - 38 = f * 5 + t by omega] at this
    exact this
  unfold f_Wo_takeMarker
  rw [z_st (by omega) (by omega), z_ld (by omega) (by omega), g_sn (by omega), hr.2.2.2.2.2.1 t ht.1 (by omega), z_jn]
  have fin : ∀ μ3 : q_M, (∀ k, k < o ∨ o + 22 < k → q_g μ3 k = q_g μ k) → rr_C o n μ3 (wM2 w n f t) → ∃ μ', (q_fl μ3 o 0 fun x4 => q_b (f_Sn_hasAll N (o + 21) x4 μ3) fun x6 => q_jn (fun (μ7 : q_M) => some μ7) fun (j60 : q_M → Option q_M) => if x6 = 0 then j60 μ3 else q_b (f_Ch_waitingMarkers N (o + 14) μ3) fun x9 => if x9 = 0 then q_fs μ3 (o + 21) 0 2 fun μ10 => j60 μ10 else j60 μ3) = some μ' ∧ (∀ k, k < o ∨ o + 22 < k → q_g μ' k = q_g μ k) ∧ rr_C o n μ' (wTM w n f t) := by
    intro μ3 hk hr3
    have key : ∀ (d nf : Nat) (i : Int), 0 ≤ i → i + d = n → d < nf → f_Sn_hasAll_L2 (o + 21) n μ3 (some 0) (some 1) nf i = some (bi (allR (wM2 w n f t) i d)) := by
      intro d
      induction d with
      | zero =>
        intro nf i h0 h1 h2
        obtain ⟨nf, rfl⟩ : ∃ m, nf = m + 1 := ⟨nf - 1, by omega⟩
        rw [f_Sn_hasAll_L2, if_pos (by omega)]
        rfl
      | succ d ih =>
        intro nf i h0 h1 h2'
        obtain ⟨nf, rfl⟩ : ∃ m, nf = m + 1 := ⟨nf - 1, by omega⟩
        have y := (h2.2.2.2.2.1 i h0 (show i < 5 by omega)).2.2.1
        rw [f_Sn_hasAll_L2, if_neg (by omega), z_ld (by omega) (by omega), show o + 21 + 1 = o + 22 from rfl, hr3.2.2.2.2.2.1 i h0 (by omega), allR]
        by_cases g : wM2 w n f t (30 + i) = -1
        · rw [if_pos g, decide_eq_false (by omega)]
          rfl
        · rw [if_neg g, decide_eq_true (by omega : 0 ≤ wM2 w n f t (30 + i)), z_ck (by omega) (by omega), Bool.true_and]
          exact ih nf (i + 1) (by omega) (by omega) (by omega)
    have hAll : f_Sn_hasAll N (o + 21) n μ3 = some (bi (allR (wM2 w n f t) 0 n.toNat)) := key n.toNat N 0 (by omega) (by omega) (by omega)
    rw [z_fl, Int.cast_ofNat_Int, hr3.1, hAll, z_b, z_jn, z_waitingMarkers hN hr3 h2, z_b]
    simp only [z_bib, z_fs, Int.cast_ofNat_Int]
    unfold wTM wM3
    cases ha : allR (wM2 w n f t) 0 n.toNat with
    | false =>
      rw [if_pos rfl, if_neg (fun h => absurd h.1 (by decide)), u_id s2]
      exact ⟨_, rfl, hk, hr3⟩
    | true =>
      rw [if_neg (by decide)]
      by_cases g : nMark (wM2 w n f t) = 0
      · rw [if_pos g, if_pos ⟨rfl, g⟩]
        exact ⟨_, rfl, fun k h => by rw [g_sn (by omega)]; exact hk k h, rr_state hr3⟩
      · rw [if_neg g, if_neg (fun h => g h.2), u_id s2]
        exact ⟨_, rfl, hk, hr3⟩
  by_cases g : w (30 + t) = -1
  · rw [if_pos g]
    have d1 : wM1 w f t (38 + 6 * t) = -1 := by
      unfold wM1
      by_cases e : 38 + 6 * t = 38 + 5 * f + t
      · rw [e, u_s]
      · rw [u_n e]; exact vd t ht.1 (by omega)
    obtain ⟨μ2, b1, b2, b3⟩ := z_noteEvents (N := N) hN hr1 v0.2 ht.1 ht.2 d1
    rw [b1, z_b]
    exact fin μ2 (fun k h => by rw [b2 k (by omega), g_sn (by omega)]) (by unfold wM2; rw [if_pos (by omega)]; exact b3)
  · rw [if_neg g]
    exact fin _ (fun k h => g_sn (by omega)) (by unfold wM2; rw [if_neg (by omega)]; exact hr1)
