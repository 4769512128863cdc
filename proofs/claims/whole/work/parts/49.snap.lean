/-! snapshots -/
def wRec (w : Int → Int) (n p : Int) : Int → Int := fun i => if 38 + 5 * p ≤ i ∧ i < 38 + 5 * p + n then (if i = 38 + 6 * p then -1 else w 37) else if i = 30 + p then w (25 + p) else w i
theorem wRec_i {w : Int → Int} {n p i : Int} : wRec w n p i = if 38 + 5 * p ≤ i ∧ i < 38 + 5 * p + n then (if i = 38 + 6 * p then -1 else w 37) else if i = 30 + p then w (25 + p) else w i := rfl
theorem z_record {N : Nat} {n p : Int} {μ : q_M} (hN : 1000 ≤ N) (hn : q_g μ 0 0 = n) (h5 : n ≤ 5) (hp : 0 ≤ p) (hp' : p < n) : ∃ μ', f_M_record N p μ = some μ' ∧ (∀ k, k ≠ 1 → q_g μ' k = q_g μ k) ∧ q_g μ' 1 = wRec (q_g μ 1) n p := by
  unfold f_M_record
  simp (disch := omega) only [z_ck, z_ld, z_st]
  obtain ⟨μ', a1, aP, a2, a3⟩ := lp_wr (F := f_M_record_L20 p fun μ7 => some μ7) (E := some) (k := 1) (b := n) (off := 38 + 5 * p) (fun i => if i = p then -1 else q_g μ 1 37) (fun μ' => q_g μ' 0 0 = n ∧ q_g μ' 1 37 = q_g μ 1 37) (by omega) (fun nf μ' h => by rw [f_M_record_L20, z_fl, Int.cast_ofNat_Int, h.1, if_pos (Int.le_refl _)]) (fun nf i μ' h h1 h2 => by
    refine ⟨?_, by rw [g_sn (by omega)]; exact h.1, by rw [g_s (by omega), u_n (by omega)]; exact h.2⟩
    rw [f_M_record_L20, z_fl, Int.cast_ofNat_Int, h.1, if_neg (by omega)]
    simp (disch := omega) only [z_ck, z_st, z_ld, z_jn, h.2]
    by_cases e : i = p
    · rw [if_pos e, if_pos e]
    · rw [if_neg e, if_neg e]) n.toNat N 0 (q_x μ 1 (30 + p) (q_g μ 1 (25 + p))) (by omega) (by omega) (by omega) ⟨by rw [g_sn (by omega)]; exact hn, by rw [g_s (by omega), u_n (by omega)]⟩
  refine ⟨μ', a1, fun k hk => by rw [a2 k hk, g_sn hk], funext fun i => ?_⟩
  rw [a3, wRec_i, g_s (by omega)]
  by_cases e : 38 + 5 * p ≤ i ∧ i < 38 + 5 * p + n
  · rw [if_pos (by omega), if_pos e]
    by_cases l : i = 38 + 6 * p
    · rw [if_pos l, if_pos (by omega)]
    · rw [if_neg l, if_neg (by omega)]
  · rw [if_neg (by omega), if_neg e]
    rfl
theorem z_noteEvents {N o : Nat} {n p : Int} {μ : q_M} {w : Int → Int} (hN : 1000 ≤ N) (hr : rr_C o n μ w) (h5 : n ≤ 5) (hp : 0 ≤ p) (hp' : p < n) (hd : w (38 + 6 * p) = -1) : ∃ μ', f_Wo_noteEvents N o p μ = some μ' ∧ (∀ k, k ≠ o + 20 ∧ k ≠ o + 22 → q_g μ' k = q_g μ k) ∧ rr_C o n μ' (wRec w n p) := by
  have hr' := hr
  obtain ⟨a0, a1, a2, a3, a4, a5, a6, -, a8, a9, -⟩ := hr'
  unfold f_Wo_noteEvents
  rw [z_ld (by omega) (by omega), z_st (by omega) (by omega), a4 p hp (by omega)]
  obtain ⟨μ', b1, bP, b2, b3⟩ := lp_wr (F := f_Wo_noteEvents_L20 o p fun μ5 => some μ5) (E := some) (k := o + 20) (b := n) (off := p * 5) (fun i => if i = p then -1 else w 37) (fun μ' => q_g μ' o 0 = n ∧ q_g μ' (o + 14) 0 = w 37 ∧ q_g μ' (o + 20) (p * 5 + p) = -1) (by omega) (fun nf μ' h => by rw [f_Wo_noteEvents_L20, z_fl, Int.cast_ofNat_Int, h.1, if_pos (Int.le_refl _)]) (fun nf i μ' h h1 h2 => by
    refine ⟨?_, by rw [g_sn (by omega)]; exact h.1, by rw [g_sn (by omega)]; exact h.2.1, ?_⟩
    · rw [f_Wo_noteEvents_L20, z_fl, Int.cast_ofNat_Int, h.1, if_neg (by omega)]
      simp (disch := omega) only [z_jn, z_ck, z_channelOf, z_b, f_Ch_putMarker, z_fl, z_st, Int.cast_ofNat_Int, h.2.1, show o + 14 + 6 = o + 20 from rfl]
      by_cases e : i = p
      · rw [if_pos e, if_pos e, e, ← h.2.2, q_x_id (by omega)]
      · rw [if_neg e, if_neg e]
    · rw [g_s (by omega)]
      by_cases e : i = p
      · rw [e, u_s, if_pos rfl]
      · rw [u_n (by omega)]
        exact h.2.2) n.toNat N 0 (q_x μ (o + 22) p (w (25 + p))) (by omega) (by omega) (by omega) ⟨by rw [g_sn (by omega)]; exact a0, by rw [g_sn (by omega)]; exact a8, by rw [g_sn (by omega), a6 _ (by omega) (by omega), show 38 + (p * 5 + p) = 38 + 6 * p by omega]; exact hd⟩
  have f : ∀ k, k ≠ o + 20 ∧ k ≠ o + 22 → q_g μ' k = q_g μ k := fun k hk => by rw [b2 k hk.1, g_sn hk.2]
  refine ⟨μ', b1, f, rr_low hr ?_ ?_ ?_ ?_ ?_ ?_ ?_ ?_ ?_ ?_ ?_ ?_⟩
  · rw [wRec_i, if_neg (by omega), if_neg (by omega)]
  · rw [wRec_i, if_neg (by omega), if_neg (by omega)]
  · intro i hi
    rw [wRec_i, if_neg (by omega), if_neg (by omega)]
  · exact fun k hk => f _ (by omega)
  · exact bP.1
  · intro j j1 j2
    rw [f _ (by omega), wRec_i, if_neg (by omega), if_neg (by omega)]
    exact a1 j j1 j2
  · intro j j1 j2
    rw [f _ (by omega), wRec_i, if_neg (by omega), if_neg (by omega)]
    exact a2 j j1 j2
  · intro j j1 j2
    rw [f _ (by omega), wRec_i, if_neg (by omega), if_neg (by omega)]
    exact a3 j j1 j2
  · intro j j1 j2
    rw [f _ (by omega), wRec_i, if_neg (by omega), if_neg (by omega)]
    exact a4 j j1 j2
  · intro j j1 j2
    rw [b2 _ (by omega), g_s (by omega), wRec_i, if_neg (by omega)]
    by_cases e : j = p
    · rw [e, u_s, if_pos rfl]
    · rw [u_n e, if_neg (by omega)]
      exact a5 j j1 j2
  · intro j j1 j2
    rw [b3, wRec_i, g_sn (by omega)]
    by_cases e : 38 + 5 * p ≤ 38 + j ∧ 38 + j < 38 + 5 * p + n
    · rw [if_pos (by omega), if_pos e]
      by_cases l : j - p * 5 = p
      · rw [if_pos l, if_pos (by omega)]
      · rw [if_neg l, if_neg (by omega)]
    · rw [if_neg (by omega), if_neg e, if_neg (by omega)]
      exact a6 j j1 j2
  · rw [f _ (by omega), wRec_i, if_neg (by omega), if_neg (by omega)]
    exact a9
theorem rv_wRec {n c p : Int} {w : Int → Int} (h : rv n w c) (hp : 0 ≤ p) (hp' : p < n) (hs : w 35 = 1) : rv n (wRec w n p) c := by
  have h' := h
  obtain ⟨v0, v1, v2, v3, v4, v5, v6, v7, v8, v9, v10, -⟩ := h'
  have y := v4 p hp (by omega)
  refine rv_low h (fun i hi => by rw [wRec_i, if_neg (by omega), if_neg (by omega)]) ?_ ?_ ?_ ?_ ?_ ?_ ?_
  · intro j j1 j2
    rw [wRec_i, if_neg (by omega), if_neg (by omega)]
    exact v1 j j1 j2
  · intro q q1 q2
    have x := v4 q q1 q2
    rw [wRec_i, if_neg (by omega), if_neg (by omega), wRec_i, if_neg (by omega)]
    refine ⟨x.1, ?_⟩
    by_cases e : q = p
    · rw [e, if_pos rfl]
      have := y.1
      omega
    · rw [if_neg (by omega)]
      exact x.2.2
  · intro j j1 j2
    have x := v7 j j1 j2
    rw [wRec_i]
    by_cases e : 38 + 5 * p ≤ 38 + j ∧ 38 + j < 38 + 5 * p + n
    · rw [if_pos e]
      by_cases l : 38 + j = 38 + 6 * p
      · rw [if_pos l]; omega
      · rw [if_neg l]; omega
    · rw [if_neg e, if_neg (by omega)]
      exact x
  · rw [wRec_i, if_neg (by omega), if_neg (by omega)]
    exact v8
  · rw [wRec_i, if_neg (by omega), if_neg (by omega)]
    exact fun g => absurd hs g
  · rw [wRec_i, if_neg (by omega), if_neg (by omega)]
    exact fun g => absurd g (by omega)
  · intro q q1 q2
    rw [wRec_i]
    by_cases e : q = p
    · rw [e, if_pos (by omega), if_pos rfl]
    · by_cases l : 38 + 5 * p ≤ 38 + 6 * q ∧ 38 + 6 * q < 38 + 5 * p + n
      · exfalso; omega
      · rw [if_neg l, if_neg (by omega)]
        exact v6.2 q q1 q2
theorem rv_wClear {n c s : Int} {w : Int → Int} (h : rv n w c) (hs : s = 0 ∨ s = 1) : rv n (q_u (wClear w) 35 s) c := by
  have h' := h
  obtain ⟨v0, v1, v2, v3, v4, v5, v6, v7, v8, v9, v10, -⟩ := h'
  refine rv_low h (fun i hi => by rw [u_n (by omega), wClear_i, if_neg (by omega), if_neg (by omega)]) ?_ ?_ ?_ ?_ ?_ ?_ ?_
  · intro j j1 j2
    rw [u_n (by omega), wClear_i, if_neg (by omega), if_neg (by omega)]
    exact v1 j j1 j2
  · intro q q1 q2
    have x := v4 q q1 q2
    rw [u_n (by omega), u_n (by omega), wClear_i, if_neg (by omega), if_neg (by omega), wClear_i, if_pos (by omega)]
    have := x.1
    exact ⟨x.1, by omega, by omega⟩
  · intro j j1 j2
    rw [u_n (by omega), wClear_i, if_pos (by omega)]
    omega
  · rw [u_s]; omega
  · intro _ j j1 j2
    rw [u_n (by omega), wClear_i, if_pos (by omega)]
  · rw [u_s]; omega
  · intro q q1 q2
    rw [u_n (by omega), wClear_i, if_pos (by omega)]
theorem wClear35 {w : Int → Int} : q_u (wClear w) 35 0 = wClear w := by
  funext i
  unfold q_u wClear
  by_cases e : i = 35
  · rw [if_pos e, if_neg (by omega), if_pos e]
  · rw [if_neg e]
theorem s_beginSnapshot {N : Nat} (hN : 6000 ≤ N) : q_st_beginSnapshot N vI := by
  intro c μC μM hc hI a0 h0
  have hI' := hI
  obtain ⟨n, hr, hv, hn, hA, hT, hU, hK⟩ := hI
  have hr' := hr
  have hv' := hv
  obtain ⟨e0, e1, e2, e3, e4, e5, e6, e7, e8, e9, -⟩ := hr'
  obtain ⟨v0, v1, v2, v3, v4, v5, v6, v7, v8, v9, v10, -⟩ := hv'
  have e9' : q_g μC 22 0 = q_g μM 1 35 := e9
  simp (disch := omega) only [f_CR_beginSnapshot, f_M_beginSnapshot, z_isProcess e0 v0.1 v0.2, z_noProcess hn v0.1 v0.2, z_b, z_bz, z_zb, z_fl, Int.cast_ofNat_Int, e9', z_ld, f_Sn_forget, z_fs, z_fi]
  by_cases g : 0 ≤ a0 ∧ a0 ≤ n - 1
  · rw [if_neg (not_not_intro g), if_pos g]
    by_cases g1 : q_g μM 1 35 = 1
    · rw [if_pos g1, if_pos g1]
      exact ⟨_, _, _, rfl, rfl, vI_up hc hI'⟩
    · rw [if_neg g1, if_neg g1]
      obtain ⟨μ2, b1, b2, b3⟩ := z_clearSnapshot (N := N) (μ := μM) (by omega)
      rw [b1, z_b, z_st (by omega) (by omega)]
      have hw : q_g (q_x μ2 1 35 1) 1 = q_u (wClear (q_g μM 1)) 35 1 := by rw [g_s (by omega), b3]
      obtain ⟨μ3, c1, c2, c3⟩ := z_record (N := N) (n := n) (p := a0) (μ := q_x μ2 1 35 1) (by omega) (by rw [g_sn (by omega), b2 0 (by omega)]; exact hn) v0.2 g.1 (by omega)
      rw [hw] at c3
      have hv1 := rv_wRec (p := a0) (rv_wClear hv (Or.inr rfl)) g.1 (by omega) u_s
      have hr1 : rr_C 1 n (q_x (q_fill (q_x μC 22 0 0) (22 + 1) 5 (-1)) 22 0 1) (q_u (wClear (q_g μM 1)) 35 1) := by
        refine rr_low hr ?_ ?_ ?_ ?_ ?_ ?_ ?_ ?_ ?_ ?_ ?_ ?_
        · rw [u_n (by omega), wClear_i, if_neg (by omega), if_neg (by omega)]
        · rw [u_n (by omega), wClear_i, if_neg (by omega), if_neg (by omega)]
        · intro i hi; rw [u_n (by omega), wClear_i, if_neg (by omega), if_neg (by omega)]
        · intro k hk; simp (disch := omega) only [g_sn, g_fn]
        · simp (disch := omega) only [g_sn, g_fn]; exact e0
        · intro j j1 j2; rw [u_n (by omega), wClear_i, if_neg (by omega), if_neg (by omega)]; simp (disch := omega) only [g_sn, g_fn]; exact e1 j j1 j2
        · intro j j1 j2; rw [u_n (by omega), wClear_i, if_neg (by omega), if_neg (by omega)]; simp (disch := omega) only [g_sn, g_fn]; exact e2 j j1 j2
        · intro j j1 j2; rw [u_n (by omega), wClear_i, if_neg (by omega), if_neg (by omega)]; simp (disch := omega) only [g_sn, g_fn]; exact e3 j j1 j2
        · intro j j1 j2; rw [u_n (by omega), wClear_i, if_neg (by omega), if_neg (by omega)]; simp (disch := omega) only [g_sn, g_fn]; exact e4 j j1 j2
        · intro j j1 j2; rw [u_n (by omega), wClear_i, if_pos (by omega), g_sn (by omega)]; exact g_f j1 (by omega)
        · intro j j1 j2; rw [u_n (by omega), wClear_i, if_pos (by omega)]; simp (disch := omega) only [g_sn, g_fn]; rw [e6 j j1 j2]; exact v9 g1 j j1 j2
        · rw [u_s, g_s (by omega), u_s]
      obtain ⟨μ4, d1, d2, d3⟩ := z_noteEvents (N := N) (by omega) hr1 v0.2 g.1 (show a0 < n by omega) (by rw [u_n (by omega), wClear_i, if_pos (by omega)])
      rw [d1, c1, z_b, z_b, show (15 : Nat) = 1 + 14 from rfl, z_waitingMarkers (by omega) d3 hv1, z_markers (by omega) (by rw [c3]; exact hv1), z_b, z_b, c3]
      refine ⟨_, _, _, rfl, rfl, vI_now hA hT hU hK hn hc (fun k hk => ?_) (fun k hk => ?_) ?_ ?_⟩
      · rw [d2 k (by omega)]
        simp (disch := omega) only [g_sn, g_fn]
      · rw [c2 k hk, g_sn hk, b2 k hk]
      · rw [c3]; exact d3
      · rw [c3]; exact rv_up hv1 (by omega) (by omega)
  · rw [if_pos g, if_neg g]
    exact ⟨_, _, _, rfl, rfl, vI_up hc hI'⟩
theorem s_abandonSnapshot {N : Nat} (hN : 6000 ≤ N) : q_st_abandonSnapshot N vI := by
  intro c μC μM hc hI
  have hI' := hI
  obtain ⟨n, hr, hv, hn, hA, hT, hU, hK⟩ := hI
  have hr' := hr
  obtain ⟨e0, e1, e2, e3, e4, e5, e6, e7, e8, e9, -⟩ := hr'
  have e9' : q_g μC 22 0 = q_g μM 1 35 := e9
  simp (disch := omega) only [f_CR_abandonSnapshot, f_M_abandonSnapshot, z_b, z_fl, Int.cast_ofNat_Int, e9', z_ld, f_Sn_forget, f_Ch_dropMarkers, z_fs, z_fi]
  by_cases g1 : q_g μM 1 35 = 1
  · rw [if_pos g1, if_pos g1]
    obtain ⟨μ2, b1, b2, b3⟩ := z_clearSnapshot (N := N) (μ := μM) (by omega)
    rw [b1, show (15 : Nat) = 1 + 14 from rfl, z_waitingMarkers (by omega) hr hv, z_markers (by omega) hv]
    simp only [z_b]
    have hv1 := rv_wClear hv (Or.inl rfl : (0 : Int) = 0 ∨ (0 : Int) = 1)
    rw [wClear35] at hv1
    refine ⟨_, _, _, rfl, rfl, vI_now hA hT hU hK hn hc (fun k hk => ?_) b2 ?_ ?_⟩
    · simp (disch := omega) only [g_sn, g_fn]
    · rw [b3]
      refine rr_low hr ?_ ?_ ?_ ?_ ?_ ?_ ?_ ?_ ?_ ?_ ?_ ?_
      · rw [wClear_i, if_neg (by omega), if_neg (by omega)]
      · rw [wClear_i, if_neg (by omega), if_neg (by omega)]
      · intro i hi; rw [wClear_i, if_neg (by omega), if_neg (by omega)]
      · intro k hk; simp (disch := omega) only [g_sn, g_fn]
      · simp (disch := omega) only [g_sn, g_fn]; exact e0
      · intro j j1 j2; rw [wClear_i, if_neg (by omega), if_neg (by omega)]; simp (disch := omega) only [g_sn, g_fn]; exact e1 j j1 j2
      · intro j j1 j2; rw [wClear_i, if_neg (by omega), if_neg (by omega)]; simp (disch := omega) only [g_sn, g_fn]; exact e2 j j1 j2
      · intro j j1 j2; rw [wClear_i, if_neg (by omega), if_neg (by omega)]; simp (disch := omega) only [g_sn, g_fn]; exact e3 j j1 j2
      · intro j j1 j2; rw [wClear_i, if_neg (by omega), if_neg (by omega)]; simp (disch := omega) only [g_sn, g_fn]; exact e4 j j1 j2
      · intro j j1 j2; rw [wClear_i, if_pos (by omega)]; exact g_f j1 (by omega)
      · intro j j1 j2; rw [wClear_i, if_pos (by omega)]; simp (disch := omega) only [g_sn, g_fn]; exact g_f j1 (by omega)
      · rw [wClear_i, if_neg (by omega), if_pos rfl, g_fn (by omega), g_s (by omega), u_s]
    · rw [b3]; exact rv_up hv1 (by omega) (by omega)
  · rw [if_neg g1, if_neg g1]
    exact ⟨_, _, _, rfl, rfl, vI_up hc hI'⟩
