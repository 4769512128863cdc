theorem mxf_row {w w1 : Int → Int} {p kind msg q : Int} (h : ∀ i, 64 ≤ i → i < 1264 → w1 i = w i) (hm : kind = 2 → mg w1 msg 4 = mg w msg 4) (q0 : 0 ≤ q) (q1 : q < 5) : ∀ d : Nat, d ≤ 100 → mxf (fun k => ev w1 k (7 + q)) (hS w1 p kind msg) d = mxf (fun k => ev w k (7 + q)) (hS w p kind msg) d
  | 0, _ => rfl
  | d + 1, hd => by
    have ih := mxf_row (w := w) (w1 := w1) (p := p) (kind := kind) (msg := msg) (q := q) h hm q0 q1 d (by omega)
    have x1 : hS w1 p kind msg (d : Int) = hS w p kind msg (d : Int) := by
      unfold hS
      have : ev w1 (d : Int) 0 = ev w (d : Int) 0 := h _ (by omega) (by omega)
      rw [this]
      by_cases g : kind = 2
      · rw [hm g]
      · simp [g]
    have x2 : ev w1 (d : Int) (7 + q) = ev w (d : Int) (7 + q) := h _ (by omega) (by omega)
    unfold mxf
    rw [ih, x1, x2]
theorem wEv_ck {w : Int → Int} {p kind s a oth msg : Int} {ck ck' : Int → Int} (h : ∀ q, 0 ≤ q → q < 5 → ck q = ck' q) : wEv w p kind s a oth msg ck = wEv w p kind s a oth msg ck' := by
  funext i
  rw [wEv_i, wEv_i]
  by_cases r : 64 + 12 * w 36 ≤ i ∧ i < 64 + 12 * w 36 + 12
  · rw [if_pos r, if_pos r]
    by_cases r7 : 64 + 12 * w 36 + 7 ≤ i
    · rw [h _ (by omega) (by omega)]
    · repeat' split
      all_goals first | rfl | omega
  · rw [if_neg r, if_neg r]
theorem z_sendNow {N : Nat} {n c f t s a : Int} {μ : q_M} (hN : 1000 ≤ N) (hv : rv n (q_g μ 1) c) (hf : 0 ≤ f) (hf' : f < n) (hs : 0 ≤ s ∧ s ≤ 1) (ha : 1 ≤ a ∧ a ≤ 100) : ∃ μ', f_M_sendNow N f t s a μ = some (rSn (q_g μ 1) f t s a, μ') ∧ (∀ k, k ≠ 1 → q_g μ' k = q_g μ k) ∧ q_g μ' 1 = if 0 ≤ rSn (q_g μ 1) f t s a then wSn (q_g μ 1) f t s a else q_g μ 1 := by
  have hv' := hv
  obtain ⟨v0, v1, v2, v3, v4, -⟩ := hv'
  have st := v1 (2 * f + s) (by omega) (by omega)
  unfold f_M_sendNow rSn
  rw [z_ck (by omega) (by omega), z_ck (by omega) (by omega), z_ck (by omega) (by omega), show 0 + 2 * f + s = 2 * f + s by omega, z_ld (by omega) (by omega)]
  by_cases g : q_g μ 1 (2 * f + s) < a
  · rw [if_pos g, if_neg (by omega)]
    exact ⟨μ, rfl, fun _ _ => rfl, by rw [if_neg (by omega)]⟩
  · rw [if_neg g, if_pos (by omega), z_ld (by omega) (by omega), z_jn, z_waiting hN hv, z_b]
    by_cases g2 : q_g μ 1 36 = 100
    · rw [if_pos g2, if_pos (Or.inl g2)]
      exact ⟨μ, rfl, fun _ _ => rfl, by rw [if_neg (by omega)]⟩
    · rw [if_neg g2]
      by_cases g6 : cnt (wait (q_g μ 1) f t) 0 (q_g μ 1 37).toNat < 6
      · rw [if_pos g6, if_neg (show ¬ (q_g μ 1 36 = 100 ∨ 6 ≤ cnt (wait (q_g μ 1) f t) 0 (q_g μ 1 37).toNat) by omega), z_ck (by omega) (by omega), z_ck (by omega) (by omega), z_ck (by omega) (by omega), show 0 + 2 * f + s = 2 * f + s by omega, z_ld (by omega) (by omega), z_ck (by omega) (by omega), z_st (by omega) (by omega), z_ld (by omega) (by omega)]
        have w1 : q_g (q_x μ 1 (2 * f + s) (q_g μ 1 (2 * f + s) - a)) 1 = q_u (q_g μ 1) (2 * f + s) (q_g μ 1 (2 * f + s) - a) := g_s (by omega)
        obtain ⟨μ2, b1, b2, b3⟩ := z_write (f := f) (t := t) (s := s) (a := a) (snt := q_g μ 1 36) (μ := q_x μ 1 (2 * f + s) (q_g μ 1 (2 * f + s) - a)) (by rw [w1, u_n (by omega)]; omega) (by rw [w1, u_n (by omega)]; omega)
        rw [w1, u_n (by omega), b1, z_b, z_ld (by omega) (by omega), b3, w1]
        have hw : wMsg (q_u (q_g μ 1) (2 * f + s) (q_g μ 1 (2 * f + s) - a)) f t s a (q_g μ 1 36) = wSm (q_g μ 1) f t s a := rfl
        have h37 : wSm (q_g μ 1) f t s a 37 = q_g μ 1 37 + 1 := by
          unfold wSm
          rw [wMsg_i, u_n (by omega), if_neg (by omega), if_pos rfl]
        have o : ∀ i, 10 ≤ i → i < 1264 + 6 * q_g μ 1 37 → i ≠ 37 → wSm (q_g μ 1) f t s a i = q_g μ 1 i := fun i i0 i1 i2 => wSm_o v3.1 hf (by omega) hs i0 i1 i2
        rw [hw, h37, z_ck (by omega) (by omega), show q_g μ 1 37 + 1 - 1 = q_g μ 1 37 by omega]
        have hp4 := v4 f hf (by omega)
        have hp41 := hp4.1
        have hp42 := hp4.2.1
        have e36 := o 36 (by omega) (by omega) (by omega)
        have e25 := o (25 + f) (by omega) (by omega) (by omega)
        obtain ⟨μ3, d1, d2, d3⟩ := z_happens (N := N) (p := f) (kind := 1) (stock := s) (amount := a) (other := t) (msg := q_g μ 1 37) (μ := μ2) (w := wSm (q_g μ 1) f t s a) hN (by rw [b3, w1, hw]) (by rw [e36]; omega) (by rw [e36]; omega) hf (by omega) (by rw [e25]; omega) (fun h => absurd h (by decide))
        rw [d1, z_b2, e36]
        refine ⟨μ3, rfl, fun k hk => by rw [d2 k hk, b2 k hk, g_sn hk], ?_⟩
        rw [d3, if_pos v2.1, e36]
        unfold wSn
        refine wEv_ck (fun q q0 q1 => ?_)
        rw [mxf_row (w := q_g μ 1) (fun i i0 i1 => o i (by omega) (by omega) (by omega)) (fun h => absurd h (by decide)) q0 q1 _ (by omega)]
        exact mxf_bas hv q0 q1 (by decide)
      · rw [if_neg g6, if_pos (show q_g μ 1 36 = 100 ∨ 6 ≤ cnt (wait (q_g μ 1) f t) 0 (q_g μ 1 37).toNat by omega)]
        exact ⟨μ, rfl, fun _ _ => rfl, by rw [if_neg (by omega)]⟩
theorem z_trySend {N o : Nat} {n c f t s a : Int} {μ : q_M} {w : Int → Int} (hN : 1000 ≤ N) (hr : rr_C o n μ w) (hv : rv n w c) (hc : w 37 < 512) (hf : 0 ≤ f) (hf' : f < n) (ht : 0 ≤ t ∧ t < n) (hft : f ≠ t) (hs : 0 ≤ s ∧ s ≤ 1) (ha : 1 ≤ a ∧ a ≤ 100) : ∃ μ', f_Wo_trySend N o f t s a μ = some (rSn w f t s a, μ') ∧ (∀ k, k < o ∨ o + 22 < k → q_g μ' k = q_g μ k) ∧ rr_C o n μ' (if 0 ≤ rSn w f t s a then wSn w f t s a else w) := by
  have hv' := hv
  obtain ⟨v0, v1, v2, v3, v4, -⟩ := hv'
  have hr' := hr
  obtain ⟨e0, e1, e2, e3, e4, e5, e6, e7, e8, e9, eE, eM⟩ := hr'
  have st := v1 (2 * f + s) (by omega) (by omega)
  unfold f_Wo_trySend rSn
  rw [z_slot (by omega) (by omega) hs.1 hs.2, z_b, z_ld (by omega) (by omega), e1 _ (by omega) (by omega), show f * 2 + s = 2 * f + s by omega, z_ck (by omega) (by omega)]
  by_cases g : w (2 * f + s) < a
  · rw [if_pos g, if_neg (by omega)]
    exact ⟨μ, rfl, fun _ _ => rfl, by rw [if_neg (by omega)]; exact hr⟩
  · rw [if_neg g, if_pos (by omega), z_channelOf (by omega) (by omega) (by omega) (by omega), z_b, z_fl, Int.cast_ofNat_Int, e7, z_jn, z_fl, Int.cast_ofNat_Int, e8, z_waitingIn hN hr hv (by omega) (by omega), z_b]
    by_cases g2 : w 36 = 100
    · rw [if_pos (show 100 ≤ w 36 by omega), if_pos (Or.inl g2)]
      exact ⟨μ, rfl, fun _ _ => rfl, by rw [if_neg (by omega)]; exact hr⟩
    · rw [if_neg (show ¬ 100 ≤ w 36 by omega), if_neg (show ¬ 512 ≤ w 37 by omega)]
      by_cases g6 : cnt (wait w f t) 0 (w 37).toNat < 6
      · rw [if_pos g6, if_neg (show ¬ (w 36 = 100 ∨ 6 ≤ cnt (wait w f t) 0 (w 37).toNat) by omega), z_b, z_st (by omega) (by omega), z_fl, Int.cast_ofNat_Int, g_sn (by omega), e7]
        have hp4 := v4 f hf (by omega)
        have hp41 := hp4.1
        have hp42 := hp4.2.1
        unfold f_Ch_put
        rw [z_fl, Int.cast_ofNat_Int, g_sn (by omega), e8, z_st (by omega) (by omega), z_st (by omega) (by omega), z_st (by omega) (by omega), z_st (by omega) (by omega), z_st (by omega) (by omega), z_fl, Int.cast_ofNat_Int, show o + 14 + 1 = o + 15 from rfl, show o + 14 + 2 = o + 16 from rfl, show o + 14 + 3 = o + 17 from rfl, show o + 14 + 4 = o + 18 from rfl, show o + 14 + 5 = o + 19 from rfl]
        rw [g_sn (by omega), g_sn (by omega), g_sn (by omega), g_sn (by omega), g_sn (by omega), g_sn (by omega), e8, z_ck (by omega) (by omega), z_fs, Int.cast_ofNat_Int, z_b2]
        obtain ⟨μ1, hμ1⟩ : ∃ μ1, μ1 = q_x (q_x (q_x (q_x (q_x (q_x (q_x μ (o + 1) (2 * f + s) (w (2 * f + s) - a)) (o + 15) (w 37) (f * 5 + t)) (o + 16) (w 37) s) (o + 17) (w 37) a) (o + 18) (w 37) (w 36)) (o + 19) (w 37) (-1)) (o + 14) 0 (w 37 + 1) := ⟨_, rfl⟩
        rw [← hμ1]
        have f1 : ∀ k, k ≠ o + 1 ∧ (k < o + 14 ∨ o + 19 < k) → q_g μ1 k = q_g μ k := fun k hk => by
          rw [hμ1, g_sn (by omega), g_sn (by omega), g_sn (by omega), g_sn (by omega), g_sn (by omega), g_sn (by omega), g_sn (by omega)]
        obtain ⟨μ2, b1, b4, b5, b6, b10, b11, b13, b12, bf⟩ := z_add (N := N) (o := o) (p := f) (kind := 1) (msg := w 37) (e := w 36) (h := w (25 + f)) (μ := μ1) (w := w) hN (by rw [f1 _ (by omega)]; exact e7) (by omega) (by omega) rfl hf (by omega) (by rw [f1 _ (by omega)]; exact e4 f hf (by omega)) (by omega) (fun k k0 k1 => by rw [f1 _ (by omega)]; exact (eE k k0 k1).1) (fun k k0 k1 q q0 q1 => by rw [f1 _ (by omega)]; exact (eE k k0 k1).2.2.2.2.2.2.2 q q0 q1) (bas_p hv hf (by omega))
        rw [b1, z_b2]
        unfold f_Hi_describe
        rw [z_st (by omega) (by omega), z_st (by omega) (by omega), z_st (by omega) (by omega), z_b, show o + 4 + 3 = o + 7 from rfl, show o + 4 + 4 = o + 8 from rfl, show o + 4 + 5 = o + 9 from rfl]
        refine ⟨_, rfl, fun k hk => ?_, ?_⟩
        · rw [g_sn (by omega), g_sn (by omega), g_sn (by omega), bf k (by omega), f1 k (by omega)]
        · rw [if_pos v2.1]
          obtain ⟨g1, gR, gK⟩ := ap_sn hv hf hf' ht hft hs ha.1 (by omega)
          obtain ⟨h37, m0', m1', m2', m3', m4', m5'⟩ : wSn w f t s a 37 = w 37 + 1 ∧ mg (wSn w f t s a) (w 37) 0 = f ∧ mg (wSn w f t s a) (w 37) 1 = t ∧ mg (wSn w f t s a) (w 37) 2 = s ∧ mg (wSn w f t s a) (w 37) 3 = a ∧ mg (wSn w f t s a) (w 37) 4 = w 36 ∧ mg (wSn w f t s a) (w 37) 5 = -1 := by
            rcases gK with h | h | h
            · exact absurd h.1 (by decide)
            · exact h.2.2.2.2
            · exact absurd h.1 (by decide)
          have fk : ∀ k, k ≠ 4 ∧ k ≠ 5 ∧ k ≠ 6 ∧ k ≠ 7 ∧ k ≠ 8 ∧ k ≠ 9 ∧ k ≠ 10 ∧ k ≠ 11 ∧ k ≠ 12 ∧ k ≠ 13 → q_g (q_x (q_x (q_x μ2 (o + 7) (w 36) s) (o + 8) (w 36) a) (o + 9) (w 36) t) (o + k) = q_g μ1 (o + k) := fun k hk => by
            rw [g_sn (by omega), g_sn (by omega), g_sn (by omega), bf _ (by omega)]
          refine rr_ap hr hv hf hf' g1 gR ?_ ?_ ?_ ?_ ?_ ?_ ?_ ?_ ?_ ?_ ?_ ?_ ?_ ?_ ?_
          · exact (congrFun ((fk 0 (by omega)).trans (f1 _ (by omega))) 0).trans e0
          · intro j j0 j1
            rw [fk 1 (by omega), hμ1, g_sn (by omega), g_sn (by omega), g_sn (by omega), g_sn (by omega), g_sn (by omega), g_sn (by omega), g_s (by omega), wSn_st v2.1 v3.1 hf (by omega) hs j0 j1]
            by_cases e : j = 2 * f + s
            · rw [e, u_s, u_s]
            · rw [u_n e, u_n e]; exact e1 j j0 j1
          · exact fun k hk => (fk k (by omega)).trans (f1 _ (by omega))
          · rw [g_sn (by omega), g_sn (by omega), g_sn (by omega), b4, u_s]
          · rw [g_sn (by omega), g_sn (by omega), g_sn (by omega), b5, f1 _ (by omega)]
          · rw [g_sn (by omega), g_sn (by omega), g_sn (by omega), b6, f1 _ (by omega)]
          · rw [g_sn (by omega), g_sn (by omega), g_s (by omega), bf _ (by omega), f1 _ (by omega)]
          · rw [g_sn (by omega), g_s (by omega), g_sn (by omega), bf _ (by omega), f1 _ (by omega)]
          · rw [g_s (by omega), g_sn (by omega), g_sn (by omega), bf _ (by omega), f1 _ (by omega)]
          · rw [g_sn (by omega), g_sn (by omega), g_sn (by omega), b10, f1 _ (by omega)]
          · rw [g_sn (by omega), g_sn (by omega), g_sn (by omega), b11, f1 _ (by omega)]
          · intro j
            rw [g_sn (by omega), g_sn (by omega), g_sn (by omega), b12, f1 _ (by omega)]
          · rw [g_sn (by omega), g_sn (by omega), g_sn (by omega), b13, f1 _ (by omega)]
          · rw [fk 14 (by omega), hμ1, g_s (by omega), u_s, h37]
          · intro m m0 m1
            rw [h37] at m1
            unfold rr_M
            rw [fk 15 (by omega), fk 16 (by omega), fk 17 (by omega), fk 18 (by omega), fk 19 (by omega), hμ1]
            simp (disch := omega) only [g_s, g_sn]
            by_cases em : m = w 37
            · rw [em, u_s, u_s, u_s, u_s, u_s, m0', m1', m2', m3', m4', m5']
              exact ⟨rfl, rfl, rfl, rfl, rfl⟩
            · obtain ⟨x0, x1, x2, x3, x4⟩ := eM m m0 (by omega)
              obtain ⟨-, -, -, -, -, rm, rm5⟩ := gR
              rw [u_n em, u_n em, u_n em, u_n em, u_n em, rm m 0 m0 (by omega) (by omega) (by omega), rm m 1 m0 (by omega) (by omega) (by omega), rm m 2 m0 (by omega) (by omega) (by omega), rm m 3 m0 (by omega) (by omega) (by omega), rm m 4 m0 (by omega) (by omega) (by omega), rm5 m m0 (by omega), if_neg (fun h => absurd h.1 (by decide))]
              exact ⟨x0, x1, x2, x3, x4⟩
      · rw [if_neg g6, if_pos (show w 36 = 100 ∨ 6 ≤ cnt (wait w f t) 0 (w 37).toNat by omega)]
        exact ⟨μ, rfl, fun _ _ => rfl, by rw [if_neg (by omega)]; exact hr⟩
