def mRv (w : Int → Int) (p f : Int) : Int := fi (wait w f p) 0 (w 37).toNat
def rRv (w : Int → Int) (p f : Int) : Int := if 0 ≤ w (38 + 5 * f + p) ∧ w (38 + 5 * f + p) ≤ mRv w p f then 1000 else if mRv w p f = w 37 then -100006 else rRc w p (mRv w p f)
def wRv (w : Int → Int) (n p f : Int) : Int → Int := if 0 ≤ w (38 + 5 * f + p) ∧ w (38 + 5 * f + p) ≤ mRv w p f then wTM w n f p else if mRv w p f = w 37 then w else if 0 ≤ rRc w p (mRv w p f) then wRc w p f (mRv w p f) else w
theorem z_tryReceive {N o : Nat} {n c p f : Int} {μ : q_M} {w : Int → Int} (hN : 1000 ≤ N) (hr : rr_C o n μ w) (hv : rv n w c) (hp : 0 ≤ p ∧ p < n) (hf : 0 ≤ f ∧ f < n) (hft : f ≠ p) : ∃ μ', f_Wo_tryReceive N o p f μ = some (rRv w p f, μ') ∧ (∀ k, k < o ∨ o + 22 < k → q_g μ' k = q_g μ k) ∧ rr_C o n μ' (wRv w n p f) := by
  have hv' := hv
  obtain ⟨v0, v1, v2, v3, v4, -, -, v7, v8, v9, -, vE, vM, -⟩ := hv'
  have hr' := hr
  obtain ⟨e0, e1, e2, e3, e4, e5, e6, e7, e8, e9, eE, eM⟩ := hr'
  have hmk := v7 (f * 5 + p) (by omega) (by omega)
  have hst9 := fun h : w 35 ≠ 1 => v9 h (f * 5 + p) (by omega) (by omega)
  rw [show 38 + (f * 5 + p) = 38 + 5 * f + p by omega] at hmk hst9
  have hfi := fi_in (p := wait w f p) (d := (w 37).toNat) (i := 0)
  have hcf := fun h : (w (38 + 5 * f + p)).toNat ≤ (w 37).toNat => cnt_fi (p := wait w f p) (i := 0) h
  unfold f_Wo_tryReceive rRv wRv
  rw [z_channelOf (by omega) (by omega) (by omega) (by omega), z_b, z_messageAt hN hr hv (by omega) (by omega), z_b, z_markerPlace hN hr hv (by omega) (by omega), z_b, nth_fi]
  have hm : mRv w p f = fi (wait w f p) 0 (w 37).toNat := rfl
  rw [← hm] at hfi hcf ⊢
  by_cases g : 0 ≤ w (38 + 5 * f + p) ∧ w (38 + 5 * f + p) ≤ mRv w p f
  · have c0 : chP (wait w f p) (w (38 + 5 * f + p)) 0 = 0 := by
      unfold chP
      rw [if_pos g.1, Int.sub_zero]
      exact (hcf (by omega)).mpr (by omega)
    obtain ⟨μ1, b1, b2, b3⟩ := z_takeMarkerC (N := N) hN hr hv hf hp (by
      refine Classical.byContradiction fun h => ?_
      have := hst9 h
      omega)
    rw [if_pos c0, b1, z_b, if_pos g, if_pos g]
    exact ⟨μ1, rfl, b2, b3⟩
  · have c0 : ¬ chP (wait w f p) (w (38 + 5 * f + p)) 0 = 0 := by
      unfold chP
      by_cases l : 0 ≤ w (38 + 5 * f + p)
      · rw [if_pos l, Int.sub_zero]
        intro h
        have := (hcf (by omega)).mp h
        exact g ⟨l, by omega⟩
      · rw [if_neg l]; omega
    rw [if_neg c0, if_neg g, if_neg g]
    by_cases gm : mRv w p f = w 37
    · rw [if_neg (show ¬ mRv w p f < 0 + ((w 37).toNat : Int) by omega), if_pos rfl, if_pos gm, if_pos gm]
      exact ⟨μ, rfl, fun _ _ => rfl, hr⟩
    · rw [if_pos (show mRv w p f < 0 + ((w 37).toNat : Int) by omega), if_neg (show ¬ mRv w p f = -1 by omega), if_neg gm, if_neg gm]
      obtain ⟨m, hmm⟩ : ∃ m, mRv w p f = m := ⟨_, rfl⟩
      rw [hmm] at hfi gm ⊢
      have m0 : 0 ≤ m := hfi.1
      have m1 : m < w 37 := by omega
      obtain ⟨-, -, -, m2, m3, m4, m5⟩ := vM m m0 m1
      obtain ⟨x0, x1, x2, x3, x4⟩ := eM m m0 m1
      have st := v1 (2 * p + mg w m 2) (by omega) (by omega)
      unfold rRc
      rw [z_ld (by omega) (by omega), x1, z_ld (by omega) (by omega), x2, z_slot (by omega) (by omega) m2.1 m2.2, z_b, z_ld (by omega) (by omega), e1 _ (by omega) (by omega), show p * 2 + mg w m 2 = 2 * p + mg w m 2 by omega, z_ck (by omega) (by omega)]
      by_cases g1 : 1000 < w (2 * p + mg w m 2) + mg w m 3
      · rw [if_pos g1, if_neg (show ¬ w (2 * p + mg w m 2) + mg w m 3 ≤ 1000 by omega), if_neg (by omega)]
        exact ⟨μ, rfl, fun _ _ => rfl, hr⟩
      · rw [if_neg g1, if_pos (show w (2 * p + mg w m 2) + mg w m 3 ≤ 1000 by omega), z_fl, Int.cast_ofNat_Int, e7]
        by_cases g2 : w 36 = 100
        · rw [if_pos g2, if_neg (show ¬ w 36 < 100 by omega), if_neg (by omega)]
          exact ⟨μ, rfl, fun _ _ => rfl, hr⟩
        · rw [if_neg g2, if_pos (show w 36 < 100 by omega), z_b]
          rw [z_ld (by omega) (by omega), e1 _ (by omega) (by omega), z_ck (by omega) (by omega), z_st (by omega) (by omega)]
          have hp4 := v4 p hp.1 (by omega)
          have hp41 := hp4.1
          have hp42 := hp4.2.1
          obtain ⟨μ1, b1, b4, b5, b6, b10, b11, b13, b12, bf⟩ := z_add (N := N) (o := o) (p := p) (kind := 2) (msg := m) (e := w 36) (h := w (25 + p)) (μ := q_x μ (o + 1) (2 * p + mg w m 2) (w (2 * p + mg w m 2) + mg w m 3)) (w := w) hN (by rw [g_sn (by omega)]; exact e7) (by omega) (by omega) rfl hp.1 (by omega) (by rw [g_sn (by omega)]; exact e4 p hp.1 (by omega)) (by omega) (fun k k0 k1 => by rw [g_sn (by omega)]; exact (eE k k0 k1).1) (fun k k0 k1 q q0 q1 => by rw [g_sn (by omega)]; exact (eE k k0 k1).2.2.2.2.2.2.2 q q0 q1) (bas_p hv hp.1 (by omega))
          rw [b1, z_b2]
          unfold f_Hi_describe
          rw [z_st (by omega) (by omega), z_st (by omega) (by omega), z_st (by omega) (by omega), z_b, show o + 4 + 3 = o + 7 from rfl, show o + 4 + 4 = o + 8 from rfl, show o + 4 + 5 = o + 9 from rfl]
          obtain ⟨μ2, hμ2⟩ : ∃ μ2, μ2 = q_x (q_x (q_x μ1 (o + 7) (w 36) (mg w m 2)) (o + 8) (w 36) (mg w m 3)) (o + 9) (w 36) f := ⟨_, rfl⟩
          rw [← hμ2]
          have f2 : ∀ k, k ≠ 1 ∧ k ≠ 4 ∧ k ≠ 5 ∧ k ≠ 6 ∧ k ≠ 7 ∧ k ≠ 8 ∧ k ≠ 9 ∧ k ≠ 10 ∧ k ≠ 11 ∧ k ≠ 12 ∧ k ≠ 13 → q_g μ2 (o + k) = q_g μ (o + k) := fun k hk => by
            rw [hμ2, g_sn (by omega), g_sn (by omega), g_sn (by omega), bf _ (by omega), g_sn (by omega)]
          have hc12 : ∀ j, q_g μ2 (o + 12) j = if w 36 * 5 ≤ j ∧ j < w 36 * 5 + 5 then (if j = w 36 * 5 + p then w (25 + p) + 1 else bas w p (j - w 36 * 5)) else q_g μ (o + 12) j := fun j => by
            rw [hμ2, g_sn (by omega), g_sn (by omega), g_sn (by omega), b12, g_sn (by omega)]
          rw [z_ld (by omega) (by omega), f2 18 (by omega), x3]
          obtain ⟨μ3, l1, l2, l3⟩ := z_learnFrom (N := N) (o := o) (e := w 36) (snt := mg w m 4) (μ := μ2) hN v2.1 (by omega) (by omega)
          rw [l1, z_b, z_st (by omega) (by omega)]
          refine ⟨_, rfl, fun k hk => ?_, ?_⟩
          · rw [g_sn (by omega), l2 k (by omega), hμ2, g_sn (by omega), g_sn (by omega), g_sn (by omega), bf k (by omega), g_sn (by omega)]
          · rw [if_pos v2.1]
            obtain ⟨g1', gR, gK⟩ := ap_rc hv hp.1 hp.2 hf hft m0 m1 (show w 36 < 100 by omega)
            have g37 : wRc w p f m 37 = w 37 := by
              rcases gK with h | h | h
              · exact absurd h.1 (by decide)
              · exact absurd h.1 (by decide)
              · exact h.2.2.2.2
            have f3 : ∀ k, k ≠ 12 ∧ k ≠ 19 → q_g (q_x μ3 (o + 19) m (w 36)) (o + k) = q_g μ2 (o + k) := fun k hk => by rw [g_sn (by omega), l2 _ (by omega)]
            refine rr_ap hr hv hp.1 hp.2 g1' gR ?_ ?_ ?_ ?_ ?_ ?_ ?_ ?_ ?_ ?_ ?_ ?_ ?_ ?_ ?_
            · exact (congrFun ((f3 0 (by omega)).trans (f2 0 (by omega))) 0).trans e0
            · intro j j0 j1
              rw [f3 1 (by omega), hμ2, g_sn (by omega), g_sn (by omega), g_sn (by omega), bf _ (by omega), g_s (by omega), wRc_st v2.1 m0 (by omega) m2 j0 j1]
              by_cases e : j = 2 * p + mg w m 2
              · rw [e, u_s, u_s]
              · rw [u_n e, u_n e]; exact e1 j j0 j1
            · exact fun k hk => (f3 k (by omega)).trans (f2 k (by omega))
            · rw [f3 4 (by omega), hμ2, g_sn (by omega), g_sn (by omega), g_sn (by omega), b4, u_s]
            · rw [f3 5 (by omega), hμ2, g_sn (by omega), g_sn (by omega), g_sn (by omega), b5, g_sn (by omega)]
            · rw [f3 6 (by omega), hμ2, g_sn (by omega), g_sn (by omega), g_sn (by omega), b6, g_sn (by omega)]
            · rw [f3 7 (by omega), hμ2, g_sn (by omega), g_sn (by omega), g_s (by omega), bf _ (by omega), g_sn (by omega)]
            · rw [f3 8 (by omega), hμ2, g_sn (by omega), g_s (by omega), g_sn (by omega), bf _ (by omega), g_sn (by omega)]
            · rw [f3 9 (by omega), hμ2, g_s (by omega), g_sn (by omega), g_sn (by omega), bf _ (by omega), g_sn (by omega)]
            · rw [f3 10 (by omega), hμ2, g_sn (by omega), g_sn (by omega), g_sn (by omega), b10, g_sn (by omega)]
            · rw [f3 11 (by omega), hμ2, g_sn (by omega), g_sn (by omega), g_sn (by omega), b11, g_sn (by omega)]
            · intro j
              rw [g_sn (by omega), l3, hc12]
              by_cases r : w 36 * 5 ≤ j ∧ j < w 36 * 5 + 5
              · rw [if_pos r, if_pos r]
                unfold cRc
                rw [mxf_snt hv (by omega) (by omega) m0 m1]
                by_cases s4 : mg w m 4 = -1
                · rw [if_neg (fun h => h.1 s4), if_pos s4]
                · have hz : q_g μ2 (o + 12) (mg w m 4 * 5 + (j - w 36 * 5)) = ev w (mg w m 4) (7 + (j - w 36 * 5)) := by
                    rw [hc12, if_neg (by omega)]
                    exact (eE (mg w m 4) (by omega) (by omega)).2.2.2.2.2.2.2 _ (by omega) (by omega)
                  rw [if_pos ⟨s4, r⟩, if_neg s4, hz]
                  by_cases q : j = w 36 * 5 + p
                  · have y := ((vE (mg w m 4) (by omega) (by omega)).2.2.2.2.2.2.2.2.1 p hp.1 (by omega)).2
                    rw [if_pos q, if_pos q, q, show w 36 * 5 + p - w 36 * 5 = p by omega, if_neg (by omega)]
                  · rw [if_neg q, if_neg q]
              · rw [if_neg r, if_neg (fun h => r h.2), if_neg r]
            · rw [f3 13 (by omega), hμ2, g_sn (by omega), g_sn (by omega), g_sn (by omega), b13, g_sn (by omega)]
            · rw [f3 14 (by omega), f2 14 (by omega), g37]; exact e8
            · intro k k0 k1
              rw [g37] at k1
              obtain ⟨y0, y1, y2, y3, y4⟩ := eM k k0 k1
              obtain ⟨-, -, -, -, -, rm, rm5⟩ := gR
              unfold rr_M
              rw [f3 15 (by omega), f2 15 (by omega), f3 16 (by omega), f2 16 (by omega), f3 17 (by omega), f2 17 (by omega), f3 18 (by omega), f2 18 (by omega), g_s (by omega), l2 _ (by omega), f2 19 (by omega), rm k 0 k0 k1 (by omega) (by omega), rm k 1 k0 k1 (by omega) (by omega), rm k 2 k0 k1 (by omega) (by omega), rm k 3 k0 k1 (by omega) (by omega), rm k 4 k0 k1 (by omega) (by omega), rm5 k k0 k1]
              refine ⟨y0, y1, y2, y3, ?_⟩
              by_cases e : k = m
              · rw [if_pos ⟨rfl, e⟩, e, u_s]
              · rw [if_neg (fun h => e h.2), u_n e]; exact y4
