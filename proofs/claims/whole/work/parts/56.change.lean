/-! the class's World with one event more; change -/
theorem rr_ap {o : Nat} {n c p kind s a oth msg : Int} {μ μ' : q_M} {w w' : Int → Int} {ck : Int → Int} (hr : rr_C o n μ w) (hv : rv n w c) (hp : 0 ≤ p) (hp' : p < n) (hE : apE w w' p kind s a oth msg ck) (hR : apR w w' p kind msg) (h0 : q_g μ' o 0 = n) (h1 : ∀ j, 0 ≤ j → j < 10 → q_g μ' (o + 1) j = w' j) (hs : ∀ k, (k = 2 ∨ k = 3 ∨ k = 20 ∨ k = 21 ∨ k = 22) → q_g μ' (o + k) = q_g μ (o + k)) (h4 : q_g μ' (o + 4) 0 = w 36 + 1) (h5 : q_g μ' (o + 5) = q_u (q_g μ (o + 5)) (w 36) p) (h6 : q_g μ' (o + 6) = q_u (q_g μ (o + 6)) (w 36) kind) (h7 : q_g μ' (o + 7) = q_u (q_g μ (o + 7)) (w 36) s) (h8 : q_g μ' (o + 8) = q_u (q_g μ (o + 8)) (w 36) a) (h9 : q_g μ' (o + 9) = q_u (q_g μ (o + 9)) (w 36) oth) (h10 : q_g μ' (o + 10) = q_u (q_g μ (o + 10)) (w 36) msg) (h11 : q_g μ' (o + 11) = q_u (q_g μ (o + 11)) (w 36) (w (25 + p))) (h12 : ∀ j, q_g μ' (o + 12) j = if w 36 * 5 ≤ j ∧ j < w 36 * 5 + 5 then (if j = w 36 * 5 + p then w (25 + p) + 1 else ck (j - w 36 * 5)) else q_g μ (o + 12) j) (h13 : q_g μ' (o + 13) = q_u (q_g μ (o + 13)) p (w (25 + p) + 1)) (h14 : q_g μ' (o + 14) 0 = w' 37) (hM : ∀ m, 0 ≤ m → m < w' 37 → rr_M o μ' w' m) : rr_C o n μ' w' := by
  obtain ⟨a0, a1, a2, a3, a4, a5, a6, a7, a8, a9, aE, aM⟩ := hr
  obtain ⟨r36, rp, rq, rl, re, rm, rm5⟩ := hR
  obtain ⟨e0, e1, e2, e3, e4, e5, e6, e7, e8⟩ := hE
  obtain ⟨v0, -, v2, -⟩ := hv
  refine ⟨h0, h1, fun j j0 j1 => ?_, fun j j0 j1 => ?_, fun j j0 j1 => ?_, fun j j0 j1 => ?_, fun j j0 j1 => ?_, by rw [h4, r36], h14, ?_, fun i i0 i1 => ?_, hM⟩
  · rw [hs 2 (by omega), rl _ (by omega) (by omega) (by omega)]; exact a2 j j0 j1
  · rw [hs 3 (by omega), rl _ (by omega) (by omega) (by omega)]; exact a3 j j0 j1
  · rw [h13]
    by_cases g : j = p
    · rw [g, u_s, rp]
    · rw [u_n g, rq j j0 j1 g]; exact a4 j j0 j1
  · rw [hs 22 (by omega), rl _ (by omega) (by omega) (by omega)]; exact a5 j j0 j1
  · rw [hs 20 (by omega), rl _ (by omega) (by omega) (by omega)]; exact a6 j j0 j1
  · rw [hs 21 (by omega), rl _ (by omega) (by omega) (by omega)]; exact a9
  · unfold rr_E
    rw [h5, h6, h7, h8, h9, h10, h11]
    by_cases g : i = w 36
    · rw [g, u_s, u_s, u_s, u_s, u_s, u_s, u_s, e0, e1, e2, e3, e4, e5, e6]
      refine ⟨rfl, rfl, rfl, rfl, rfl, rfl, rfl, fun q q0 q1 => ?_⟩
      rw [h12, if_pos (by omega)]
      by_cases l : q = p
      · rw [l, if_pos rfl, e7]
      · rw [if_neg (by omega), e8 q q0 q1 l, show w 36 * 5 + q - w 36 * 5 = q by omega]
    · obtain ⟨x0, x1, x2, x3, x4, x5, x6, x7⟩ := aE i i0 (by omega)
      rw [u_n g, u_n g, u_n g, u_n g, u_n g, u_n g, u_n g]
      simp (disch := omega) only [re]
      refine ⟨x0, x1, x2, x3, x4, x5, x6, fun q q0 q1 => ?_⟩
      rw [h12, if_neg (by omega), re i _ i0 (by omega) (by omega) (by omega)]
      exact x7 q q0 q1
theorem wEv_i {w : Int → Int} {p kind stock amount other msg : Int} {ck : Int → Int} {i : Int} : wEv w p kind stock amount other msg ck i = if 64 + 12 * w 36 ≤ i ∧ i < 64 + 12 * w 36 + 12 then (if i = 64 + 12 * w 36 then p else if i = 64 + 12 * w 36 + 1 then kind else if i = 64 + 12 * w 36 + 2 then stock else if i = 64 + 12 * w 36 + 3 then amount else if i = 64 + 12 * w 36 + 4 then other else if i = 64 + 12 * w 36 + 5 then msg else if i = 64 + 12 * w 36 + 6 then w (25 + p) else if i = 64 + 12 * w 36 + 7 + p then w (25 + p) + 1 else ck (i - (64 + 12 * w 36 + 7))) else if i = 25 + p then w (25 + p) + 1 else if i = 36 then w 36 + 1 else w i := rfl
theorem wEv_o {w : Int → Int} {p kind stock amount other msg : Int} {ck : Int → Int} {i : Int} (h : ¬ (64 + 12 * w 36 ≤ i ∧ i < 64 + 12 * w 36 + 12)) (h1 : i ≠ 25 + p) (h2 : i ≠ 36) : wEv w p kind stock amount other msg ck i = w i := by
  rw [wEv_i, if_neg h, if_neg h1, if_neg h2]
theorem apE_wEv {w w1 : Int → Int} {p kind s a oth msg : Int} {ck : Int → Int} (h0 : 0 ≤ w 36) (hp : 0 ≤ p) (hp' : p < 5) (h36 : w1 36 = w 36) (hh : w1 (25 + p) = w (25 + p)) : apE w (wEv w1 p kind s a oth msg ck) p kind s a oth msg ck := by
  unfold apE ev
  refine ⟨?_, ?_, ?_, ?_, ?_, ?_, ?_, ?_, fun q q0 q1 q2 => ?_⟩
  all_goals rw [wEv_i, h36, if_pos (by omega)]
  · rw [if_pos (by omega)]
  · rw [if_neg (by omega), if_pos (by omega)]
  · rw [if_neg (by omega), if_neg (by omega), if_pos (by omega)]
  · rw [if_neg (by omega), if_neg (by omega), if_neg (by omega), if_pos (by omega)]
  · rw [if_neg (by omega), if_neg (by omega), if_neg (by omega), if_neg (by omega), if_pos (by omega)]
  · rw [if_neg (by omega), if_neg (by omega), if_neg (by omega), if_neg (by omega), if_neg (by omega), if_pos (by omega)]
  · rw [if_neg (by omega), if_neg (by omega), if_neg (by omega), if_neg (by omega), if_neg (by omega), if_neg (by omega), if_pos (by omega), hh]
  · rw [if_neg (by omega), if_neg (by omega), if_neg (by omega), if_neg (by omega), if_neg (by omega), if_neg (by omega), if_neg (by omega), if_pos (by omega), hh]
  · rw [if_neg (by omega), if_neg (by omega), if_neg (by omega), if_neg (by omega), if_neg (by omega), if_neg (by omega), if_neg (by omega), if_neg (by omega), show 64 + 12 * w 36 + (7 + q) - (64 + 12 * w 36 + 7) = q by omega]
theorem apR_wEv {w w1 : Int → Int} {p kind s a oth msg : Int} {ck : Int → Int} (h0 : 0 ≤ w 36) (h1 : w 36 < 100) (h37 : w 37 ≤ 600) (hp : 0 ≤ p) (hp' : p < 5) (h36 : w1 36 = w 36) (hl : ∀ i, 10 ≤ i → i < 1264 → i ≠ 37 → w1 i = w i) (hm : ∀ m j, 0 ≤ m → m < w 37 → 0 ≤ j → j < 5 → mg w1 m j = mg w m j) (hm5 : ∀ m, 0 ≤ m → m < w 37 → mg w1 m 5 = if kind = 2 ∧ m = msg then w 36 else mg w m 5) : apR w (wEv w1 p kind s a oth msg ck) p kind msg := by
  refine ⟨?_, ?_, fun q q0 q1 q2 => ?_, fun i i0 i1 i2 => ?_, fun k j k0 k1 j0 j1 => ?_, fun m j m0 m1 j0 j1 => ?_, fun m m0 m1 => ?_⟩
  · rw [wEv_i, if_neg (by omega), if_neg (by omega), if_pos rfl, h36]
  · rw [wEv_i, if_neg (by omega), if_pos rfl, hl _ (by omega) (by omega) (by omega)]
  · rw [wEv_o (by omega) (by omega) (by omega)]
    exact hl _ (by omega) (by omega) (by omega)
  · rw [wEv_o (by omega) (by omega) (by omega)]
    exact hl _ (by omega) (by omega) (by omega)
  · unfold ev
    rw [wEv_o (by omega) (by omega) (by omega)]
    exact hl _ (by omega) (by omega) (by omega)
  · unfold mg
    rw [wEv_o (by omega) (by omega) (by omega)]
    exact hm m j m0 m1 j0 j1
  · unfold mg
    rw [wEv_o (by omega) (by omega) (by omega)]
    exact hm5 m m0 m1
def rCh (w : Int → Int) (p s a : Int) : Int := if ¬ (0 ≤ w (2 * p + s) + a ∧ w (2 * p + s) + a ≤ 1000) then -100004 else if w 36 = 100 then -100005 else w 36
def wCh (w : Int → Int) (p s a : Int) : Int → Int := wEv (q_u w (2 * p + s) (w (2 * p + s) + a)) p 0 s a (-100006) (-1) (fun q => bas w p q)
theorem ap_ch {n c p s a : Int} {w : Int → Int} (hv : rv n w c) (hp : 0 ≤ p) (hp' : p < n) (hs : 0 ≤ s ∧ s ≤ 1) (h36 : w 36 < 100) : apE w (wCh w p s a) p 0 s a (-100006) (-1) (fun q => bas w p q) ∧ apR w (wCh w p s a) p 0 (-1) ∧ wCh w p s a 37 = w 37 := by
  obtain ⟨v0, -, v2, v3, -⟩ := hv
  refine ⟨apE_wEv v2.1 hp (by omega) (u_n (by omega)) (u_n (by omega)), apR_wEv v2.1 h36 (by omega) hp (by omega) (u_n (by omega)) (fun i i0 i1 _ => u_n (by omega)) (fun m j m0 m1 j0 j1 => u_n (by omega)) (fun m m0 m1 => ?_), ?_⟩
  · rw [if_neg (fun h => absurd h.1 (by decide))]
    exact u_n (by omega)
  · unfold wCh
    rw [wEv_o (by rw [u_n (by omega)]; omega) (by omega) (by omega), u_n (by omega)]
theorem wCh_st {w : Int → Int} {p s a j : Int} (h0 : 0 ≤ w 36) (hp : 0 ≤ p) (hp' : p < 5) (hs : 0 ≤ s ∧ s ≤ 1) (j0 : 0 ≤ j) (j1 : j < 10) : wCh w p s a j = q_u w (2 * p + s) (w (2 * p + s) + a) j := by
  unfold wCh
  rw [wEv_o (by rw [u_n (by omega)]; omega) (by omega) (by omega)]
theorem rv_ch {n c p s a : Int} {w : Int → Int} (hv : rv n w c) (hp : 0 ≤ p) (hp' : p < n) (hs : 0 ≤ s ∧ s ≤ 1) (ha : -100 ≤ a ∧ a ≤ 100) (h36 : w 36 < 100) (hst : 0 ≤ w (2 * p + s) + a ∧ w (2 * p + s) + a ≤ 1000) : rv n (wCh w p s a) c := by
  obtain ⟨g1, g2, g3⟩ := ap_ch (a := a) hv hp hp' hs h36
  have hv' := hv
  obtain ⟨v0, v1, v2, v3, -⟩ := hv'
  refine rv_ap hv h36 hp hp' hs ha g1 g2 (Or.inl ⟨rfl, rfl, rfl, g3⟩) (fun j j0 j1 => ?_) (fun q q0 q1 _ => bas_bd hv q0 q1) (fun k k0 k1 k2 q q0 q1 _ => bas_ub hv q0 q1 k0 k1 k2) (by rw [g3]; omega) (by omega)
  rw [wCh_st v2.1 hp (by omega) hs j0 j1]
  by_cases e : j = 2 * p + s
  · rw [e, u_s]; exact ⟨hst.1, hst.2, fun q => by omega⟩
  · rw [u_n e]; exact v1 j j0 (by omega)
theorem z_changeNow {N : Nat} {n c p s a : Int} {μ : q_M} (hN : 1000 ≤ N) (hv : rv n (q_g μ 1) c) (hp : 0 ≤ p) (hp' : p < n) (hs : 0 ≤ s ∧ s ≤ 1) (ha : -100 ≤ a ∧ a ≤ 100) : ∃ μ', f_M_changeNow N p s a μ = some (rCh (q_g μ 1) p s a, μ') ∧ (∀ k, k ≠ 1 → q_g μ' k = q_g μ k) ∧ q_g μ' 1 = if 0 ≤ rCh (q_g μ 1) p s a then wCh (q_g μ 1) p s a else q_g μ 1 := by
  have hv' := hv
  obtain ⟨v0, v1, v2, v3, v4, -⟩ := hv'
  have st := v1 (2 * p + s) (by omega) (by omega)
  unfold f_M_changeNow rCh
  rw [z_ck (by omega) (by omega), z_ck (by omega) (by omega), z_ck (by omega) (by omega), show 0 + 2 * p + s = 2 * p + s by omega, z_ld (by omega) (by omega), z_ck (by omega) (by omega), z_in, z_b]
  simp only [z_bz]
  by_cases g : ¬ (0 ≤ q_g μ 1 (2 * p + s) + a ∧ q_g μ 1 (2 * p + s) + a ≤ 1000)
  · rw [if_pos g, if_pos g]
    exact ⟨μ, rfl, fun _ _ => rfl, by rw [if_neg (by omega)]⟩
  · rw [if_neg g, if_neg g, z_ld (by omega) (by omega)]
    by_cases g2 : q_g μ 1 36 = 100
    · rw [if_pos g2, if_pos g2]
      exact ⟨μ, rfl, fun _ _ => rfl, by rw [if_neg (by omega)]⟩
    · rw [if_neg g2, if_neg g2, z_ck (by omega) (by omega), z_ck (by omega) (by omega), z_ck (by omega) (by omega), show 0 + 2 * p + s = 2 * p + s by omega, z_st (by omega) (by omega)]
      have hp4 := v4 p hp (by omega)
      have hp41 := hp4.1
      have hp42 := hp4.2.1
      obtain ⟨μ', b1, b2, b3⟩ := z_happens (N := N) (p := p) (kind := 0) (stock := s) (amount := a) (other := -100006) (msg := -1) (μ := q_x μ 1 (2 * p + s) (q_g μ 1 (2 * p + s) + a)) (w := q_u (q_g μ 1) (2 * p + s) (q_g μ 1 (2 * p + s) + a)) hN (g_s (by omega)) (by rw [u_n (by omega)]; omega) (by rw [u_n (by omega)]; omega) hp (by omega) (by rw [u_n (by omega)]; omega) (fun h => absurd h (by decide))
      rw [b1, z_b2, u_n (by omega)]
      refine ⟨μ', rfl, fun k hk => by rw [b2 k hk, g_sn hk], ?_⟩
      rw [b3, if_pos v2.1]
      unfold wCh
      rw [u_n (i := 2 * p + s) (j := 36) (by omega)]
      have hfS : ∀ q, 0 ≤ q → q < 5 → mxf (fun k => ev (q_u (q_g μ 1) (2 * p + s) (q_g μ 1 (2 * p + s) + a)) k (7 + q)) (hS (q_u (q_g μ 1) (2 * p + s) (q_g μ 1 (2 * p + s) + a)) p 0 (-1)) (q_g μ 1 36).toNat = bas (q_g μ 1) p q := by
        intro q q0 q1
        rw [← mxf_bas (kind := 0) (msg := -1) hv q0 q1 (by decide)]
        have key : ∀ d : Nat, mxf (fun k => ev (q_u (q_g μ 1) (2 * p + s) (q_g μ 1 (2 * p + s) + a)) k (7 + q)) (hS (q_u (q_g μ 1) (2 * p + s) (q_g μ 1 (2 * p + s) + a)) p 0 (-1)) d = mxf (fun k => ev (q_g μ 1) k (7 + q)) (hS (q_g μ 1) p 0 (-1)) d := by
          intro d
          induction d with
          | zero => rfl
          | succ d ih =>
            have x1 : hS (q_u (q_g μ 1) (2 * p + s) (q_g μ 1 (2 * p + s) + a)) p 0 (-1) (d : Int) = hS (q_g μ 1) p 0 (-1) (d : Int) := by
              unfold hS ev
              rw [u_n (by omega)]
              simp
            have x2 : ev (q_u (q_g μ 1) (2 * p + s) (q_g μ 1 (2 * p + s) + a)) (d : Int) (7 + q) = ev (q_g μ 1) (d : Int) (7 + q) := u_n (by omega)
            unfold mxf
            rw [ih, x1, x2]
        exact key _
      funext i
      rw [wEv_i, wEv_i, u_n (i := 2 * p + s) (j := 36) (by omega)]
      by_cases r : 64 + 12 * q_g μ 1 36 ≤ i ∧ i < 64 + 12 * q_g μ 1 36 + 12
      · rw [if_pos r, if_pos r]
        by_cases r7 : 64 + 12 * q_g μ 1 36 + 7 ≤ i
        · rw [hfS _ (by omega) (by omega)]
        · simp (disch := omega) only [if_neg (show ¬ i = 64 + 12 * q_g μ 1 36 + 7 + p by omega)]
          repeat' split
          all_goals first | rfl | omega
      · rw [if_neg r, if_neg r]
