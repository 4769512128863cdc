/-! receive -/
def rRc (w : Int → Int) (p m : Int) : Int := if 1000 < w (2 * p + mg w m 2) + mg w m 3 then -100004 else if w 36 = 100 then -100005 else w 36
def wR1 (w : Int → Int) (p m : Int) : Int → Int := q_u (q_u w (2 * p + mg w m 2) (w (2 * p + mg w m 2) + mg w m 3)) (1264 + 6 * m + 5) (w 36)
def cRc (w : Int → Int) (p m q : Int) : Int := mxf (fun k => ev w k (7 + q)) (hS w p 2 m) (w 36).toNat
def wRc (w : Int → Int) (p f m : Int) : Int → Int := wEv (wR1 w p m) p 2 (mg w m 2) (mg w m 3) f m (cRc w p m)
theorem wR1_o {w : Int → Int} {p m i : Int} (hp : 0 ≤ p ∧ p < 5) (hs : 0 ≤ mg w m 2 ∧ mg w m 2 ≤ 1) (h0 : 10 ≤ i) (h1 : i ≠ 1264 + 6 * m + 5) : wR1 w p m i = w i := by
  unfold wR1
  rw [u_n h1, u_n (by omega)]
theorem ap_rc {n c p f m : Int} {w : Int → Int} (hv : rv n w c) (hp : 0 ≤ p) (hp' : p < n) (hf : 0 ≤ f ∧ f < n) (hft : f ≠ p) (h0 : 0 ≤ m) (h1 : m < w 37) (h36 : w 36 < 100) : apE w (wRc w p f m) p 2 (mg w m 2) (mg w m 3) f m (cRc w p m) ∧ apR w (wRc w p f m) p 2 m ∧ apK n w (wRc w p f m) p 2 (mg w m 2) (mg w m 3) f m := by
  have hm := hv.2.2.2.2.2.2.2.2.2.2.2.2.1 m h0 h1
  obtain ⟨v0, -, v2, v3, -⟩ := hv
  obtain ⟨-, -, -, m2, m3, -⟩ := hm
  have o : ∀ i, 10 ≤ i → i ≠ 1264 + 6 * m + 5 → wR1 w p m i = w i := fun i i0 i1 => wR1_o (by omega) m2 i0 i1
  have e36 := o 36 (by omega) (by omega)
  refine ⟨apE_wEv v2.1 hp (by omega) e36 (o _ (by omega) (by omega)), apR_wEv v2.1 h36 (by omega) hp (by omega) e36 (fun i i0 i1 i2 => o i i0 (by omega)) (fun k j k0 k1 j0 j1 => o _ (by omega) (by omega)) (fun k k0 k1 => ?_), Or.inr (Or.inr ⟨rfl, by omega, by omega, m3.1, ?_⟩)⟩
  · by_cases e : k = m
    · rw [if_pos ⟨rfl, e⟩, e]
      exact u_s
    · rw [if_neg (fun h => e h.2)]
      exact o _ (by omega) (by omega)
  · unfold wRc
    rw [wEv_o (by rw [e36]; omega) (by omega) (by omega)]
    exact o _ (by omega) (by omega)
theorem wRc_st {w : Int → Int} {p f m j : Int} (h0 : 0 ≤ w 36) (hm : 0 ≤ m) (hp : 0 ≤ p ∧ p < 5) (hs : 0 ≤ mg w m 2 ∧ mg w m 2 ≤ 1) (j0 : 0 ≤ j) (j1 : j < 10) : wRc w p f m j = q_u w (2 * p + mg w m 2) (w (2 * p + mg w m 2) + mg w m 3) j := by
  unfold wRc
  rw [wEv_o (by rw [wR1_o hp hs (by omega) (by omega)]; omega) (by omega) (by omega)]
  unfold wR1
  rw [u_n (by omega)]
theorem cRc_bd {n c p m q : Int} {w : Int → Int} (hv : rv n w c) (h0 : 0 ≤ m) (h1 : m < w 37) (hq : 0 ≤ q) (hq' : q < 5) : (0 ≤ cRc w p m q ∧ cRc w p m q ≤ w (25 + q)) ∧ ∀ k, 0 ≤ k → k < w 36 → ev w k 0 = p → ev w k (7 + q) ≤ cRc w p m q := by
  have v2 := hv.2.2.1
  have vE := hv.2.2.2.2.2.2.2.2.2.2.2.1
  have hh := (hv.2.2.2.2.1 q hq hq').1
  unfold cRc
  refine ⟨⟨mxf_0, mxf_ub (by omega) (fun k k0 k1 _ => ((vE k k0 (by omega)).2.2.2.2.2.2.2.2.1 q hq hq').2)⟩, fun k k0 k1 k2 => ?_⟩
  exact mxf_lb (f := fun k => ev w k (7 + q)) k0 (by omega) (by simp [hS, k2])
theorem rv_rc {n c p f m : Int} {w : Int → Int} (hv : rv n w c) (hp : 0 ≤ p) (hp' : p < n) (hf : 0 ≤ f ∧ f < n) (hft : f ≠ p) (h0 : 0 ≤ m) (h1 : m < w 37) (h36 : w 36 < 100) (hst : w (2 * p + mg w m 2) + mg w m 3 ≤ 1000) : rv n (wRc w p f m) c := by
  obtain ⟨g1, g2, g3⟩ := ap_rc hv hp hp' hf hft h0 h1 h36
  have hm := hv.2.2.2.2.2.2.2.2.2.2.2.2.1 m h0 h1
  have hv' := hv
  obtain ⟨v0, v1, v2, v3, -⟩ := hv'
  obtain ⟨-, -, -, m2, m3, -⟩ := hm
  have g37 : wRc w p f m 37 = w 37 := by
    rcases g3 with h | h | h
    · exact absurd h.1 (by decide)
    · exact absurd h.1 (by decide)
    · exact h.2.2.2.2
  refine rv_ap hv h36 hp hp' m2 (by omega) g1 g2 g3 (fun j j0 j1 => ?_) (fun q q0 q1 _ => (cRc_bd hv h0 h1 q0 q1).1) (fun k k0 k1 k2 q q0 q1 _ => (cRc_bd hv h0 h1 q0 q1).2 k k0 k1 k2) (by rw [g37]; omega) (by omega)
  rw [wRc_st v2.1 h0 (by omega) m2 j0 j1]
  by_cases e : j = 2 * p + mg w m 2
  · rw [e, u_s]; have := v1 (2 * p + mg w m 2) (by omega) (by omega); omega
  · rw [u_n e]; exact v1 j j0 (by omega)
theorem z_receiveNow {N : Nat} {n c p f m : Int} {μ : q_M} (hN : 1000 ≤ N) (hv : rv n (q_g μ 1) c) (hp : 0 ≤ p) (hp' : p < n) (h0 : 0 ≤ m) (h1 : m < q_g μ 1 37) : ∃ μ', f_M_receiveNow N p f m μ = some (rRc (q_g μ 1) p m, μ') ∧ (∀ k, k ≠ 1 → q_g μ' k = q_g μ k) ∧ q_g μ' 1 = if 0 ≤ rRc (q_g μ 1) p m then wRc (q_g μ 1) p f m else q_g μ 1 := by
  have hm := hv.2.2.2.2.2.2.2.2.2.2.2.2.1 m h0 h1
  have hv' := hv
  obtain ⟨v0, v1, v2, v3, v4, -⟩ := hv'
  obtain ⟨-, -, -, m2, m3, -⟩ := hm
  have st := v1 (2 * p + mg (q_g μ 1) m 2) (by omega) (by omega)
  unfold f_M_receiveNow rRc
  rw [z_ofMessage h0 (by omega) (by omega) (by omega), z_b, z_ck (by omega) (by omega), z_ck (by omega) (by omega), z_ck (by omega) (by omega), show 0 + 2 * p + mg (q_g μ 1) m 2 = 2 * p + mg (q_g μ 1) m 2 by omega, z_ld (by omega) (by omega), z_ofMessage h0 (by omega) (by omega) (by omega), z_b, z_ck (by omega) (by omega)]
  by_cases g : 1000 < q_g μ 1 (2 * p + mg (q_g μ 1) m 2) + mg (q_g μ 1) m 3
  · rw [if_pos g, if_neg (by omega)]
    exact ⟨μ, rfl, fun _ _ => rfl, by rw [if_neg (by omega)]⟩
  · rw [if_neg g, if_pos (by omega), z_ld (by omega) (by omega)]
    by_cases g2 : q_g μ 1 36 = 100
    · rw [if_pos g2, if_pos g2]
      exact ⟨μ, rfl, fun _ _ => rfl, by rw [if_neg (by omega)]⟩
    · rw [if_neg g2, if_neg g2, z_ck (by omega) (by omega), z_ck (by omega) (by omega), z_ck (by omega) (by omega), show 0 + 2 * p + mg (q_g μ 1) m 2 = 2 * p + mg (q_g μ 1) m 2 by omega, z_st (by omega) (by omega), z_ck (by omega) (by omega), z_ck (by omega) (by omega), z_ck (by omega) (by omega), z_ld (by omega) (by omega), g_s (by omega), u_n (by omega), z_st (by omega) (by omega)]
      have hw1 : q_g (q_x (q_x μ 1 (2 * p + mg (q_g μ 1) m 2) (q_g μ 1 (2 * p + mg (q_g μ 1) m 2) + mg (q_g μ 1) m 3)) 1 (1264 + 6 * m + 5) (q_g μ 1 36)) 1 = wR1 (q_g μ 1) p m := by
        rw [g_s (by omega), g_s (by omega)]; rfl
      have o : ∀ i, 10 ≤ i → i ≠ 1264 + 6 * m + 5 → wR1 (q_g μ 1) p m i = q_g μ 1 i := fun i i0 i1 => wR1_o (by omega) m2 i0 i1
      have e36 := o 36 (by omega) (by omega)
      have e25 := o (25 + p) (by omega) (by omega)
      have em3 : mg (wR1 (q_g μ 1) p m) m 3 = mg (q_g μ 1) m 3 := o _ (by omega) (by omega)
      have em4 : mg (wR1 (q_g μ 1) p m) m 4 = mg (q_g μ 1) m 4 := o _ (by omega) (by omega)
      rw [z_ofMessage h0 (by omega) (by omega) (by omega), z_b, hw1, em3]
      have hp4 := v4 p hp (by omega)
      have hp41 := hp4.1
      have hp42 := hp4.2.1
      obtain ⟨μ3, d1, d2, d3⟩ := z_happens (N := N) (p := p) (kind := 2) (stock := mg (q_g μ 1) m 2) (amount := mg (q_g μ 1) m 3) (other := f) (msg := m) hN hw1 (by rw [e36]; omega) (by rw [e36]; omega) hp (by omega) (by rw [e25]; omega) (fun _ => ⟨h0, by omega⟩)
      rw [d1, z_b2, e36]
      refine ⟨μ3, rfl, fun k hk => by rw [d2 k hk, g_sn hk, g_sn hk], ?_⟩
      rw [d3, if_pos v2.1, e36]
      unfold wRc
      refine wEv_ck (fun q q0 q1 => ?_)
      exact mxf_row (w := q_g μ 1) (fun i i0 i1 => o i (by omega) (by omega)) (fun _ => em4) q0 q1 _ (by omega)
