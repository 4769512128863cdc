/-! send -/
def wMsg (w : Int → Int) (f t s a snt : Int) : Int → Int := fun i =>
  if 1264 + 6 * w 37 ≤ i ∧ i < 1264 + 6 * w 37 + 6 then
    (if i = 1264 + 6 * w 37 then f else if i = 1264 + 6 * w 37 + 1 then t else if i = 1264 + 6 * w 37 + 2 then s else if i = 1264 + 6 * w 37 + 3 then a else if i = 1264 + 6 * w 37 + 4 then snt else -1)
  else if i = 37 then w 37 + 1 else w i
theorem wMsg_i {w : Int → Int} {f t s a snt i : Int} : wMsg w f t s a snt i = if 1264 + 6 * w 37 ≤ i ∧ i < 1264 + 6 * w 37 + 6 then (if i = 1264 + 6 * w 37 then f else if i = 1264 + 6 * w 37 + 1 then t else if i = 1264 + 6 * w 37 + 2 then s else if i = 1264 + 6 * w 37 + 3 then a else if i = 1264 + 6 * w 37 + 4 then snt else -1) else if i = 37 then w 37 + 1 else w i := rfl
theorem wMsg_o {w : Int → Int} {f t s a snt i : Int} (h : ¬ (1264 + 6 * w 37 ≤ i ∧ i < 1264 + 6 * w 37 + 6)) (h1 : i ≠ 37) : wMsg w f t s a snt i = w i := by
  rw [wMsg_i, if_neg h, if_neg h1]
theorem z_write {f t s a snt : Int} {μ : q_M} (h0 : 0 ≤ q_g μ 1 37) (h1 : q_g μ 1 37 < 600) : ∃ μ', f_M_write f t s a snt μ = some μ' ∧ (∀ k, k ≠ 1 → q_g μ' k = q_g μ k) ∧ q_g μ' 1 = wMsg (q_g μ 1) f t s a snt := by
  unfold f_M_write
  obtain ⟨m, hm⟩ : ∃ m, q_g μ 1 37 = m := ⟨_, rfl⟩
  rw [z_ld (by omega) (by omega), hm]
  rw [hm] at h0 h1
  simp (disch := omega) only [z_ck, z_st, z_ld, g_s, u_n, hm]
  refine ⟨_, rfl, fun k hk => ?_, ?_⟩
  · simp (disch := exact hk) only [g_sn]
  · simp (disch := omega) only [g_s]
    funext i
    rw [wMsg_i, hm]
    by_cases h37 : i = 37
    · rw [h37, u_s, if_neg (by omega), if_pos rfl]
    rw [u_n h37]
    by_cases k5 : i = 1264 + 6 * m + 5
    · rw [k5, u_s, if_pos (by omega), if_neg (by omega), if_neg (by omega), if_neg (by omega), if_neg (by omega), if_neg (by omega)]
    by_cases k4 : i = 1264 + 6 * m + 4
    · rw [k4, u_n (by omega), u_s, if_pos (by omega), if_neg (by omega), if_neg (by omega), if_neg (by omega), if_neg (by omega), if_pos rfl]
    by_cases k3 : i = 1264 + 6 * m + 3
    · rw [k3, u_n (by omega), u_n (by omega), u_s, if_pos (by omega), if_neg (by omega), if_neg (by omega), if_neg (by omega), if_pos rfl]
    by_cases k2 : i = 1264 + 6 * m + 2
    · rw [k2, u_n (by omega), u_n (by omega), u_n (by omega), u_s, if_pos (by omega), if_neg (by omega), if_neg (by omega), if_pos rfl]
    by_cases k1 : i = 1264 + 6 * m + 1
    · rw [k1, u_n (by omega), u_n (by omega), u_n (by omega), u_n (by omega), u_s, if_pos (by omega), if_neg (by omega), if_pos rfl]
    by_cases k0 : i = 1264 + 6 * m
    · rw [k0, u_n (by omega), u_n (by omega), u_n (by omega), u_n (by omega), u_n (by omega), u_s, if_pos (by omega), if_pos rfl]
    · rw [u_n k5, u_n k4, u_n k3, u_n k2, u_n k1, u_n k0, if_neg (by omega), if_neg h37]
def rSn (w : Int → Int) (f t s a : Int) : Int := if w (2 * f + s) < a then -100004 else if w 36 = 100 ∨ 6 ≤ cnt (wait w f t) 0 (w 37).toNat then -100005 else w 36
def wSm (w : Int → Int) (f t s a : Int) : Int → Int := wMsg (q_u w (2 * f + s) (w (2 * f + s) - a)) f t s a (w 36)
def wSn (w : Int → Int) (f t s a : Int) : Int → Int := wEv (wSm w f t s a) f 1 s a t (w 37) (fun q => bas w f q)
theorem wSm_o {w : Int → Int} {f t s a i : Int} (h37 : 0 ≤ w 37) (hf : 0 ≤ f) (hf' : f < 5) (hs : 0 ≤ s ∧ s ≤ 1) (h0 : 10 ≤ i) (h1 : i < 1264 + 6 * w 37) (h2 : i ≠ 37) : wSm w f t s a i = w i := by
  unfold wSm
  rw [wMsg_o (by rw [u_n (by omega)]; omega) h2, u_n (by omega)]
theorem ap_sn {n c f t s a : Int} {w : Int → Int} (hv : rv n w c) (hf : 0 ≤ f) (hf' : f < n) (ht : 0 ≤ t ∧ t < n) (hft : f ≠ t) (hs : 0 ≤ s ∧ s ≤ 1) (ha : 1 ≤ a) (h36 : w 36 < 100) : apE w (wSn w f t s a) f 1 s a t (w 37) (fun q => bas w f q) ∧ apR w (wSn w f t s a) f 1 (w 37) ∧ apK n w (wSn w f t s a) f 1 s a t (w 37) := by
  obtain ⟨v0, -, v2, v3, -⟩ := hv
  have o : ∀ i, 10 ≤ i → i < 1264 + 6 * w 37 → i ≠ 37 → wSm w f t s a i = w i := fun i i0 i1 i2 => wSm_o v3.1 hf (by omega) hs i0 i1 i2
  have e36 := o 36 (by omega) (by omega) (by omega)
  refine ⟨apE_wEv v2.1 hf (by omega) e36 (o _ (by omega) (by omega) (by omega)), apR_wEv v2.1 h36 (by omega) hf (by omega) e36 (fun i i0 i1 i2 => o i i0 (by omega) i2) (fun m j m0 m1 j0 j1 => o _ (by omega) (by omega) (by omega)) (fun m m0 m1 => ?_), Or.inr (Or.inl ⟨rfl, by omega, rfl, ha, ?_, ?_, ?_, ?_, ?_, ?_, ?_⟩)⟩
  · rw [if_neg (fun h => absurd h.1 (by decide))]
    exact o _ (by omega) (by omega) (by omega)
  · unfold wSn
    rw [wEv_o (by rw [e36]; omega) (by omega) (by omega)]
    unfold wSm
    rw [wMsg_i, u_n (by omega), if_neg (by omega), if_pos rfl]
  all_goals
    unfold mg wSn
    rw [wEv_o (by rw [e36]; omega) (by omega) (by omega)]
    unfold wSm
    rw [wMsg_i, u_n (i := 2 * f + s) (j := 37) (by omega), if_pos (by omega)]
  · rw [if_pos (by omega)]
  · rw [if_neg (by omega), if_pos (by omega)]
  · rw [if_neg (by omega), if_neg (by omega), if_pos (by omega)]
  · rw [if_neg (by omega), if_neg (by omega), if_neg (by omega), if_pos (by omega)]
  · rw [if_neg (by omega), if_neg (by omega), if_neg (by omega), if_neg (by omega), if_pos (by omega)]
  · rw [if_neg (by omega), if_neg (by omega), if_neg (by omega), if_neg (by omega), if_neg (by omega)]
theorem wSn_st {w : Int → Int} {f t s a j : Int} (h0 : 0 ≤ w 36) (h37 : 0 ≤ w 37) (hf : 0 ≤ f) (hf' : f < 5) (hs : 0 ≤ s ∧ s ≤ 1) (j0 : 0 ≤ j) (j1 : j < 10) : wSn w f t s a j = q_u w (2 * f + s) (w (2 * f + s) - a) j := by
  unfold wSn
  rw [wEv_o (by rw [wSm_o h37 hf hf' hs (by omega) (by omega) (by omega)]; omega) (by omega) (by omega)]
  unfold wSm
  rw [wMsg_o (by rw [u_n (by omega)]; omega) (by omega)]
theorem rv_sn {n c c' f t s a : Int} {w : Int → Int} (hv : rv n w c) (hc : w 37 < c') (hc' : c' ≤ 512) (hf : 0 ≤ f) (hf' : f < n) (ht : 0 ≤ t ∧ t < n) (hft : f ≠ t) (hs : 0 ≤ s ∧ s ≤ 1) (ha : 1 ≤ a ∧ a ≤ 100) (h36 : w 36 < 100) (hst : a ≤ w (2 * f + s)) : rv n (wSn w f t s a) c' := by
  obtain ⟨g1, g2, g3⟩ := ap_sn hv hf hf' ht hft hs ha.1 h36
  have hv' := hv
  obtain ⟨v0, v1, v2, v3, -⟩ := hv'
  have g37 : wSn w f t s a 37 = w 37 + 1 := by
    rcases g3 with h | h | h
    · exact absurd h.1 (by decide)
    · exact h.2.2.2.2.1
    · exact absurd h.1 (by decide)
  refine rv_ap hv h36 hf hf' hs (by omega) g1 g2 g3 (fun j j0 j1 => ?_) (fun q q0 q1 _ => bas_bd hv q0 q1) (fun k k0 k1 k2 q q0 q1 _ => bas_ub hv q0 q1 k0 k1 k2) (by rw [g37]; omega) hc'
  rw [wSn_st v2.1 v3.1 hf (by omega) hs j0 j1]
  by_cases e : j = 2 * f + s
  · rw [e, u_s]; have := v1 (2 * f + s) (by omega) (by omega); omega
  · rw [u_n e]; exact v1 j j0 (by omega)
