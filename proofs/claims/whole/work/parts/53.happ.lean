/-! an event happens, in the model -/
def mxf (f : Int → Int) (S : Int → Bool) : Nat → Int
  | 0 => 0
  | d + 1 => if S d = true then (if f d ≤ mxf f S d then mxf f S d else f d) else mxf f S d
def wEv (w : Int → Int) (p kind stock amount other msg : Int) (ck : Int → Int) : Int → Int := fun i =>
  if 64 + 12 * w 36 ≤ i ∧ i < 64 + 12 * w 36 + 12 then
    (if i = 64 + 12 * w 36 then p else if i = 64 + 12 * w 36 + 1 then kind else if i = 64 + 12 * w 36 + 2 then stock else if i = 64 + 12 * w 36 + 3 then amount else if i = 64 + 12 * w 36 + 4 then other else if i = 64 + 12 * w 36 + 5 then msg else if i = 64 + 12 * w 36 + 6 then w (25 + p) else if i = 64 + 12 * w 36 + 7 + p then w (25 + p) + 1 else ck (i - (64 + 12 * w 36 + 7)))
  else if i = 25 + p then w (25 + p) + 1 else if i = 36 then w 36 + 1 else w i
theorem z_learn {K : q_M → Option (Int × q_M)} {a k : Int} : ∀ (d nf : Nat) (i : Int) (μ : q_M), 0 ≤ i → i + d = 5 → d < nf → 64 ≤ a → 0 ≤ k → 64 + 12 * k + 12 ≤ a → a + 12 ≤ 1264 → ∃ μ', f_M_happens_L176 1 a k K nf i μ = K μ' ∧ (∀ c, c ≠ 1 → q_g μ' c = q_g μ c) ∧ ∀ j, q_g μ' 1 j = if a + 7 + i ≤ j ∧ j < a + 12 then (if q_g μ 1 (64 + 12 * k + (j - a)) ≤ q_g μ 1 j then q_g μ 1 j else q_g μ 1 (64 + 12 * k + (j - a))) else q_g μ 1 j := by
  intro d
  induction d with
  | zero =>
    intro nf i μ h0 h1 h2 h3 h4 h5 h6
    obtain ⟨nf, rfl⟩ : ∃ m, nf = m + 1 := ⟨nf - 1, by omega⟩
    exact ⟨μ, by rw [f_M_happens_L176, if_pos (by omega)], fun _ _ => rfl, fun j => by rw [if_neg (by omega)]⟩
  | succ d ih =>
    intro nf i μ h0 h1 h2 h3 h4 h5 h6
    obtain ⟨nf, rfl⟩ : ∃ m, nf = m + 1 := ⟨nf - 1, by omega⟩
    rw [f_M_happens_L176, if_neg (by omega), if_neg (by decide)]
    simp (disch := omega) only [z_ck, z_ofEvent, z_b, z_jn, z_ld, z_st, ev]
    obtain ⟨v, hv⟩ : ∃ v, v = if q_g μ 1 (64 + 12 * k + (7 + i)) ≤ q_g μ 1 (a + 7 + i) then q_g μ 1 (a + 7 + i) else q_g μ 1 (64 + 12 * k + (7 + i)) := ⟨_, rfl⟩
    obtain ⟨μ', g1, g2, g3⟩ := ih nf (i + 1) (q_x μ 1 (a + 7 + i) v) (by omega) (by omega) (by omega) h3 h4 h5 h6
    refine ⟨μ', ?_, fun c hc => by rw [g2 c hc, g_sn hc], fun j => ?_⟩
    · rw [← g1]
      by_cases l : q_g μ 1 (64 + 12 * k + (7 + i)) ≤ q_g μ 1 (a + 7 + i)
      · rw [if_pos l] at hv ⊢
        rw [hv]
      · rw [if_neg l] at hv ⊢
        rw [hv]
    · rw [g3, g_s (by omega)]
      by_cases e : j = a + 7 + i
      · rw [if_neg (by omega), if_pos (by omega), e, u_s, hv, show a + 7 + i - a = 7 + i by omega]
      · rw [u_n e]
        by_cases l : a + 7 + i ≤ j ∧ j < a + 12
        · rw [if_pos (by omega), if_pos l, u_n (by omega)]
        · rw [if_neg (by omega), if_neg l]
def hS (w : Int → Int) (p kind msg : Int) (k : Int) : Bool := decide (ev w k 0 = p) || (decide (kind = 2) && decide (mg w msg 4 = k))
theorem z_gather {N : Nat} {K : q_M → Option (Int × q_M)} {p kind msg e : Int} {w : Int → Int} (hN : 1000 ≤ N) (he : 0 ≤ e) (he' : e < 100) (hm : kind = 2 → 0 ≤ msg ∧ msg < 600) : ∀ (d nf : Nat) (i : Nat) (μ : q_M), (i : Int) + d = e → d < nf → (∀ j, ¬ (64 + 12 * e ≤ j ∧ j < 64 + 12 * e + 12) → q_g μ 1 j = w j) → (∀ q, 0 ≤ q → q < 5 → q_g μ 1 (64 + 12 * e + 7 + q) = mxf (fun k => ev w k (7 + q)) (hS w p kind msg) i) → ∃ μ', f_M_happens_L131 N p kind msg e (64 + 12 * e) K nf i μ = K μ' ∧ (∀ c, c ≠ 1 → q_g μ' c = q_g μ c) ∧ (∀ j, ¬ (64 + 12 * e + 7 ≤ j ∧ j < 64 + 12 * e + 12) → q_g μ' 1 j = q_g μ 1 j) ∧ ∀ q, 0 ≤ q → q < 5 → q_g μ' 1 (64 + 12 * e + 7 + q) = mxf (fun k => ev w k (7 + q)) (hS w p kind msg) e.toNat := by
  intro d
  induction d with
  | zero =>
    intro nf i μ h1 h2 hw hq
    obtain ⟨nf, rfl⟩ : ∃ m, nf = m + 1 := ⟨nf - 1, by omega⟩
    exact ⟨μ, by rw [f_M_happens_L131, if_pos (by omega)], fun _ _ => rfl, fun _ _ => rfl, fun q q0 q1 => by rw [hq q q0 q1, show e.toNat = i by omega]⟩
  | succ d ih =>
    intro nf i μ h1 h2 hw hq
    obtain ⟨nf, rfl⟩ : ∃ m, nf = m + 1 := ⟨nf - 1, by omega⟩
    have e0 : ev (q_g μ 1) i 0 = ev w i 0 := hw _ (by omega)
    have step : ∀ (b : Bool), hS w p kind msg i = b → ∃ μ', (f_M_happens_L176 (bi b) (64 + 12 * e) i (fun μ35 => q_ck ((i : Int) + 1) fun x56 => f_M_happens_L131 N p kind msg e (64 + 12 * e) K nf x56 μ35) N 0 μ) = K μ' ∧ (∀ c, c ≠ 1 → q_g μ' c = q_g μ c) ∧ (∀ j, ¬ (64 + 12 * e + 7 ≤ j ∧ j < 64 + 12 * e + 12) → q_g μ' 1 j = q_g μ 1 j) ∧ ∀ q, 0 ≤ q → q < 5 → q_g μ' 1 (64 + 12 * e + 7 + q) = mxf (fun k => ev w k (7 + q)) (hS w p kind msg) e.toNat := by
      intro b hb
      cases b with
      | false =>
        obtain ⟨N', rfl⟩ : ∃ m, N = m + 1 := ⟨N - 1, by omega⟩
        rw [f_M_happens_L176, if_neg (by omega), if_pos (show bi false = 0 from rfl), z_ck (by omega) (by omega)]
        exact ih nf (i + 1) μ (by omega) (by omega) hw (fun q q0 q1 => by rw [hq q q0 q1, mxf, hb, if_neg (by decide)])
      | true =>
        obtain ⟨μ2, a1, a2, a3⟩ := z_learn (K := fun μ35 => q_ck ((i : Int) + 1) fun x56 => f_M_happens_L131 N p kind msg e (64 + 12 * e) K nf x56 μ35) (a := 64 + 12 * e) (k := i) 5 N 0 μ (by omega) (by omega) (by omega) (by omega) (by omega) (by omega) (by omega)
        rw [show bi true = 1 from rfl, a1, z_ck (by omega) (by omega)]
        obtain ⟨μ3, b1, b2, b3, b4⟩ := ih nf (i + 1) μ2 (by omega) (by omega) (fun j hj => by rw [a3, if_neg (by omega)]; exact hw j hj) (fun q q0 q1 => by
          rw [a3, if_pos (by omega), hq q q0 q1, mxf, hb, if_pos rfl, show 64 + 12 * e + 7 + q - (64 + 12 * e) = 7 + q by omega, hw (64 + 12 * (i : Int) + (7 + q)) (by omega)]
          rfl)
        exact ⟨μ3, b1, fun c hc => by rw [b2 c hc, a2 c hc], fun j hj => by rw [b3 j hj, a3, if_neg (by omega)], b4⟩
    rw [f_M_happens_L131, if_neg (by omega), z_ofEvent (by omega) (by omega) (by omega) (by omega), z_b, e0]
    simp only [z_jn]
    by_cases g : ev w i 0 = p
    · rw [if_pos g]
      exact step true (by simp [hS, g])
    · rw [if_neg g]
      by_cases g2 : kind = 2
      · have hm2 := hm g2
        have m4 : mg (q_g μ 1) msg 4 = mg w msg 4 := hw _ (by omega)
        rw [if_pos g2, z_ofMessage (by omega) (by omega) (by omega) (by omega), z_b, m4]
        by_cases g4 : mg w msg 4 = i
        · rw [if_pos g4]
          exact step true (by simp [hS, g2, g4])
        · rw [if_neg g4]
          exact step false (by simp [hS, g, g4])
      · rw [if_neg g2]
        exact step false (by simp [hS, g, g2])
theorem z_happens {N : Nat} {p kind stock amount other msg : Int} {μ : q_M} {w : Int → Int} (hN : 1000 ≤ N) (hw : q_g μ 1 = w) (h0 : 0 ≤ w 36) (h1 : w 36 < 100) (hp : 0 ≤ p) (hp' : p < 5) (hh : 0 ≤ w (25 + p) ∧ w (25 + p) ≤ 100) (hm : kind = 2 → 0 ≤ msg ∧ msg < 600) : ∃ μ', f_M_happens N p kind stock amount other msg μ = some (w 36, μ') ∧ (∀ k, k ≠ 1 → q_g μ' k = q_g μ k) ∧ q_g μ' 1 = wEv w p kind stock amount other msg (fun q => mxf (fun k => ev w k (7 + q)) (hS w p kind msg) (w 36).toNat) := by
  subst hw
  obtain ⟨e, he⟩ : ∃ e, q_g μ 1 36 = e := ⟨_, rfl⟩
  rw [he] at h0 h1
  unfold f_M_happens
  rw [z_ld (by omega) (by omega), he, z_ck (by omega) (by omega), z_ck (by omega) (by omega), z_st (by omega) (by omega), z_ck (by omega) (by omega), z_st (by omega) (by omega), z_ck (by omega) (by omega), z_st (by omega) (by omega), z_ck (by omega) (by omega), z_st (by omega) (by omega), z_ck (by omega) (by omega), z_st (by omega) (by omega), z_ck (by omega) (by omega), z_st (by omega) (by omega), z_ck (by omega) (by omega), z_ck (by omega) (by omega), z_ld (by omega) (by omega), z_st (by omega) (by omega)]
  simp (disch := omega) only [g_s, u_n]
  obtain ⟨μ1, hμ1⟩ : ∃ μ1, μ1 = q_x (q_x (q_x (q_x (q_x (q_x (q_x μ 1 (64 + 12 * e) p) 1 (64 + 12 * e + 1) kind) 1 (64 + 12 * e + 2) stock) 1 (64 + 12 * e + 3) amount) 1 (64 + 12 * e + 4) other) 1 (64 + 12 * e + 5) msg) 1 (64 + 12 * e + 6) (q_g μ 1 (25 + p)) := ⟨_, rfl⟩
  rw [← hμ1]
  have r1 : q_g μ1 1 = q_u (q_u (q_u (q_u (q_u (q_u (q_u (q_g μ 1) (64 + 12 * e) p) (64 + 12 * e + 1) kind) (64 + 12 * e + 2) stock) (64 + 12 * e + 3) amount) (64 + 12 * e + 4) other) (64 + 12 * e + 5) msg) (64 + 12 * e + 6) (q_g μ 1 (25 + p)) := by
    rw [hμ1]
    simp (disch := omega) only [g_s]
  have f1 : ∀ k, k ≠ 1 → q_g μ1 k = q_g μ k := fun k hk => by
    rw [hμ1]
    simp (disch := exact hk) only [g_sn]
  obtain ⟨K1, hK1⟩ : ∃ K1 : q_M → Option (Int × q_M), K1 = fun μ29 => q_ck (25 + p) fun x63 => q_ld μ29 1 5104 x63 fun x64 => q_ck (x64 + 1) fun x65 => q_st μ29 1 5104 x63 x65 fun μ66 => q_ck (64 + 12 * e + 7) fun x67 => q_ck (x67 + p) fun x68 => q_ck (25 + p) fun x69 => q_ld μ66 1 5104 x69 fun x70 => q_st μ66 1 5104 x68 x70 fun μ71 => q_ld μ71 1 5104 36 fun x72 => q_ck (x72 + 1) fun x73 => q_st μ71 1 5104 36 x73 fun μ74 => some (e, μ74) := ⟨_, rfl⟩
  obtain ⟨μ2, a1, a2, a3⟩ := lp_fill (F := f_M_happens_L102 (64 + 12 * e) fun μ21 => f_M_happens_L131 N p kind msg e (64 + 12 * e) K1 N 0 μ21) (E := fun μ21 => f_M_happens_L131 N p kind msg e (64 + 12 * e) K1 N 0 μ21) (k := 1) (b := 5) (off := 64 + 12 * e + 7) (v := 0) (by omega) (fun nf μ => by rw [f_M_happens_L102, if_pos (Int.le_refl _)]) (fun nf i μ h1 h2 => by
    rw [f_M_happens_L102, if_neg (by omega)]
    simp (disch := omega) only [z_ck, z_st]) 5 N 0 μ1 (by omega) (by omega) (by omega)
  obtain ⟨μ3, b1, b2, b3, b4⟩ := z_gather (K := K1) (p := p) (kind := kind) (msg := msg) (w := q_g μ 1) hN h0 h1 hm e.toNat N 0 μ2 (by omega) (by omega) (fun j hj => by
    rw [a3, if_neg (by omega), r1]
    simp (disch := omega) only [u_n]) (fun q q0 q1 => by rw [a3, if_pos (by omega)]; rfl)
  have c1 : K1 μ3 = some (e, q_x (q_x (q_x μ3 1 (25 + p) (q_g μ 1 (25 + p) + 1)) 1 (64 + 12 * e + 7 + p) (q_g μ 1 (25 + p) + 1)) 1 36 (e + 1)) := by
    have d1 : q_g μ3 1 (25 + p) = q_g μ 1 (25 + p) := by
      rw [b3 _ (by omega), a3, if_neg (by omega), r1]
      simp (disch := omega) only [u_n]
    have d2 : q_g μ3 1 36 = e := by
      rw [b3 _ (by omega), a3, if_neg (by omega), r1]
      simp (disch := omega) only [u_n]
      exact he
    rw [hK1]
    simp (disch := omega) only [z_ck, z_ld, z_st, d1, d2, g_s, u_s, u_n]
  refine ⟨q_x (q_x (q_x μ3 1 (25 + p) (q_g μ 1 (25 + p) + 1)) 1 (64 + 12 * e + 7 + p) (q_g μ 1 (25 + p) + 1)) 1 36 (e + 1), ?_, ?_, ?_⟩
  · refine Eq.trans ?_ (a1.trans (b1.trans c1))
    rw [hK1]
  · intro k hk
    rw [g_sn hk, g_sn hk, g_sn hk, b2 k hk, a2 k hk, f1 k hk]
  · rw [g_s (by omega), g_s (by omega), g_s (by omega)]
    funext j
    unfold wEv
    rw [he]
    by_cases h36 : j = 36
    · rw [h36, u_s, if_neg (by omega), if_neg (by omega), if_pos rfl]
    by_cases h25 : j = 25 + p
    · rw [h25, u_n (by omega), u_n (by omega), u_s, if_neg (by omega), if_pos rfl]
    by_cases h7 : j = 64 + 12 * e + 7 + p
    · rw [h7, u_n (by omega), u_s, if_pos (by omega), if_neg (by omega), if_neg (by omega), if_neg (by omega), if_neg (by omega), if_neg (by omega), if_neg (by omega), if_neg (by omega), if_pos rfl]
    rw [u_n h36, u_n h7, u_n h25]
    by_cases hq : 64 + 12 * e + 7 ≤ j ∧ j < 64 + 12 * e + 12
    · have := b4 (j - (64 + 12 * e + 7)) (by omega) (by omega)
      rw [show 64 + 12 * e + 7 + (j - (64 + 12 * e + 7)) = j by omega] at this
      rw [this, if_pos (by omega), if_neg (by omega), if_neg (by omega), if_neg (by omega), if_neg (by omega), if_neg (by omega), if_neg (by omega), if_neg (by omega), if_neg h7]
    · rw [b3 _ hq, a3, if_neg (by omega), r1]
      by_cases k0 : j = 64 + 12 * e
      · rw [k0, u_n (by omega), u_n (by omega), u_n (by omega), u_n (by omega), u_n (by omega), u_n (by omega), u_s, if_pos (by omega), if_pos rfl]
      by_cases k1 : j = 64 + 12 * e + 1
      · rw [k1, u_n (by omega), u_n (by omega), u_n (by omega), u_n (by omega), u_n (by omega), u_s, if_pos (by omega), if_neg (by omega), if_pos rfl]
      by_cases k2 : j = 64 + 12 * e + 2
      · rw [k2, u_n (by omega), u_n (by omega), u_n (by omega), u_n (by omega), u_s, if_pos (by omega), if_neg (by omega), if_neg (by omega), if_pos rfl]
      by_cases k3 : j = 64 + 12 * e + 3
      · rw [k3, u_n (by omega), u_n (by omega), u_n (by omega), u_s, if_pos (by omega), if_neg (by omega), if_neg (by omega), if_neg (by omega), if_pos rfl]
      by_cases k4 : j = 64 + 12 * e + 4
      · rw [k4, u_n (by omega), u_n (by omega), u_s, if_pos (by omega), if_neg (by omega), if_neg (by omega), if_neg (by omega), if_neg (by omega), if_pos rfl]
      by_cases k5 : j = 64 + 12 * e + 5
      · rw [k5, u_n (by omega), u_s, if_pos (by omega), if_neg (by omega), if_neg (by omega), if_neg (by omega), if_neg (by omega), if_neg (by omega), if_pos rfl]
      by_cases k6 : j = 64 + 12 * e + 6
      · rw [k6, u_s, if_pos (by omega), if_neg (by omega), if_neg (by omega), if_neg (by omega), if_neg (by omega), if_neg (by omega), if_neg (by omega), if_pos rfl]
      rw [u_n k6, u_n k5, u_n k4, u_n k3, u_n k2, u_n k1, u_n k0, if_neg (by omega), if_neg h25, if_neg h36]
