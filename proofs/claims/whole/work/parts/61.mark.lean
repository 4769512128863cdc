/-! a marker is taken -/
def allR (w : Int → Int) : Int → Nat → Bool
  | _, 0 => true
  | i, d + 1 => decide (0 ≤ w (30 + i)) && allR w (i + 1) d
theorem allR_t {w : Int → Int} : ∀ {d : Nat} {i : Int}, allR w i d = true → ∀ p, i ≤ p → p < i + d → 0 ≤ w (30 + p)
  | 0, _, _, p, h1, h2 => absurd h2 (by omega)
  | d + 1, i, h, p, h1, h2 => by
    unfold allR at h
    rw [Bool.and_eq_true, decide_eq_true_eq] at h
    by_cases e : p = i
    · rw [e]; exact h.1
    · exact allR_t h.2 p (by omega) (by omega)
def wM1 (w : Int → Int) (f t : Int) : Int → Int := q_u w (38 + 5 * f + t) (-1)
def wM2 (w : Int → Int) (n f t : Int) : Int → Int := if w (30 + t) < 0 then wRec (wM1 w f t) n t else wM1 w f t
def wM3 (w : Int → Int) (n : Int) : Int := if allR w 0 n.toNat = true ∧ nMark w = 0 then 2 else 1
def wTM (w : Int → Int) (n f t : Int) : Int → Int := q_u (wM2 w n f t) 35 (wM3 (wM2 w n f t) n)
theorem rv_m1 {n c f t : Int} {w : Int → Int} (hv : rv n w c) (hf : 0 ≤ f ∧ f < n) (ht : 0 ≤ t ∧ t < n) (hs : w 35 = 1) : rv n (wM1 w f t) c := by
  have hv' := hv
  obtain ⟨v0, v1, v2, v3, v4, v5, v6, v7, v8, v9, v10, -⟩ := hv'
  unfold wM1
  refine rv_low hv (fun i hi => u_n (by omega)) ?_ ?_ ?_ ?_ ?_ ?_ ?_
  · intro j j0 j1; rw [u_n (by omega)]; exact v1 j j0 j1
  · intro q q0 q1; rw [u_n (by omega), u_n (by omega)]; have := v4 q q0 q1; exact ⟨this.1, this.2.2⟩
  · intro k k0 k1
    by_cases e : 38 + k = 38 + 5 * f + t
    · rw [e, u_s]; omega
    · rw [u_n e]; exact v7 k k0 k1
  · rw [u_n (by omega)]; exact v8
  · rw [u_n (by omega)]; exact fun h => absurd hs h
  · rw [u_n (by omega)]; exact fun h => absurd h (by omega)
  · intro q q0 q1
    by_cases e : 38 + 6 * q = 38 + 5 * f + t
    · rw [e, u_s]
    · rw [u_n e]; exact v6.2 q q0 q1
theorem rv_m2 {n c f t : Int} {w : Int → Int} (hv : rv n w c) (hf : 0 ≤ f ∧ f < n) (ht : 0 ≤ t ∧ t < n) (hs : w 35 = 1) : rv n (wM2 w n f t) c ∧ wM2 w n f t 35 = 1 := by
  have v0 := hv.1
  have h1 := rv_m1 hv hf ht hs
  have s1 : wM1 w f t 35 = 1 := by unfold wM1; rw [u_n (by omega)]; exact hs
  unfold wM2
  by_cases g : w (30 + t) < 0
  · rw [if_pos g]
    exact ⟨rv_wRec h1 ht.1 ht.2 s1, by rw [wRec_i, if_neg (by omega), if_neg (by omega)]; exact s1⟩
  · rw [if_neg g]
    exact ⟨h1, s1⟩
theorem nMark_0 {n c : Int} {w : Int → Int} (hv : rv n w c) (h : nMark w = 0) : ∀ k, 0 ≤ k → k < 25 → w (38 + k) = -1 := by
  intro k k0 k1
  have v7 := hv.2.2.2.2.2.2.2.1 k k0 k1
  refine Classical.byContradiction fun g => ?_
  have key : ∀ (d : Nat) (i : Int), i ≤ k → k < i + d → 0 < sm (fun k => bi (decide (0 ≤ w (38 + k)))) i d := by
    intro d
    induction d with
    | zero => intro i h1 h2; omega
    | succ d ih =>
      intro i h1 h2
      unfold sm
      have hb := bi_bd (decide (0 ≤ w (38 + i)))
      have hs := sm_bd (f := fun k => bi (decide (0 ≤ w (38 + k)))) (a := 0) (b := 1) (d := d) (i := i + 1) (fun j _ _ => bi_bd _)
      by_cases e : i = k
      · subst e
        rw [show decide (0 ≤ w (38 + i)) = true from decide_eq_true (by omega)]
        have hb1 : bi true = 1 := rfl
        omega
      · have := ih (i + 1) (by omega) (by omega)
        omega
  have := key 25 0 (by omega) (by omega)
  unfold nMark at h
  omega
theorem rv_tm {n c f t : Int} {w : Int → Int} (hv : rv n w c) (hf : 0 ≤ f ∧ f < n) (ht : 0 ≤ t ∧ t < n) (hs : w 35 = 1) : rv n (wTM w n f t) c := by
  obtain ⟨h2, s2⟩ := rv_m2 hv hf ht hs
  have hv' := h2
  obtain ⟨v0, v1, v2, v3, v4, v5, v6, v7, v8, v9, v10, -⟩ := hv'
  have hm3 : wM3 (wM2 w n f t) n = 1 ∨ (wM3 (wM2 w n f t) n = 2 ∧ allR (wM2 w n f t) 0 n.toNat = true ∧ nMark (wM2 w n f t) = 0) := by
    unfold wM3
    by_cases g : allR (wM2 w n f t) 0 n.toNat = true ∧ nMark (wM2 w n f t) = 0
    · rw [if_pos g]; exact Or.inr ⟨rfl, g⟩
    · rw [if_neg g]; exact Or.inl rfl
  unfold wTM
  refine rv_low h2 (fun i hi => u_n (by omega)) ?_ ?_ ?_ ?_ ?_ ?_ ?_
  · intro j j0 j1; rw [u_n (by omega)]; exact v1 j j0 j1
  · intro q q0 q1; rw [u_n (by omega), u_n (by omega)]; have := v4 q q0 q1; exact ⟨this.1, this.2.2⟩
  · intro k k0 k1; rw [u_n (by omega)]; exact v7 k k0 k1
  · rw [u_s]; omega
  · rw [u_s]
    intro h k k0 k1
    rw [u_n (by omega)]
    exact nMark_0 h2 (by rcases hm3 with g | g; (exact absurd g h); exact g.2.2) k k0 k1
  · rw [u_s]
    intro h q q0 q1
    rw [u_n (by omega)]
    exact allR_t (by rcases hm3 with g | g; (omega); exact g.2.1) q q0 (by omega)
  · intro q q0 q1; rw [u_n (by omega)]; exact v6.2 q q0 q1
theorem z_takeMarkerM {N : Nat} {n c f t : Int} {μ : q_M} (hN : 1000 ≤ N) (hv : rv n (q_g μ 1) c) (hn : q_g μ 0 0 = n) (hf : 0 ≤ f ∧ f < n) (ht : 0 ≤ t ∧ t < n) (hs : q_g μ 1 35 = 1) : ∃ μ', f_M_takeMarker N f t μ = some μ' ∧ (∀ k, k ≠ 1 → q_g μ' k = q_g μ k) ∧ q_g μ' 1 = wTM (q_g μ 1) n f t := by
  have v0 := hv.1
  obtain ⟨h2, s2⟩ := rv_m2 hv hf ht hs
  unfold f_M_takeMarker
  rw [z_ck (by omega) (by omega), z_ck (by omega) (by omega), z_ck (by omega) (by omega), z_st (by omega) (by omega), z_ck (by omega) (by omega), z_ld (by omega) (by omega), z_jn, g_s (by omega), u_n (by omega)]
  have fin : ∀ μ7 : q_M, (∀ k, k ≠ 1 → q_g μ7 k = q_g μ k) → q_g μ7 1 = wM2 (q_g μ 1) n f t → ∃ μ', (f_M_takeMarker_L36 μ7 (fun (x10 : Int) => q_jn (fun (x19 : Int) => q_st μ7 1 5104 35 x19 fun μ20 => some μ20) fun (j96 : Int → Option q_M) => q_jn (j96 1) fun (j95 : Option q_M) => if x10 = 0 then j95 else q_b (f_M_markers N μ7) fun x22 => if x22 = 0 then j96 2 else j95) N 1 0) = some μ' ∧ (∀ k, k ≠ 1 → q_g μ' k = q_g μ k) ∧ q_g μ' 1 = wTM (q_g μ 1) n f t := by
    intro μ7 hk hw
    obtain ⟨K, hK⟩ : ∃ K : Int → Option q_M, K = (fun (x10 : Int) => q_jn (fun (x19 : Int) => q_st μ7 1 5104 35 x19 fun μ20 => some μ20) fun (j96 : Int → Option q_M) => q_jn (j96 1) fun (j95 : Option q_M) => if x10 = 0 then j95 else q_b (f_M_markers N μ7) fun x22 => if x22 = 0 then j96 2 else j95) := ⟨_, rfl⟩
    have key : ∀ (d nf : Nat) (b : Bool) (i : Int), 0 ≤ i → i + d = n → d < nf → f_M_takeMarker_L36 μ7 K nf (bi b) i = K (bi (b && allR (wM2 (q_g μ 1) n f t) i d)) := by
      intro d
      induction d with
      | zero =>
        intro nf b i h0 h1 h2
        obtain ⟨nf, rfl⟩ : ∃ m, nf = m + 1 := ⟨nf - 1, by omega⟩
        rw [f_M_takeMarker_L36, z_fl, Int.cast_ofNat_Int, hk 0 (by omega), hn, if_pos (by omega), allR, Bool.and_true]
      | succ d ih =>
        intro nf b i h0 h1 h2
        obtain ⟨nf, rfl⟩ : ∃ m, nf = m + 1 := ⟨nf - 1, by omega⟩
        rw [f_M_takeMarker_L36, z_fl, Int.cast_ofNat_Int, hk 0 (by omega), hn, if_neg (by omega), allR]
        simp (disch := omega) only [z_jn, z_ck, z_ld, z_bib, hw]
        cases b with
        | false =>
          rw [if_pos rfl]
          exact ih nf false (i + 1) (by omega) (by omega) (by omega)
        | true =>
          rw [if_neg (by decide)]
          by_cases g : wM2 (q_g μ 1) n f t (30 + i) < 0
          · rw [if_pos g, decide_eq_false (by omega)]
            exact ih nf false (i + 1) (by omega) (by omega) (by omega)
          · rw [if_neg g, decide_eq_true (by omega : 0 ≤ wM2 (q_g μ 1) n f t (30 + i))]
            exact ih nf true (i + 1) (by omega) (by omega) (by omega)
    rw [← hK, show (1 : Int) = bi true from rfl, key n.toNat N true 0 (by omega) (by omega) (by omega), hK, Bool.true_and]
    simp (disch := omega) only [z_jn, z_st, z_markers hN (show rv n (q_g μ7 1) c by rw [hw]; exact h2), z_b, z_bib]
    have hx : ∀ v, (∀ k, k ≠ 1 → q_g (q_x μ7 1 35 v) k = q_g μ k) ∧ q_g (q_x μ7 1 35 v) 1 = q_u (wM2 (q_g μ 1) n f t) 35 v := fun v => ⟨fun k h => by rw [g_sn h]; exact hk k h, by rw [g_s (by omega), hw]⟩
    unfold wTM wM3
    rw [hw]
    cases ha : allR (wM2 (q_g μ 1) n f t) 0 n.toNat with
    | false =>
      rw [if_pos rfl, if_neg (fun h => absurd h.1 (by decide))]
      exact ⟨_, rfl, hx 1⟩
    | true =>
      rw [if_neg (by decide)]
      by_cases g : nMark (wM2 (q_g μ 1) n f t) = 0
      · rw [if_pos g, if_pos ⟨rfl, g⟩]
        exact ⟨_, rfl, hx 2⟩
      · rw [if_neg g, if_neg (fun h => g h.2)]
        exact ⟨_, rfl, hx 1⟩
  by_cases g : 0 ≤ q_g μ 1 (30 + t)
  · rw [if_pos g]
    exact fin _ (fun k hk => g_sn hk) (by unfold wM2 wM1; rw [g_s (by omega), if_neg (by omega)])
  · rw [if_neg g]
    obtain ⟨μ2, b1, b2, b3⟩ := z_record (N := N) (n := n) (p := t) (μ := q_x μ 1 (38 + 5 * f + t) (-1)) hN (by rw [g_sn (by omega)]; exact hn) v0.2 ht.1 ht.2
    rw [b1, z_b]
    exact fin _ (fun k hk => by rw [b2 k hk, g_sn hk]) (by unfold wM2 wM1; rw [b3, g_s (by omega), if_pos (by omega)])
