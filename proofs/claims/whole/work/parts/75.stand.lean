/-! what rules ask of a state -/
def trS (f : Int → Bool) (w : Int → Int) (s m : Int) : Int := if f m = true ∧ mg w m 2 = s then mg w m 3 else 0
def trN (f : Int → Bool) (w : Int → Int) (s : Int) : Int := sm (trS f w s) 0 (w 37).toNat
def prs (w : Int → Int) (m : Int) : Bool := decide (mg w m 5 < 0)
theorem trS_bd {n c s m : Int} {f : Int → Bool} {w : Int → Int} (hv : rv n w c) (h0 : 0 ≤ m) (h1 : m < w 37) : 0 ≤ trS f w s m ∧ trS f w s m ≤ 100 := by
  obtain ⟨-, -, -, -, -, -, -, -, -, -, -, -, hm, -⟩ := hv
  have := (hm m h0 h1).2.2.2.2.1
  unfold trS
  by_cases g : f m = true ∧ mg w m 2 = s
  · rw [if_pos g]; omega
  · rw [if_neg g]; omega
theorem trP_bd {n c s i : Int} {f : Int → Bool} {w : Int → Int} (hv : rv n w c) (h0 : 0 ≤ i) (h1 : i ≤ w 37) : 0 ≤ sm (trS f w s) 0 i.toNat ∧ sm (trS f w s) 0 i.toNat ≤ 100 * i := by
  have := sm_bd (f := trS f w s) (a := 0) (b := 100) (d := i.toNat) (i := 0) (fun j a b => trS_bd hv a (by omega))
  omega
theorem trN_bd {n c s : Int} {f : Int → Bool} {w : Int → Int} (hv : rv n w c) : 0 ≤ trN f w s ∧ trN f w s ≤ 51200 := by
  have hl := hv.2.2.2.1
  have := trP_bd (s := s) (f := f) hv hl.1 (Int.le_refl _)
  unfold trN
  omega
def stM (μ : q_M) (n : Int) (f : Int → Int → Int) (tr : Int → Int) : Prop := q_g μ 56 0 = n ∧ (∀ p s, 0 ≤ p → p < n → 0 ≤ s → s ≤ 1 → q_g μ 57 (p * 2 + s) = f p s) ∧ ∀ s, 0 ≤ s → s ≤ 1 → q_g μ 58 s = tr s
theorem trL29 {oa : Nat} {n c : Int} {w : Int → Int} {K : q_M → Option q_M} (ho : oa ≤ 24) (hv : rv n w c) : ∀ (dd nf : Nat) (i : Int) (μ : q_M), i + dd = w 37 → 0 ≤ i → dd < nf → rr_C oa n μ w → (∀ s, 0 ≤ s → s ≤ 1 → q_g μ 58 s = sm (trS (prs w) w s) 0 i.toNat) → ∃ μ', f_St_readPresent_L29 oa K nf i μ = K μ' ∧ (∀ k, k ≠ 58 → q_g μ' k = q_g μ k) ∧ ∀ s, 0 ≤ s → s ≤ 1 → q_g μ' 58 s = trN (prs w) w s := by
  intro dd
  induction dd with
  | zero =>
    intro nf i μ h1 h2 h3 hr ht
    obtain ⟨nf, rfl⟩ : ∃ m, nf = m + 1 := ⟨nf - 1, by omega⟩
    obtain ⟨-, -, -, -, -, -, -, -, hlen, -⟩ := hr
    refine ⟨μ, by rw [f_St_readPresent_L29, z_fl, Int.cast_ofNat_Int, hlen, if_pos (by omega)], fun _ _ => rfl, fun s a b => ?_⟩
    rw [ht s a b, show i = w 37 by omega]
    rfl
  | succ dd ih =>
    intro nf i μ h1 h2 h3 hr ht
    obtain ⟨nf, rfl⟩ : ∃ m, nf = m + 1 := ⟨nf - 1, by omega⟩
    have hr' := hr
    obtain ⟨-, -, -, -, -, -, -, -, hlen, -, -, hM⟩ := hr'
    obtain ⟨m1, m2, m3, m4, m5⟩ := hM i h2 (by omega)
    have hl := hv.2.2.2.1
    have hm := hv.2.2.2.2.2.2.2.2.2.2.2.2.1 i h2 (by omega)
    obtain ⟨-, -, -, q4, q5, -, q7⟩ := hm
    have hst : (i + 1).toNat = i.toNat + 1 := by omega
    rw [f_St_readPresent_L29, z_fl, Int.cast_ofNat_Int, hlen, if_neg (by omega)]
    simp (disch := omega) only [z_ld, z_jn, m2, m3, m5]
    by_cases g : mg w i 5 = -1
    · have hb := trP_bd (s := mg w i 2) (f := prs w) hv h2 (by omega)
      rw [if_pos g, ht _ q4.1 q4.2]
      simp (disch := omega) only [z_ck, z_st]
      obtain ⟨μ', e1, e2, e3⟩ := ih nf (i + 1) (q_x μ 58 (mg w i 2) (sm (trS (prs w) w (mg w i 2)) 0 i.toNat + mg w i 3)) (by omega) (by omega) (by omega) (rr_frame hr (fun k k1 k2 => g_sn (by omega))) (by
        intro s a b
        rw [g_s q4.1, hst, sm_last, Int.zero_add, Int.toNat_of_nonneg h2]
        unfold trS prs
        rw [decide_eq_true (by omega)]
        by_cases z : s = mg w i 2
        · rw [z, u_s, if_pos ⟨rfl, rfl⟩]
        · rw [u_n z, ht s a b, if_neg (fun q => z q.2.symm)]
          unfold trS prs
          omega)
      exact ⟨μ', e1, fun k hk => by rw [e2 k hk, g_sn hk], e3⟩
    · rw [if_neg g]
      simp (disch := omega) only [z_ck]
      refine ih nf (i + 1) μ (by omega) (by omega) (by omega) hr (fun s a b => ?_)
      rw [ht s a b, hst, sm_last, Int.zero_add, Int.toNat_of_nonneg h2]
      have : trS (prs w) w s i = 0 := by
        unfold trS prs
        rw [decide_eq_false (by omega), if_neg (fun q => Bool.false_ne_true q.1)]
      omega
theorem trL63 {oa : Nat} {n c : Int} {w : Int → Int} {K : q_M → Option q_M} (ho : oa ≤ 24) (hv : rv n w c) : ∀ (dd nf : Nat) (i : Int) (μ : q_M), i + dd = w 37 → 0 ≤ i → dd < nf → rr_C oa n μ w → (∀ s, 0 ≤ s → s ≤ 1 → q_g μ 58 s = sm (trS (tran w) w s) 0 i.toNat) → ∃ μ', f_St_readCut_L63 oa K nf i μ = K μ' ∧ (∀ k, k ≠ 58 → q_g μ' k = q_g μ k) ∧ ∀ s, 0 ≤ s → s ≤ 1 → q_g μ' 58 s = trN (tran w) w s := by
  intro dd
  induction dd with
  | zero =>
    intro nf i μ h1 h2 h3 hr ht
    obtain ⟨nf, rfl⟩ : ∃ m, nf = m + 1 := ⟨nf - 1, by omega⟩
    obtain ⟨-, -, -, -, -, -, -, -, hlen, -⟩ := hr
    refine ⟨μ, by rw [f_St_readCut_L63, z_fl, Int.cast_ofNat_Int, hlen, if_pos (by omega)], fun _ _ => rfl, fun s a b => ?_⟩
    rw [ht s a b, show i = w 37 by omega]
    rfl
  | succ dd ih =>
    intro nf i μ h1 h2 h3 hr ht
    obtain ⟨nf, rfl⟩ : ∃ m, nf = m + 1 := ⟨nf - 1, by omega⟩
    have hr' := hr
    obtain ⟨-, -, -, -, -, -, -, -, hlen, -, -, hM⟩ := hr'
    obtain ⟨m1, m2, m3, m4, m5⟩ := hM i h2 (by omega)
    have hl := hv.2.2.2.1
    have hm := hv.2.2.2.2.2.2.2.2.2.2.2.2.1 i h2 (by omega)
    obtain ⟨-, -, -, q4, q5, -, q7⟩ := hm
    have hst : (i + 1).toNat = i.toNat + 1 := by omega
    rw [f_St_readCut_L63, z_fl, Int.cast_ofNat_Int, hlen, if_neg (by omega), z_crossesCut hr hv h2 (by omega), z_b]
    simp (disch := omega) only [z_ld, z_jn, m2, m3, z_bib]
    cases g : tran w i with
    | true =>
      have hb := trP_bd (s := mg w i 2) (f := tran w) hv h2 (by omega)
      rw [if_neg (by decide), ht _ q4.1 q4.2]
      simp (disch := omega) only [z_ck, z_st]
      obtain ⟨μ', e1, e2, e3⟩ := ih nf (i + 1) (q_x μ 58 (mg w i 2) (sm (trS (tran w) w (mg w i 2)) 0 i.toNat + mg w i 3)) (by omega) (by omega) (by omega) (rr_frame hr (fun k k1 k2 => g_sn (by omega))) (by
        intro s a b
        rw [g_s q4.1, hst, sm_last, Int.zero_add, Int.toNat_of_nonneg h2]
        unfold trS
        rw [g]
        by_cases z : s = mg w i 2
        · rw [z, u_s, if_pos ⟨rfl, rfl⟩]
        · rw [u_n z, ht s a b, if_neg (fun q => z q.2.symm)]
          unfold trS
          omega)
      exact ⟨μ', e1, fun k hk => by rw [e2 k hk, g_sn hk], e3⟩
    | false =>
      rw [if_pos rfl]
      simp (disch := omega) only [z_ck]
      refine ih nf (i + 1) μ (by omega) (by omega) (by omega) hr (fun s a b => ?_)
      rw [ht s a b, hst, sm_last, Int.zero_add, Int.toNat_of_nonneg h2]
      have : trS (tran w) w s i = 0 := by
        unfold trS
        rw [g, if_neg (fun q => Bool.false_ne_true q.1)]
      omega
theorem z_readPresent {N oa : Nat} {n c : Int} {w : Int → Int} {μ : q_M} (hN : 1000 ≤ N) (ho : oa ≤ 24) (hr : rr_C oa n μ w) (hv : rv n w c) : ∃ μ', f_St_readPresent N oa μ = some μ' ∧ (∀ k, k < 56 ∨ 58 < k → q_g μ' k = q_g μ k) ∧ stM μ' n (fun p s => w (2 * p + s)) (trN (prs w) w) := by
  have hl := hv.2.2.2.1
  have hn := hv.1
  unfold f_St_readPresent
  have hr0 := hr.1
  have hr1 := hr.2.1
  rw [z_fl, Int.cast_ofNat_Int, hr0, z_fs, z_cp, z_fi]
  obtain ⟨μ', e1, e2, e3⟩ := trL29 (K := fun μ7 => some μ7) ho hv (w 37).toNat N 0 (q_fill (q_copy (q_x μ 56 (0 : Nat) n) (oa + 1) 57 10) 58 2 0) (by omega) (by omega) (by omega) (rr_frame hr (fun k k1 k2 => by rw [g_fn (by omega), g_cn (by omega), g_sn (by omega)])) (fun s a b => by rw [g_f a (by omega)]; rfl)
  rw [e1]
  refine ⟨μ', rfl, fun k hk => by rw [e2 k (by omega), g_fn (by omega), g_cn (by omega), g_sn (by omega)], ?_, fun p s a b c d => ?_, e3⟩
  · rw [e2 56 (by omega), g_fn (by omega), g_cn (by omega), g_s (by omega), Int.cast_ofNat_Int, u_s]
  · rw [e2 57 (by omega), g_fn (by omega), g_c (by omega) (by omega), g_sn (by omega), hr1 _ (by omega) (by omega), show p * 2 + s = 2 * p + s by omega]
theorem cutL10 {N oa : Nat} {n c : Int} {w : Int → Int} {K : q_M → Option q_M} (hN : 1000 ≤ N) (ho : oa ≤ 24) (hv : rv n w c) : ∀ (dd nf : Nat) (i : Int) (μ : q_M), i + dd = n → 0 ≤ i → dd < nf → rr_C oa n μ w → q_g μ 56 0 = n → (∀ p s, 0 ≤ p → p < i → 0 ≤ s → s ≤ 1 → q_g μ 57 (p * 2 + s) = sCut w p s) → ∃ μ', f_St_readCut_L10 N oa K nf i μ = K μ' ∧ (∀ k, k ≠ 57 → q_g μ' k = q_g μ k) ∧ ∀ p s, 0 ≤ p → p < n → 0 ≤ s → s ≤ 1 → q_g μ' 57 (p * 2 + s) = sCut w p s := by
  intro dd
  have hn := hv.1
  induction dd with
  | zero =>
    intro nf i μ h1 h2 h3 hr h56 hc
    obtain ⟨nf, rfl⟩ : ∃ m, nf = m + 1 := ⟨nf - 1, by omega⟩
    obtain rfl : i = n := by omega
    exact ⟨μ, by rw [f_St_readCut_L10, z_fl, Int.cast_ofNat_Int, h56, if_pos (by omega)], fun _ _ => rfl, hc⟩
  | succ dd ih =>
    intro nf i μ h1 h2 h3 hr h56 hc
    obtain ⟨nf, rfl⟩ : ∃ m, nf = m + 1 := ⟨nf - 1, by omega⟩
    obtain ⟨M, rfl⟩ : ∃ m, N = m + 3 := ⟨N - 3, by omega⟩
    have hr2 : rr_C oa n (q_x μ 57 (i * 2 + 0) (sCut w i 0)) w := rr_frame hr (fun k k1 k2 => g_sn (by omega))
    rw [f_St_readCut_L10, z_fl, Int.cast_ofNat_Int, h56, if_neg (by omega), f_St_readCut_L20, if_neg (by omega), z_slot h2 (by omega) (by omega) (by omega), z_b, z_cutStock hN hr hv h2 (by omega) (by omega) (by omega), z_b, z_st (by omega) (by omega), z_ck (by omega) (by omega), f_St_readCut_L20, if_neg (by omega), z_slot h2 (by omega) (by omega) (by omega), z_b, z_cutStock hN hr2 hv h2 (by omega) (by omega) (by omega), z_b, z_st (by omega) (by omega), z_ck (by omega) (by omega), f_St_readCut_L20, if_pos (by omega), z_ck (by omega) (by omega)]
    obtain ⟨μ', e1, e2, e3⟩ := ih nf (i + 1) (q_x (q_x μ 57 (i * 2 + 0) (sCut w i 0)) 57 (i * 2 + (0 + 1)) (sCut w i (0 + 1))) (by omega) (by omega) (by omega) (rr_frame hr (fun k k1 k2 => by rw [g_sn (by omega), g_sn (by omega)])) (by rw [g_sn (by omega), g_sn (by omega)]; exact h56) (by
      intro p s a b c d
      rw [g_s (by omega), g_s (by omega)]
      by_cases z : p = i
      · have : s = 0 ∨ s = 1 := by omega
        rcases this with rfl | rfl
        · rw [u_n (by omega), z, u_s]
        · rw [z]
          exact u_s
      · rw [u_n (by omega), u_n (by omega)]
        exact hc p s a (by omega) c d)
    exact ⟨μ', e1, fun k hk => by rw [e2 k hk, g_sn hk, g_sn hk], e3⟩
theorem z_readCut {N oa : Nat} {n c : Int} {w : Int → Int} {μ : q_M} (hN : 1000 ≤ N) (ho : oa ≤ 24) (hr : rr_C oa n μ w) (hv : rv n w c) : ∃ μ', f_St_readCut N oa μ = some μ' ∧ (∀ k, k < 56 ∨ 58 < k → q_g μ' k = q_g μ k) ∧ stM μ' n (sCut w) (trN (tran w) w) := by
  have hl := hv.2.2.2.1
  have hn := hv.1
  unfold f_St_readCut
  have hr0 := hr.1
  rw [z_fl, Int.cast_ofNat_Int, hr0, z_fs]
  have h1 : rr_C oa n (q_x μ 56 ((0 : Nat) : Int) n) w := rr_frame hr (fun k k1 k2 => g_sn (by omega))
  obtain ⟨μ1, a1, a2, a3⟩ := cutL10 (K := fun μ5 => q_fi μ5 58 2 0 fun μ19 => f_St_readCut_L63 oa (fun μ22 => some μ22) N 0 μ19) hN ho hv n.toNat N 0 (q_x μ 56 ((0 : Nat) : Int) n) (by omega) (by omega) (by omega) h1 (by rw [g_s (by omega), Int.cast_ofNat_Int, u_s]) (fun p s a b => absurd b (by omega))
  rw [a1, z_fi]
  obtain ⟨μ', e1, e2, e3⟩ := trL63 (K := fun μ22 => some μ22) ho hv (w 37).toNat N 0 (q_fill μ1 58 2 0) (by omega) (by omega) (by omega) (rr_frame h1 (fun k k1 k2 => by rw [g_fn (by omega), a2 k (by omega)])) (fun s a b => by rw [g_f a (by omega)]; rfl)
  rw [e1]
  refine ⟨μ', rfl, fun k hk => by rw [e2 k (by omega), g_fn (by omega), a2 k (by omega), g_sn (by omega)], ?_, fun p s a b c d => ?_, e3⟩
  · rw [e2 56 (by omega), g_fn (by omega), a2 56 (by omega), g_s (by omega), Int.cast_ofNat_Int, u_s]
  · rw [e2 57 (by omega), g_fn (by omega)]
    exact a3 p s a b c d
