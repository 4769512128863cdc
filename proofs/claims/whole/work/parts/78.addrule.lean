/-! addRule -/
theorem addRule_eq {N : Nat} {μ : q_M} : f_M_addRule N μ = q_b (f_M_isDigitAt 0 μ) fun x2 => q_jn (fun (x3 : Int) => q_jn (aR N x3 μ) fun (j57 : Option (Int × q_M)) => if x3 = 0 then q_b (f_M_isAt 0 42 μ) fun x74 => if x74 = 0 then q_b (f_M_isAt 0 126 μ) fun x76 => if x76 = 0 then some ((-100), μ) else j57 else j57 else j57) fun (j29 : Int → Option (Int × q_M)) => q_jn (j29 0) fun (j28 : Option (Int × q_M)) => if x2 = 0 then j28 else q_ld μ 3 20 0 fun x80 => q_ck (x80 - 48) fun x81 => q_fl μ 0 0 fun x82 => if x82 ≤ x81 then j28 else j29 1 := rfl
theorem z_addRuleM {N : Nat} {n K : Int} {μ ν0 : q_M} (hN : 1000 ≤ N) (hn : q_g μ 0 0 = n) (hn5 : 2 ≤ n ∧ n ≤ 5) (ht : tx μ ν0) (hK : q_g μ 0 6 = K) (hK2 : 0 ≤ K ∧ K ≤ 12) : ((if sjf (chr μ 0) n = -1 then 0 else rg (chr μ) (q_g μ 0 4)) ≠ -1 → f_M_addRule N μ = some (-100 - (if sjf (chr μ 0) n = -1 then 0 else rg (chr μ) (q_g μ 0 4)), μ)) ∧ ((if sjf (chr μ 0) n = -1 then 0 else rg (chr μ) (q_g μ 0 4)) = -1 → (K = 12 → f_M_addRule N μ = some (-100005, μ)) ∧ (K ≠ 12 → ∃ ν, f_M_addRule N μ = some (K, ν) ∧ aW μ ν K (sjf (chr μ 0) n) (chr μ 1 - 97) (relf (chr μ 2)) (rd (chr μ) 4 (nst (chr μ 2)) 0).2)) := by
  have hL2 := ht.2.1
  rw [addRule_eq, z_isDigitAt ht (by omega), z_b]
  simp only [z_jn]
  have j0 : ¬ (48 ≤ chr μ 0 ∧ chr μ 0 ≤ 48 + n - 1) → ((if sjf (chr μ 0) n = -1 then 0 else rg (chr μ) (q_g μ 0 4)) ≠ -1 → (if (0 : Int) = 0 then q_b (f_M_isAt 0 42 μ) fun x74 => if x74 = 0 then q_b (f_M_isAt 0 126 μ) fun x76 => if x76 = 0 then some ((-100), μ) else aR N 0 μ else aR N 0 μ else aR N 0 μ) = some (-100 - (if sjf (chr μ 0) n = -1 then 0 else rg (chr μ) (q_g μ 0 4)), μ)) ∧ ((if sjf (chr μ 0) n = -1 then 0 else rg (chr μ) (q_g μ 0 4)) = -1 → (K = 12 → (if (0 : Int) = 0 then q_b (f_M_isAt 0 42 μ) fun x74 => if x74 = 0 then q_b (f_M_isAt 0 126 μ) fun x76 => if x76 = 0 then some ((-100), μ) else aR N 0 μ else aR N 0 μ else aR N 0 μ) = some (-100005, μ)) ∧ (K ≠ 12 → ∃ ν, (if (0 : Int) = 0 then q_b (f_M_isAt 0 42 μ) fun x74 => if x74 = 0 then q_b (f_M_isAt 0 126 μ) fun x76 => if x76 = 0 then some ((-100), μ) else aR N 0 μ else aR N 0 μ else aR N 0 μ) = some (K, ν) ∧ aW μ ν K (sjf (chr μ 0) n) (chr μ 1 - 97) (relf (chr μ 2)) (rd (chr μ) 4 (nst (chr μ 2)) 0).2)) := by
    intro hnd
    rw [if_pos (show (0 : Int) = 0 from rfl), z_isAt ht (by omega) (by omega), z_b]
    by_cases q1 : chr μ 0 = 42
    · rw [decide_eq_true q1, if_neg (show ¬ bi true = 0 by decide)]
      have e : sjf (chr μ 0) n = 8 := by unfold sjf; rw [if_pos q1]
      rw [e, if_neg (show ¬ (8 : Int) = -1 by decide)]
      exact z_aR hN ht hK hK2 (Or.inl ⟨rfl, Or.inl ⟨q1, rfl⟩⟩)
    · rw [decide_eq_false q1, if_pos (show bi false = 0 by decide), z_isAt ht (by omega) (by omega), z_b]
      by_cases q2 : chr μ 0 = 126
      · rw [decide_eq_true q2, if_neg (show ¬ bi true = 0 by decide)]
        have e : sjf (chr μ 0) n = 9 := by unfold sjf; rw [if_neg q1, if_pos q2]
        rw [e, if_neg (show ¬ (9 : Int) = -1 by decide)]
        exact z_aR hN ht hK hK2 (Or.inl ⟨rfl, Or.inr ⟨q2, rfl⟩⟩)
      · rw [decide_eq_false q2, if_pos (show bi false = 0 by decide)]
        have e : sjf (chr μ 0) n = -1 := by unfold sjf; rw [if_neg q1, if_neg q2, if_neg hnd]
        rw [if_pos e]
        exact ⟨fun _ => rfl, fun h => absurd h (by decide)⟩
  by_cases g : 48 ≤ chr μ 0 ∧ chr μ 0 ≤ 57
  · have h0 : (0 : Int) < q_g μ 0 4 := by
      unfold chr at g
      by_cases l : (0 : Int) < q_g μ 0 4
      · exact l
      · rw [if_neg l] at g; omega
    have c0 : q_g μ 3 0 = chr μ 0 := (if_pos h0).symm
    rw [decide_eq_true g, if_neg (show ¬ bi true = 0 by decide), z_ld (by omega) (by omega), c0, z_ck (by omega) (by omega), z_fl, Int.cast_ofNat_Int, hn]
    by_cases g2 : n ≤ chr μ 0 - 48
    · rw [if_pos g2]
      exact j0 (by omega)
    · have e : sjf (chr μ 0) n = chr μ 0 - 48 := by unfold sjf; rw [if_neg (by omega), if_neg (by omega), if_pos (by omega)]
      rw [if_neg g2, if_neg (show ¬ (1 : Int) = 0 by decide), e, if_neg (show ¬ chr μ 0 - 48 = -1 by omega)]
      exact z_aR hN ht hK hK2 (Or.inr ⟨rfl, rfl, g.1⟩)
  · rw [decide_eq_false g, if_pos (show bi false = 0 by decide)]
    exact j0 (by omega)
theorem s_addRule {N : Nat} (hN : 1000 ≤ N) : q_st_addRule N vI := by
  intro c μC μM hc hI
  obtain ⟨n, hr, hv, hn, hA, hT, hU, hK⟩ := hI
  have ht : tx μM μC := hT
  have hU' := hU
  obtain ⟨u1, u2, u3⟩ := hU'
  have hn5 := hv.1
  obtain ⟨m1, m2⟩ := z_addRuleM (K := q_g μM 0 6) hN hn hn5 ht rfl u2
  obtain ⟨ν, x, a1, a2, a3, a4, a5⟩ := z_read (N := N) hN ht hn5
  unfold f_CR_addRule
  rw [z_fl, Int.cast_ofNat_Int, hr.1, a1, z_b2]
  have hK' : ∀ μ1 μ2, (∀ k, k ≠ 47 → k < 49 ∨ 53 < k → q_g μ1 k = q_g μC k) → (∀ j, j ≠ 6 → q_g μ2 0 j = q_g μM 0 j) → (∀ k, k ≠ 0 → k < 4 ∨ 7 < k → q_g μ2 k = q_g μM k) → vU n μ1 μ2 → tx μM μ1 → vI (c + 1) μ1 μ2 := fun μ1 μ2 f1 f2 f3 f4 f5 => vI_out hr hv hA hn hc (fun k hk => f1 k (by omega) (by omega)) (f3 1 (by omega) (by omega)) (f3 2 (by omega) (by omega)) (f2 0 (by omega)) (f2 3 (by omega)) (by
    unfold vT
    unfold tx at f5
    rw [f2 4 (by omega), f3 3 (by omega) (by omega)]
    exact f5) f4 (vK_out hK (f1 54 (by omega) (by omega)) (f1 55 (by omega) (by omega)) (f2 12 (by omega)) (f2 13 (by omega)) (f3 8 (by omega) (by omega)))
  have hU2 : vU n ν μM := vU_out hU (fun k h1 h2 => a3 k (by omega)) rfl (fun _ _ _ => rfl)
  by_cases g : x = -1
  · rw [if_pos g, z_fl, Int.cast_ofNat_Int, hU2.1]
    have hrf := a4.symm.trans g
    obtain ⟨w2, w3, w4, w5⟩ := a5 g
    by_cases g12 : q_g μM 0 6 < 12
    · obtain ⟨μ2, e1, e2, e3, e4, e5, e6, e7⟩ := (m2 hrf).2 (by omega)
      rw [if_pos g12, e1]
      -- what was read keeps its bounds
      have hrg : sjf (chr μM 0) n ≠ -1 ∧ rg (chr μM) (q_g μM 0 4) = -1 := by
        by_cases q : sjf (chr μM 0) n = -1
        · rw [if_pos q] at hrf; exact absurd hrf (by decide)
        · rw [if_neg q] at hrf; exact ⟨q, hrf⟩
      have hsj : (0 ≤ sjf (chr μM 0) n ∧ sjf (chr μM 0) n < n) ∨ sjf (chr μM 0) n = 8 ∨ sjf (chr μM 0) n = 9 := by
        have := hrg.1
        unfold sjf at this ⊢
        by_cases q1 : chr μM 0 = 42
        · rw [if_pos q1]; omega
        · rw [if_neg q1] at this ⊢
          by_cases q2 : chr μM 0 = 126
          · rw [if_pos q2]; omega
          · rw [if_neg q2] at this ⊢
            by_cases q3 : 48 ≤ chr μM 0 ∧ chr μM 0 ≤ 48 + n - 1
            · rw [if_pos q3]; omega
            · rw [if_neg q3] at this; exact absurd rfl this
      have hst : 0 ≤ chr μM 1 - 97 ∧ chr μM 1 - 97 ≤ 1 := by
        have := hrg.2
        unfold rg at this
        by_cases q : 0 ≤ chr μM 1 - 97 ∧ chr μM 1 - 97 ≤ 1
        · exact q
        · rw [if_pos q] at this; exact absurd this (by decide)
      have hrl : 0 ≤ relf (chr μM 2) ∧ relf (chr μM 2) ≤ 2 := by
        have := hrg.2
        unfold rg at this
        rw [if_neg (not_not_intro hst)] at this
        unfold relf at this ⊢
        by_cases q1 : chr μM 2 = 60
        · rw [if_pos q1]; omega
        · rw [if_neg q1] at this ⊢
          by_cases q2 : chr μM 2 = 61
          · rw [if_pos q2]; omega
          · rw [if_neg q2] at this ⊢
            by_cases q3 : chr μM 2 = 62
            · rw [if_pos q3]; omega
            · rw [if_neg q3, if_pos rfl] at this; exact absurd this (by decide)
      have hnb := rd_in (ch := chr μM) 4 (nst (chr μM 2)) 0 (by omega) (by decide)
      unfold f_RB_append
      rw [z_fl, z_fl]
      simp only [Int.cast_ofNat_Int]
      rw [hU2.1, w2, z_st (by omega) (by omega), z_fl, z_fl]
      simp only [Int.cast_ofNat_Int]
      rw [g_sn (show 49 ≠ 50 by omega), hU2.1, g_sn (show 47 ≠ 50 by omega), w3, z_st (by omega) (by omega), z_fl, z_fl]
      simp only [Int.cast_ofNat_Int]
      rw [g_sn (show 49 ≠ 51 by omega), g_sn (show 49 ≠ 50 by omega), hU2.1, g_sn (show 47 ≠ 51 by omega), g_sn (show 47 ≠ 50 by omega), w4, z_st (by omega) (by omega), z_fl, z_fl]
      simp only [Int.cast_ofNat_Int]
      rw [g_sn (show 49 ≠ 52 by omega), g_sn (show 49 ≠ 51 by omega), g_sn (show 49 ≠ 50 by omega), hU2.1, g_sn (show 47 ≠ 52 by omega), g_sn (show 47 ≠ 51 by omega), g_sn (show 47 ≠ 50 by omega), w5, z_st (by omega) (by omega), z_fl]
      simp only [Int.cast_ofNat_Int]
      rw [g_sn (show 49 ≠ 53 by omega), g_sn (show 49 ≠ 52 by omega), g_sn (show 49 ≠ 51 by omega), g_sn (show 49 ≠ 50 by omega), hU2.1, z_ck (by omega) (by omega), z_fs, z_b, z_fl]
      simp only [Int.cast_ofNat_Int]
      rw [g_s (by omega), u_s, z_ck (by omega) (by omega), Int.add_sub_cancel]
      refine ⟨_, _, _, rfl, rfl, hK' _ _ (fun k h1 h2 => by rw [g_sn (by omega), g_sn (by omega), g_sn (by omega), g_sn (by omega), g_sn (by omega), a3 k h1]) (fun j hj => by rw [e3, u_n hj]) (fun k h1 h2 => e2 k h1 (by omega) (by omega) (by omega) (by omega)) ?_ ?_⟩
      · refine ⟨?_, ?_, fun i h1 h2 => ?_⟩
        · rw [g_s (by omega), u_s, e3, u_s]
        · rw [e3, u_s]; omega
        · rw [e3, u_s] at h2
          rw [e4, e5, e6, e7, g_sn (show 50 ≠ 49 by omega), g_sn (show 50 ≠ 53 by omega), g_sn (show 50 ≠ 52 by omega), g_sn (show 50 ≠ 51 by omega), g_s (by omega), g_sn (show 51 ≠ 49 by omega), g_sn (show 51 ≠ 53 by omega), g_sn (show 51 ≠ 52 by omega), g_s (by omega), g_sn (show 51 ≠ 50 by omega), g_sn (show 52 ≠ 49 by omega), g_sn (show 52 ≠ 53 by omega), g_s (by omega), g_sn (show 52 ≠ 51 by omega), g_sn (show 52 ≠ 50 by omega), g_sn (show 53 ≠ 49 by omega), g_s (by omega), g_sn (show 53 ≠ 52 by omega), g_sn (show 53 ≠ 51 by omega), g_sn (show 53 ≠ 50 by omega)]
          by_cases z : i = q_g μM 0 6
          · rw [z, u_s, u_s, u_s, u_s, u_s, u_s, u_s, u_s]
            exact ⟨rfl, rfl, rfl, rfl, hsj, hst, hrl, hnb.2.2.1, hnb.2.2.2⟩
          · rw [u_n z, u_n z, u_n z, u_n z, u_n z, u_n z, u_n z, u_n z]
            exact hU2.2.2 i h1 (by omega)
      · unfold tx at a2 ⊢
        rw [g_sn (show 47 ≠ 49 by omega), g_sn (show 47 ≠ 53 by omega), g_sn (show 47 ≠ 52 by omega), g_sn (show 47 ≠ 51 by omega), g_sn (show 47 ≠ 50 by omega), g_sn (show 48 ≠ 49 by omega), g_sn (show 48 ≠ 53 by omega), g_sn (show 48 ≠ 52 by omega), g_sn (show 48 ≠ 51 by omega), g_sn (show 48 ≠ 50 by omega)]
        exact a2
    · rw [if_neg g12, (m2 hrf).1 (by omega)]
      exact ⟨_, _, _, rfl, rfl, hK' ν μM (fun k h1 _ => a3 k h1) (fun _ _ => rfl) (fun _ _ _ => rfl) hU2 a2⟩
  · rw [if_neg g, m1 (by rw [← a4]; exact g), ← a4]
    have hxb : -1000 ≤ x ∧ x ≤ 1000 := by
      rw [a4]
      by_cases q : sjf (chr μM 0) n = -1
      · rw [if_pos q]; omega
      · rw [if_neg q]
        unfold rg
        have hn3 : nst (chr μM 2) = 3 ∨ nst (chr μM 2) = 4 := by
          unfold nst
          by_cases z : chr μM 2 = 61
          · rw [if_pos z]; exact Or.inl rfl
          · rw [if_neg z]; exact Or.inr rfl
        have hnb := rd_in (ch := chr μM) 4 (nst (chr μM 2)) 0 (by omega) (by decide)
        by_cases q1 : 0 ≤ chr μM 1 - 97 ∧ chr μM 1 - 97 ≤ 1
        · rw [if_neg (not_not_intro q1)]
          by_cases q2 : relf (chr μM 2) = -1
          · rw [if_pos q2]; omega
          · rw [if_neg q2]
            by_cases q3 : chr μM 2 ≠ 61 ∧ chr μM 3 ≠ 61
            · rw [if_pos q3]; omega
            · rw [if_neg q3]
              by_cases q4 : (rd (chr μM) 4 (nst (chr μM 2)) 0).1 ≤ nst (chr μM 2) ∨ (rd (chr μM) 4 (nst (chr μM 2)) 0).1 ≠ q_g μM 0 4
              · rw [if_pos q4]; omega
              · rw [if_neg q4]; omega
        · rw [if_pos q1]; omega
    rw [z_ck (by omega) (by omega)]
    exact ⟨_, _, _, rfl, rfl, hK' ν μM (fun k h1 _ => a3 k h1) (fun _ _ => rfl) (fun _ _ _ => rfl) hU2 a2⟩
