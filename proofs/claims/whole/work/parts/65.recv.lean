theorem z_learnFrom {N o : Nat} {e snt : Int} {μ : q_M} (hN : 1000 ≤ N) (h0 : 0 ≤ e) (h1 : e < 100) (h2 : snt = -1 ∨ (0 ≤ snt ∧ snt < e)) : ∃ μ', f_Hi_learnFrom N (o + 4) e snt μ = some μ' ∧ (∀ k, k ≠ o + 12 → q_g μ' k = q_g μ k) ∧ ∀ j, q_g μ' (o + 12) j = if snt ≠ -1 ∧ e * 5 ≤ j ∧ j < e * 5 + 5 then (if q_g μ (o + 12) j < q_g μ (o + 12) (snt * 5 + (j - e * 5)) then q_g μ (o + 12) (snt * 5 + (j - e * 5)) else q_g μ (o + 12) j) else q_g μ (o + 12) j := by
  unfold f_Hi_learnFrom
  by_cases g : snt = -1
  · rw [if_pos g]
    exact ⟨μ, rfl, fun _ _ => rfl, fun j => by rw [if_neg (fun h => h.1 g)]⟩
  · rw [if_neg g]
    have key : ∀ (d nf : Nat) (i : Int) (μ : q_M), 0 ≤ i → i + d = 5 → d < nf → ∃ μ', f_Hi_learnFrom_L8 (o + 4) e snt (fun μ3 => some μ3) nf i μ = some μ' ∧ (∀ k, k ≠ o + 12 → q_g μ' k = q_g μ k) ∧ ∀ j, q_g μ' (o + 12) j = if e * 5 + i ≤ j ∧ j < e * 5 + 5 then (if q_g μ (o + 12) j < q_g μ (o + 12) (snt * 5 + (j - e * 5)) then q_g μ (o + 12) (snt * 5 + (j - e * 5)) else q_g μ (o + 12) j) else q_g μ (o + 12) j := by
      intro d
      induction d with
      | zero =>
        intro nf i μ g0 g1 g2
        obtain ⟨nf, rfl⟩ : ∃ m, nf = m + 1 := ⟨nf - 1, by omega⟩
        exact ⟨μ, by rw [f_Hi_learnFrom_L8, if_pos (by omega)], fun _ _ => rfl, fun j => by rw [if_neg (by omega)]⟩
      | succ d ih =>
        intro nf i μ g0 g1 g2
        obtain ⟨nf, rfl⟩ : ∃ m, nf = m + 1 := ⟨nf - 1, by omega⟩
        rw [f_Hi_learnFrom_L8, if_neg (by omega)]
        simp (disch := omega) only [z_ck, z_ld, z_mx, z_st, show o + 4 + 8 = o + 12 from rfl]
        obtain ⟨v, hv⟩ : ∃ v, v = if q_g μ (o + 12) (e * 5 + i) < q_g μ (o + 12) (snt * 5 + i) then q_g μ (o + 12) (snt * 5 + i) else q_g μ (o + 12) (e * 5 + i) := ⟨_, rfl⟩
        rw [← hv]
        obtain ⟨μ', c1, c2, c3⟩ := ih nf (i + 1) (q_x μ (o + 12) (e * 5 + i) v) (by omega) (by omega) (by omega)
        refine ⟨μ', c1, fun k hk => by rw [c2 k hk, g_sn hk], fun j => ?_⟩
        rw [c3, g_s (by omega)]
        by_cases k : j = e * 5 + i
        · rw [if_neg (by omega), if_pos (by omega), k, u_s, hv, show e * 5 + i - e * 5 = i by omega]
        · rw [u_n k]
          by_cases l : e * 5 + i ≤ j ∧ j < e * 5 + 5
          · rw [if_pos (by omega), if_pos l, u_n (by omega)]
          · rw [if_neg (by omega), if_neg l]
    obtain ⟨μ', c1, c2, c3⟩ := key 5 N 0 μ (by omega) (by omega) (by omega)
    refine ⟨μ', c1, c2, fun j => ?_⟩
    rw [c3]
    by_cases l : e * 5 ≤ j ∧ j < e * 5 + 5
    · rw [if_pos (show e * 5 + 0 ≤ j ∧ j < e * 5 + 5 by omega), if_pos (show snt ≠ -1 ∧ e * 5 ≤ j ∧ j < e * 5 + 5 from ⟨g, l⟩)]
    · rw [if_neg (by omega), if_neg (fun h => l h.2)]
