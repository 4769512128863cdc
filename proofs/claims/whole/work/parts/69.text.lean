/-- a memory of the class whose text is the model's -/
def tx (μM ν : q_M) : Prop := q_g ν 47 0 = q_g μM 0 4 ∧ (0 ≤ q_g μM 0 4 ∧ q_g μM 0 4 ≤ 20) ∧ ∀ i, 0 ≤ i → i < q_g μM 0 4 → q_g ν 48 i = q_g μM 3 i ∧ 0 ≤ q_g μM 3 i ∧ q_g μM 3 i < 65536
theorem tx_x {μM ν : q_M} {j v : Int} (h : tx μM ν) (hj : 1 ≤ j) : tx μM (q_x ν 47 j v) := by
  unfold tx at h ⊢
  rw [g_s (by omega), u_n (by omega), g_sn (by omega)]
  exact h
theorem chr_bd {μM ν : q_M} {i : Int} (h : tx μM ν) (hi : 0 ≤ i) : -1 ≤ chr μM i ∧ chr μM i < 65536 := by
  unfold chr
  by_cases g : i < q_g μM 0 4
  · rw [if_pos g]
    have := (h.2.2 i hi g).2
    omega
  · rw [if_neg g]
    omega
theorem z_characterAt {μM ν : q_M} {i : Int} (h : tx μM ν) (hi : 0 ≤ i) : f_RT_characterAt i ν = some (chr μM i) := by
  obtain ⟨h1, h2, h3⟩ := h
  unfold f_RT_characterAt chr
  rw [z_fl, Int.cast_ofNat_Int, h1, z_ck (by omega) (by omega), z_within, z_b, z_jn]
  simp only [z_bz]
  by_cases g : i < q_g μM 0 4
  · rw [if_pos g, if_neg (by omega), z_ld (by omega) (by omega), (h3 i hi g).1]
  · rw [if_neg g, if_pos (by omega)]
theorem z_isAt {μM ν : q_M} {i c : Int} (h : tx μM ν) (hi : 0 ≤ i) (hc : 0 ≤ c) : f_M_isAt i c μM = some (bi (decide (chr μM i = c))) := by
  obtain ⟨h1, h2, h3⟩ := h
  unfold f_M_isAt chr
  simp only [z_fl, Int.cast_ofNat_Int, z_jn, z_rz0, z_rz1]
  by_cases g : i < q_g μM 0 4
  · rw [if_neg (by omega), if_pos g, z_ld (by omega) (by omega)]
    by_cases e : q_g μM 3 i = c
    · rw [if_pos e, decide_eq_true e]; rfl
    · rw [if_neg e, decide_eq_false e]; rfl
  · rw [if_pos (by omega), if_neg g, decide_eq_false (by omega)]; rfl
theorem z_isDigitAt {μM ν : q_M} {i : Int} (h : tx μM ν) (hi : 0 ≤ i) : f_M_isDigitAt i μM = some (bi (decide (48 ≤ chr μM i ∧ chr μM i ≤ 57))) := by
  obtain ⟨h1, h2, h3⟩ := h
  unfold f_M_isDigitAt chr
  simp only [z_fl, Int.cast_ofNat_Int, z_jn, z_rz0, z_rz1]
  by_cases g : i < q_g μM 0 4
  · rw [if_neg (by omega), if_pos g, z_ld (by omega) (by omega), z_ld (by omega) (by omega)]
    by_cases e : q_g μM 3 i < 48
    · rw [if_pos e, decide_eq_false (by omega)]; rfl
    · rw [if_neg e]
      by_cases e2 : 57 < q_g μM 3 i
      · rw [if_pos e2, decide_eq_false (by omega)]; rfl
      · rw [if_neg e2, decide_eq_true (by omega)]; rfl
  · rw [if_pos (by omega), if_neg g, decide_eq_false (by omega)]; rfl
theorem z_numC {α : Type} {a : Int} {K : Int → q_M → Option (Int × q_M)} {μM : q_M} (ha : 0 ≤ a) (ha' : a ≤ 10) : ∀ (d nf : Nat) (i v : Int) (ν : q_M), tx μM ν → 0 ≤ i → i + d = a + 4 → d < nf → q_g ν 47 5 = v → 0 ≤ v → (v + 1) * p10 d ≤ 10000 → ∃ ν', f_RT_readNumber_L7 a K nf i ν = K (rd (chr μM) d i v).1 ν' ∧ tx μM ν' ∧ (∀ k, k ≠ 47 → q_g ν' k = q_g ν k) ∧ (∀ j, j ≠ 5 → q_g ν' 47 j = q_g ν 47 j) ∧ q_g ν' 47 5 = (rd (chr μM) d i v).2 := by
  intro d
  induction d with
  | zero =>
    intro nf i v ν ht h0 h1 h2 h5 h6 h7
    obtain ⟨nf, rfl⟩ : ∃ m, nf = m + 1 := ⟨nf - 1, by omega⟩
    exact ⟨ν, by rw [f_RT_readNumber_L7, z_ck (by omega) (by omega), if_pos (by omega)]; rfl, ht, fun _ _ => rfl, fun _ _ => rfl, h5⟩
  | succ d ih =>
    intro nf i v ν ht h0 h1 h2 h5 h6 h7
    obtain ⟨nf, rfl⟩ : ∃ m, nf = m + 1 := ⟨nf - 1, by omega⟩
    have hv := p10_v h6 (p10_1 (d + 1)) h7
    have hp := p10_1 d
    rw [f_RT_readNumber_L7, z_ck (by omega) (by omega), if_neg (by omega), z_characterAt ht h0, z_b, z_within, z_b]
    simp only [z_bz]
    unfold rd
    by_cases g : 48 ≤ chr μM i ∧ chr μM i ≤ 57
    · have e : (v * 10 + chr μM i - 48 + 1) * p10 d ≤ (10 * (v + 1)) * p10 d := Int.mul_le_mul_of_nonneg_right (by omega) (by omega)
      have e2 : (10 * (v + 1)) * p10 d = (v + 1) * p10 (d + 1) := by
        rw [show p10 (d + 1) = 10 * p10 d from rfl, Int.mul_comm 10 (v + 1), Int.mul_assoc]
      rw [if_neg (not_not_intro g), if_pos g, z_fl, Int.cast_ofNat_Int, h5, z_ck (by omega) (by omega), z_b, z_ck (by omega) (by omega), z_ck (by omega) (by omega), z_fs, Int.cast_ofNat_Int, z_ck (by omega) (by omega)]
      obtain ⟨ν', c1, c2, c3, c4, c5⟩ := ih nf (i + 1) (v * 10 + chr μM i - 48) (q_x ν 47 5 (v * 10 + chr μM i - 48)) (tx_x ht (by omega)) (by omega) (by omega) (by omega) (by rw [g_s (by omega), u_s]) (by omega) (by omega)
      exact ⟨ν', c1, c2, fun k hk => by rw [c3 k hk, g_sn hk], fun j hj => by rw [c4 j hj, g_s (by omega), u_n hj], c5⟩
    · rw [if_pos g, if_neg g]
      exact ⟨ν, rfl, ht, fun _ _ => rfl, fun _ _ => rfl, h5⟩
theorem z_numM {K : Int → Int → Int → Option (Int × q_M)} {μM ν : q_M} (ht : tx μM ν) : ∀ (d nf : Nat) (i n v : Int), 0 ≤ i → i ≤ 100 → n + d = 4 → 0 ≤ n → d < nf → 0 ≤ v → (v + 1) * p10 d ≤ 10000 → f_M_addRule_L144 μM K nf i n v = K (rd (chr μM) d i v).1 (n + ((rd (chr μM) d i v).1 - i)) (rd (chr μM) d i v).2 := by
  intro d
  induction d with
  | zero =>
    intro nf i n v h0 h1 h2 h3 h4 h5 h6
    obtain ⟨nf, rfl⟩ : ∃ m, nf = m + 1 := ⟨nf - 1, by omega⟩
    rw [f_M_addRule_L144, if_pos (by omega)]
    simp only [rd]
    rw [show n + (i - i) = n by omega]
  | succ d ih =>
    intro nf i n v h0 h1 h2 h3 h4 h5 h6
    obtain ⟨nf, rfl⟩ : ∃ m, nf = m + 1 := ⟨nf - 1, by omega⟩
    have hv := p10_v h5 (p10_1 (d + 1)) h6
    have hp := p10_1 d
    rw [f_M_addRule_L144, if_neg (by omega), z_isDigitAt ht h0, z_b]
    simp only [z_bib, rd]
    by_cases g : 48 ≤ chr μM i ∧ chr μM i ≤ 57
    · have e : (v * 10 + chr μM i - 48 + 1) * p10 d ≤ (10 * (v + 1)) * p10 d := Int.mul_le_mul_of_nonneg_right (by omega) (by omega)
      have e2 : (10 * (v + 1)) * p10 d = (v + 1) * p10 (d + 1) := by
        rw [show p10 (d + 1) = 10 * p10 d from rfl, Int.mul_comm 10 (v + 1), Int.mul_assoc]
      have hl : i < q_g μM 0 4 := by
        unfold chr at g
        by_cases l : i < q_g μM 0 4
        · exact l
        · rw [if_neg l] at g; omega
      have hc : q_g μM 3 i = chr μM i := (if_pos hl).symm
      have hl2 := ht.2.1
      rw [decide_eq_true g, if_neg (by decide), if_pos g, z_ck (by omega) (by omega), z_ld (by omega) (by omega), hc, z_ck (by omega) (by omega), z_ck (by omega) (by omega), z_ck (by omega) (by omega), z_ck (by omega) (by omega), show 10 * v + chr μM i - 48 = v * 10 + chr μM i - 48 by omega, ih nf (i + 1) (n + 1) (v * 10 + chr μM i - 48) (by omega) (by omega) (by omega) (by omega) (by omega) (by omega) (by omega)]
      congr 1
      omega
    · rw [decide_eq_false g, if_pos rfl, if_neg g]
      simp only
      rw [show n + (i - i) = n by omega]
