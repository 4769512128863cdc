/-! the model lays its edges -/
theorem z_findBounds {N : Nat} {n K subj st most : Int} {S T R V : Int → Int} {μ : q_M} (hN : 1000 ≤ N) (hB : ruB n K S T R V) (hm : 0 ≤ most ∧ most ≤ 100000) (h6 : q_g μ 0 6 = K) (h4 : q_g μ 4 = S) (h5 : q_g μ 5 = T) (h7 : q_g μ 6 = R) (h8 : q_g μ 7 = V) : ∃ μ', f_M_findBounds N subj st most μ = some μ' ∧ (∀ k, k ≠ 0 → q_g μ' k = q_g μ k) ∧ (∀ j, j ≠ 23 → j ≠ 24 → q_g μ' 0 j = q_g μ 0 j) ∧ q_g μ' 0 23 = fL S T R V subj st K.toNat ∧ q_g μ' 0 24 = fH S T R V subj st most K.toNat := by
  have hK := hB.1
  have lp : ∀ (d nf : Nat) (i : Int) (ν : q_M), i + d = K → 0 ≤ i → d < nf → (∀ k, k ≠ 0 → q_g ν k = q_g μ k) → (∀ j, j ≠ 23 → j ≠ 24 → q_g ν 0 j = q_g μ 0 j) → q_g ν 0 23 = fL S T R V subj st i.toNat → q_g ν 0 24 = fH S T R V subj st most i.toNat → ∃ μ', f_M_findBounds_L13 subj st (fun μ5 => some μ5) nf i ν = some μ' ∧ (∀ k, k ≠ 0 → q_g μ' k = q_g μ k) ∧ (∀ j, j ≠ 23 → j ≠ 24 → q_g μ' 0 j = q_g μ 0 j) ∧ q_g μ' 0 23 = fL S T R V subj st K.toNat ∧ q_g μ' 0 24 = fH S T R V subj st most K.toNat := by
    intro d
    induction d with
    | zero =>
      intro nf i ν h1 h2 h3 f1 f2 f3 f4
      obtain ⟨nf, rfl⟩ : ∃ m, nf = m + 1 := ⟨nf - 1, by omega⟩
      have e : i = K := by omega
      rw [e] at f3 f4
      exact ⟨ν, by rw [f_M_findBounds_L13, z_fl, Int.cast_ofNat_Int, f2 6 (by omega) (by omega), h6, if_pos (by omega)], f1, f2, f3, f4⟩
    | succ d ih =>
      intro nf i ν h1 h2 h3 f1 f2 f3 f4
      obtain ⟨nf, rfl⟩ : ∃ m, nf = m + 1 := ⟨nf - 1, by omega⟩
      obtain ⟨bS, bT, bR, bV⟩ := hB.2 i h2 (by omega)
      have n4 : q_g ν 4 = S := by rw [f1 4 (by omega), h4]
      have n5 : q_g ν 5 = T := by rw [f1 5 (by omega), h5]
      have n6 : q_g ν 6 = R := by rw [f1 6 (by omega), h7]
      have n7 : q_g ν 7 = V := by rw [f1 7 (by omega), h8]
      have hi1 : (i + 1).toNat = i.toNat + 1 := by omega
      have hii : ((i.toNat : Nat) : Int) = i := by omega
      rw [f_M_findBounds_L13, z_fl, Int.cast_ofNat_Int, f2 6 (by omega) (by omega), h6, if_neg (by omega), z_ld h2 (by omega), n4]
      simp only [z_jn]
      -- once low and high are known
      have step : ∀ lo hi, lo = fL S T R V subj st (i.toNat + 1) → hi = fH S T R V subj st most (i.toNat + 1) → ∃ μ', f_M_findBounds_L13 subj st (fun μ5 => some μ5) nf (i + 1) (q_x (q_x ν 0 23 lo) 0 24 hi) = some μ' ∧ (∀ k, k ≠ 0 → q_g μ' k = q_g μ k) ∧ (∀ j, j ≠ 23 → j ≠ 24 → q_g μ' 0 j = q_g μ 0 j) ∧ q_g μ' 0 23 = fL S T R V subj st K.toNat ∧ q_g μ' 0 24 = fH S T R V subj st most K.toNat := by
        intro lo hi e1 e2
        refine ih nf (i + 1) _ (by omega) (by omega) (by omega) (fun k hk => by rw [g_sn hk, g_sn hk, f1 k hk]) (fun j j1 j2 => by rw [g_s (by omega), u_n j2, g_s (by omega), u_n j1, f2 j j1 j2]) ?_ ?_
        · rw [g_s (by omega), u_n (by omega), g_s (by omega), u_s, hi1, e1]
        · rw [g_s (by omega), u_s, hi1, e2]
      have high : ∀ (x8 lo : Int), ((x8 = 1 ∧ S i = subj ∧ T i = st) ∨ (x8 = 0 ∧ ¬ (S i = subj ∧ T i = st))) → lo = fL S T R V subj st (i.toNat + 1) → ∃ μ', (q_fs ν 0 23 lo fun μ10 => if x8 = 0 then q_fl μ10 0 24 fun x14 => q_fs μ10 0 24 x14 fun μ12 => q_ck (i + 1) fun x13 => f_M_findBounds_L13 subj st (fun μ5 => some μ5) nf x13 μ12 else q_ld μ10 6 12 i fun x15 => if x15 = 1 then q_fl μ10 0 24 fun x14 => q_fs μ10 0 24 x14 fun μ12 => q_ck (i + 1) fun x13 => f_M_findBounds_L13 subj st (fun μ5 => some μ5) nf x13 μ12 else q_ld μ10 7 12 i fun x16 => q_fl μ10 0 24 fun x17 => if x17 ≤ x16 then q_fl μ10 0 24 fun x14 => q_fs μ10 0 24 x14 fun μ12 => q_ck (i + 1) fun x13 => f_M_findBounds_L13 subj st (fun μ5 => some μ5) nf x13 μ12 else q_ld μ10 7 12 i fun x18 => q_fs μ10 0 24 x18 fun μ12 => q_ck (i + 1) fun x13 => f_M_findBounds_L13 subj st (fun μ5 => some μ5) nf x13 μ12) = some μ' ∧ (∀ k, k ≠ 0 → q_g μ' k = q_g μ k) ∧ (∀ j, j ≠ 23 → j ≠ 24 → q_g μ' 0 j = q_g μ 0 j) ∧ q_g μ' 0 23 = fL S T R V subj st K.toNat ∧ q_g μ' 0 24 = fH S T R V subj st most K.toNat := by
        intro x8 lo hx8 hlo
        rw [z_fs, Int.cast_ofNat_Int]
        have keep : fH S T R V subj st most (i.toNat + 1) = fH S T R V subj st most i.toNat → ∃ μ', (q_fl (q_x ν 0 23 lo) 0 24 fun x14 => q_fs (q_x ν 0 23 lo) 0 24 x14 fun μ12 => q_ck (i + 1) fun x13 => f_M_findBounds_L13 subj st (fun μ5 => some μ5) nf x13 μ12) = some μ' ∧ (∀ k, k ≠ 0 → q_g μ' k = q_g μ k) ∧ (∀ j, j ≠ 23 → j ≠ 24 → q_g μ' 0 j = q_g μ 0 j) ∧ q_g μ' 0 23 = fL S T R V subj st K.toNat ∧ q_g μ' 0 24 = fH S T R V subj st most K.toNat := by
          intro hk
          rw [z_fl, z_fs, z_ck (by omega) (by omega)]
          simp only [Int.cast_ofNat_Int]
          rw [g_s (by omega), u_n (by omega), f4]
          exact step _ _ hlo hk.symm
        have hs := fH_s (S := S) (T := T) (R := R) (V := V) (subj := subj) (st := st) (most := most) (k := i.toNat)
        rw [hii] at hs
        rcases hx8 with ⟨rfl, hS, hT⟩ | ⟨rfl, hST⟩
        · rw [if_neg (by decide), z_ld h2 (by omega), g_sn (by omega), n6]
          by_cases g : R i = 1
          · rw [if_pos g]
            exact keep (by rw [hs, if_neg (fun q => q.2.1 g)])
          · rw [if_neg g, z_ld h2 (by omega), g_sn (by omega), n7, z_fl, Int.cast_ofNat_Int, g_s (by omega), u_n (by omega), f4]
            by_cases g2 : fH S T R V subj st most i.toNat ≤ V i
            · rw [if_pos g2]
              exact keep (by rw [hs, if_neg (fun q => by omega)])
            · rw [if_neg g2, z_ld h2 (by omega), g_sn (by omega), n7, z_fs, z_ck (by omega) (by omega)]
              exact step _ _ hlo (by rw [hs, if_pos ⟨⟨hS, hT⟩, g, by omega⟩])
        · rw [if_pos rfl]
          exact keep (by rw [hs, if_neg (fun q => hST q.1)])
      have low : ∀ x8 : Int, ((x8 = 1 ∧ S i = subj ∧ T i = st) ∨ (x8 = 0 ∧ ¬ (S i = subj ∧ T i = st))) → ∃ lo, lo = fL S T R V subj st (i.toNat + 1) ∧ ∀ J : Int → Option q_M, (if x8 = 0 then q_fl ν 0 23 fun x22 => J x22 else q_ld ν 6 12 i fun x23 => if x23 ≤ 0 then q_fl ν 0 23 fun x22 => J x22 else q_ld ν 7 12 i fun x24 => q_fl ν 0 23 fun x25 => if x24 ≤ x25 then q_fl ν 0 23 fun x22 => J x22 else q_ld ν 7 12 i fun x26 => J x26) = J lo := by
        intro x8 hx8
        have hs := fL_s (S := S) (T := T) (R := R) (V := V) (subj := subj) (st := st) (k := i.toNat)
        rw [hii] at hs
        refine ⟨_, rfl, fun J => ?_⟩
        rcases hx8 with ⟨rfl, hS, hT⟩ | ⟨rfl, hST⟩
        · rw [if_neg (by decide), z_ld h2 (by omega), n6]
          by_cases g : R i ≤ 0
          · rw [if_pos g, z_fl, Int.cast_ofNat_Int, f3, hs, if_neg (fun q => by omega)]
          · rw [if_neg g, z_ld h2 (by omega), n7, z_fl, Int.cast_ofNat_Int, f3]
            by_cases g2 : V i ≤ fL S T R V subj st i.toNat
            · rw [if_pos g2, z_fl, Int.cast_ofNat_Int, f3, hs, if_neg (fun q => by omega)]
            · rw [if_neg g2, z_ld h2 (by omega), n7, hs, if_pos ⟨⟨hS, hT⟩, by omega, by omega⟩]
        · rw [if_pos rfl, z_fl, Int.cast_ofNat_Int, f3, hs, if_neg (fun q => hST q.1)]
      have go : ∀ x8 : Int, ((x8 = 1 ∧ S i = subj ∧ T i = st) ∨ (x8 = 0 ∧ ¬ (S i = subj ∧ T i = st))) → ∃ μ', (if x8 = 0 then q_fl ν 0 23 fun x22 => (q_fs ν 0 23 x22 fun μ10 => if x8 = 0 then q_fl μ10 0 24 fun x14 => q_fs μ10 0 24 x14 fun μ12 => q_ck (i + 1) fun x13 => f_M_findBounds_L13 subj st (fun μ5 => some μ5) nf x13 μ12 else q_ld μ10 6 12 i fun x15 => if x15 = 1 then q_fl μ10 0 24 fun x14 => q_fs μ10 0 24 x14 fun μ12 => q_ck (i + 1) fun x13 => f_M_findBounds_L13 subj st (fun μ5 => some μ5) nf x13 μ12 else q_ld μ10 7 12 i fun x16 => q_fl μ10 0 24 fun x17 => if x17 ≤ x16 then q_fl μ10 0 24 fun x14 => q_fs μ10 0 24 x14 fun μ12 => q_ck (i + 1) fun x13 => f_M_findBounds_L13 subj st (fun μ5 => some μ5) nf x13 μ12 else q_ld μ10 7 12 i fun x18 => q_fs μ10 0 24 x18 fun μ12 => q_ck (i + 1) fun x13 => f_M_findBounds_L13 subj st (fun μ5 => some μ5) nf x13 μ12) else q_ld ν 6 12 i fun x23 => if x23 ≤ 0 then q_fl ν 0 23 fun x22 => (q_fs ν 0 23 x22 fun μ10 => if x8 = 0 then q_fl μ10 0 24 fun x14 => q_fs μ10 0 24 x14 fun μ12 => q_ck (i + 1) fun x13 => f_M_findBounds_L13 subj st (fun μ5 => some μ5) nf x13 μ12 else q_ld μ10 6 12 i fun x15 => if x15 = 1 then q_fl μ10 0 24 fun x14 => q_fs μ10 0 24 x14 fun μ12 => q_ck (i + 1) fun x13 => f_M_findBounds_L13 subj st (fun μ5 => some μ5) nf x13 μ12 else q_ld μ10 7 12 i fun x16 => q_fl μ10 0 24 fun x17 => if x17 ≤ x16 then q_fl μ10 0 24 fun x14 => q_fs μ10 0 24 x14 fun μ12 => q_ck (i + 1) fun x13 => f_M_findBounds_L13 subj st (fun μ5 => some μ5) nf x13 μ12 else q_ld μ10 7 12 i fun x18 => q_fs μ10 0 24 x18 fun μ12 => q_ck (i + 1) fun x13 => f_M_findBounds_L13 subj st (fun μ5 => some μ5) nf x13 μ12) else q_ld ν 7 12 i fun x24 => q_fl ν 0 23 fun x25 => if x24 ≤ x25 then q_fl ν 0 23 fun x22 => (q_fs ν 0 23 x22 fun μ10 => if x8 = 0 then q_fl μ10 0 24 fun x14 => q_fs μ10 0 24 x14 fun μ12 => q_ck (i + 1) fun x13 => f_M_findBounds_L13 subj st (fun μ5 => some μ5) nf x13 μ12 else q_ld μ10 6 12 i fun x15 => if x15 = 1 then q_fl μ10 0 24 fun x14 => q_fs μ10 0 24 x14 fun μ12 => q_ck (i + 1) fun x13 => f_M_findBounds_L13 subj st (fun μ5 => some μ5) nf x13 μ12 else q_ld μ10 7 12 i fun x16 => q_fl μ10 0 24 fun x17 => if x17 ≤ x16 then q_fl μ10 0 24 fun x14 => q_fs μ10 0 24 x14 fun μ12 => q_ck (i + 1) fun x13 => f_M_findBounds_L13 subj st (fun μ5 => some μ5) nf x13 μ12 else q_ld μ10 7 12 i fun x18 => q_fs μ10 0 24 x18 fun μ12 => q_ck (i + 1) fun x13 => f_M_findBounds_L13 subj st (fun μ5 => some μ5) nf x13 μ12) else q_ld ν 7 12 i fun x26 => (q_fs ν 0 23 x26 fun μ10 => if x8 = 0 then q_fl μ10 0 24 fun x14 => q_fs μ10 0 24 x14 fun μ12 => q_ck (i + 1) fun x13 => f_M_findBounds_L13 subj st (fun μ5 => some μ5) nf x13 μ12 else q_ld μ10 6 12 i fun x15 => if x15 = 1 then q_fl μ10 0 24 fun x14 => q_fs μ10 0 24 x14 fun μ12 => q_ck (i + 1) fun x13 => f_M_findBounds_L13 subj st (fun μ5 => some μ5) nf x13 μ12 else q_ld μ10 7 12 i fun x16 => q_fl μ10 0 24 fun x17 => if x17 ≤ x16 then q_fl μ10 0 24 fun x14 => q_fs μ10 0 24 x14 fun μ12 => q_ck (i + 1) fun x13 => f_M_findBounds_L13 subj st (fun μ5 => some μ5) nf x13 μ12 else q_ld μ10 7 12 i fun x18 => q_fs μ10 0 24 x18 fun μ12 => q_ck (i + 1) fun x13 => f_M_findBounds_L13 subj st (fun μ5 => some μ5) nf x13 μ12)) = some μ' ∧ (∀ k, k ≠ 0 → q_g μ' k = q_g μ k) ∧ (∀ j, j ≠ 23 → j ≠ 24 → q_g μ' 0 j = q_g μ 0 j) ∧ q_g μ' 0 23 = fL S T R V subj st K.toNat ∧ q_g μ' 0 24 = fH S T R V subj st most K.toNat := by
        intro x8 hx8
        obtain ⟨lo, e1, e2⟩ := low x8 hx8
        have := e2 (fun x9 => q_fs ν 0 23 x9 fun μ10 => if x8 = 0 then q_fl μ10 0 24 fun x14 => q_fs μ10 0 24 x14 fun μ12 => q_ck (i + 1) fun x13 => f_M_findBounds_L13 subj st (fun μ5 => some μ5) nf x13 μ12 else q_ld μ10 6 12 i fun x15 => if x15 = 1 then q_fl μ10 0 24 fun x14 => q_fs μ10 0 24 x14 fun μ12 => q_ck (i + 1) fun x13 => f_M_findBounds_L13 subj st (fun μ5 => some μ5) nf x13 μ12 else q_ld μ10 7 12 i fun x16 => q_fl μ10 0 24 fun x17 => if x17 ≤ x16 then q_fl μ10 0 24 fun x14 => q_fs μ10 0 24 x14 fun μ12 => q_ck (i + 1) fun x13 => f_M_findBounds_L13 subj st (fun μ5 => some μ5) nf x13 μ12 else q_ld μ10 7 12 i fun x18 => q_fs μ10 0 24 x18 fun μ12 => q_ck (i + 1) fun x13 => f_M_findBounds_L13 subj st (fun μ5 => some μ5) nf x13 μ12)
        obtain ⟨μ', c1, c2⟩ := high x8 lo hx8 e1
        exact ⟨μ', this.trans c1, c2⟩
      by_cases g1 : S i = subj
      · rw [if_pos g1, z_ld h2 (by omega), n5]
        by_cases g2 : T i = st
        · rw [if_pos g2]
          exact go 1 (Or.inl ⟨rfl, g1, g2⟩)
        · rw [if_neg g2]
          exact go 0 (Or.inr ⟨rfl, fun q => g2 q.2⟩)
      · rw [if_neg g1]
        exact go 0 (Or.inr ⟨rfl, fun q => g1 q.1⟩)
  unfold f_M_findBounds
  rw [z_fs, z_fs]
  simp only [Int.cast_ofNat_Int]
  exact lp K.toNat N 0 _ (by omega) (by omega) (by omega) (fun k hk => by rw [g_sn hk, g_sn hk]) (fun j j1 j2 => by rw [g_s (by omega), u_n j2, g_s (by omega), u_n j1]) (by rw [g_s (by omega), u_n (by omega), g_s (by omega), u_s]; rfl) (by rw [g_s (by omega), u_s]; rfl)
