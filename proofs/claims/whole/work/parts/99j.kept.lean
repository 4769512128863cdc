/-! apply: the messages that stay in their channels -/
def kp (w : Int → Int) (i : Nat) : Int := cnt (tran w) 0 i
def sl (w : Int → Int) : Nat → Int → Int
  | 0, _ => 0
  | i + 1, k => if tran w i = true ∧ k = kp w i then i else sl w i k
theorem kp_s {w : Int → Int} {i : Nat} : kp w (i + 1) = kp w i + bi (tran w i) := by
  unfold kp cnt
  rw [sm_last, Int.zero_add]
theorem kp_bd {w : Int → Int} {i : Nat} : 0 ≤ kp w i ∧ kp w i ≤ i := cnt_bd
theorem sl_s {w : Int → Int} {i : Nat} {k : Int} : sl w (i + 1) k = if tran w i = true ∧ k = kp w i then (i : Int) else sl w i k := rfl
theorem sl_ok {w : Int → Int} : ∀ (i : Nat) (k : Int), 0 ≤ k → k < kp w i → 0 ≤ sl w i k ∧ sl w i k < i ∧ tran w (sl w i k) = true
  | 0, k, h0, h1 => by
    have : kp w 0 = 0 := rfl
    omega
  | i + 1, k, h0, h1 => by
    rw [kp_s] at h1
    rw [sl_s]
    by_cases g : tran w i = true
    · by_cases e : k = kp w i
      · rw [if_pos ⟨g, e⟩]
        exact ⟨by omega, by omega, g⟩
      · rw [if_neg (fun q => e q.2)]
        rw [g] at h1
        have := sl_ok (w := w) i k h0 (by simp [bi] at h1; omega)
        exact ⟨this.1, by omega, this.2.2⟩
    · rw [if_neg (fun q => g q.1)]
      have hf : tran w i = false := by simpa using g
      rw [hf] at h1
      have := sl_ok (w := w) i k h0 (by simp [bi] at h1; omega)
      exact ⟨this.1, by omega, this.2.2⟩
/-- the class's side -/
theorem begL10 {n c : Int} {w : Int → Int} {K : q_M → Option q_M} (hv : rv n w c) : ∀ (dd nf i : Nat) (μ : q_M), (i : Int) + dd = w 37 → dd < nf → rr_C 24 n μ w → q_g μ 15 0 = kp w i → (∀ k, 0 ≤ k → k < kp w i → q_g μ 16 k = mg w (sl w i k) 0 * 5 + mg w (sl w i k) 1 ∧ q_g μ 17 k = mg w (sl w i k) 2 ∧ q_g μ 18 k = mg w (sl w i k) 3 ∧ q_g μ 19 k = -1 ∧ q_g μ 20 k = -1) →
    ∃ μ', f_Wo_beginAfterCutOf_L10 1 24 K nf i μ = K μ' ∧ (∀ k, k < 15 ∨ 20 < k → q_g μ' k = q_g μ k) ∧ q_g μ' 15 0 = kp w (w 37).toNat ∧ ∀ k, 0 ≤ k → k < kp w (w 37).toNat → q_g μ' 16 k = mg w (sl w (w 37).toNat k) 0 * 5 + mg w (sl w (w 37).toNat k) 1 ∧ q_g μ' 17 k = mg w (sl w (w 37).toNat k) 2 ∧ q_g μ' 18 k = mg w (sl w (w 37).toNat k) 3 ∧ q_g μ' 19 k = -1 ∧ q_g μ' 20 k = -1 := by
  have hl := hv.2.2.2.1
  intro dd
  induction dd with
  | zero =>
    intro nf i μ h1 h2 hr hk hs
    obtain ⟨nf, rfl⟩ : ∃ m, nf = m + 1 := ⟨nf - 1, by omega⟩
    have e : (w 37).toNat = i := by omega
    rw [e]
    have h38 : q_g μ 38 0 = w 37 := hr.2.2.2.2.2.2.2.2.1
    exact ⟨μ, by rw [f_Wo_beginAfterCutOf_L10, z_fl, Int.cast_ofNat_Int, show 24 + 14 = 38 from rfl, h38, if_pos (by omega)], fun _ _ => rfl, hk, hs⟩
  | succ dd ih =>
    intro nf i μ h1 h2 hr hk hs
    obtain ⟨nf, rfl⟩ : ∃ m, nf = m + 1 := ⟨nf - 1, by omega⟩
    have h38 : q_g μ 38 0 = w 37 := hr.2.2.2.2.2.2.2.2.1
    obtain ⟨m0, m1, m2, -, -⟩ := hr.2.2.2.2.2.2.2.2.2.2.2 i (by omega) (by omega)
    have hb := kp_bd (w := w) (i := i)
    rw [f_Wo_beginAfterCutOf_L10, z_fl, Int.cast_ofNat_Int, show 24 + 14 = 38 from rfl, h38, if_neg (by omega), z_crossesCut hr hv (by omega) (by omega), z_b]
    simp only [z_jn, z_bib]
    cases g : tran w i with
    | false =>
      rw [if_pos rfl, z_ck (by omega) (by omega)]
      have e1 : kp w (i + 1) = kp w i := by rw [kp_s, g]; show kp w i + 0 = _; omega
      obtain ⟨μ', a1, a2⟩ := ih nf (i + 1) μ (by omega) (by omega) hr (by rw [e1]; exact hk) (fun k k0 k1 => by
        rw [sl_s, if_neg (fun q => by rw [g] at q; exact Bool.false_ne_true q.1)]
        exact hs k k0 (by omega))
      exact ⟨μ', a1, a2⟩
    | true =>
      have e1 : kp w (i + 1) = kp w i + 1 := by rw [kp_s, g]; rfl
      rw [if_neg (by decide), z_ld (by omega) (by omega), z_ld (by omega) (by omega), z_ld (by omega) (by omega), m0, m1, m2]
      unfold f_Ch_put
      rw [z_fl, Int.cast_ofNat_Int, show 1 + 14 = 15 from rfl, hk, z_st (by omega) (by omega), z_st (by omega) (by omega), z_st (by omega) (by omega), z_st (by omega) (by omega), z_st (by omega) (by omega), z_fl, Int.cast_ofNat_Int, g_sn (by omega), g_sn (by omega), g_sn (by omega), g_sn (by omega), g_sn (by omega), hk, z_ck (by omega) (by omega), z_fs, Int.cast_ofNat_Int, z_b2, z_ck (by omega) (by omega)]
      obtain ⟨μ', a1, a2, a3, a4⟩ := ih nf (i + 1) (q_x (q_x (q_x (q_x (q_x (q_x μ 16 (kp w i) (mg w i 0 * 5 + mg w i 1)) 17 (kp w i) (mg w i 2)) 18 (kp w i) (mg w i 3)) 19 (kp w i) (-1)) 20 (kp w i) (-1)) 15 0 (kp w i + 1)) (by omega) (by omega) (rr_frame hr (fun k k1 k2 => by rw [g_sn (by omega), g_sn (by omega), g_sn (by omega), g_sn (by omega), g_sn (by omega), g_sn (by omega)])) (by rw [g_s (by omega), u_s, e1]) (fun k k0 k1 => by
        simp (disch := omega) only [g_s, g_sn]
        rw [sl_s, g]
        by_cases e : k = kp w i
        · rw [e, u_s, u_s, u_s, u_s, u_s, if_pos ⟨rfl, rfl⟩]
          exact ⟨rfl, rfl, rfl, rfl, rfl⟩
        · rw [u_n e, u_n e, u_n e, u_n e, u_n e, if_neg (fun q => e q.2)]
          exact hs k k0 (by omega))
      exact ⟨μ', a1, fun k hk => by rw [a2 k hk, g_sn (by omega), g_sn (by omega), g_sn (by omega), g_sn (by omega), g_sn (by omega), g_sn (by omega)], a3, a4⟩
/-- the model's side: what is read while messages move up -/
theorem z_isCut' {n c e : Int} {μ : q_M} {w : Int → Int} (hv : rv n w c) (hw : ∀ i, 0 ≤ i → i < 1264 → q_g μ 1 i = w i) (h0 : 0 ≤ e) (h1 : e < w 36) : f_M_isCut e μ = some (bi (cutE w e)) := by
  have hv' := hv
  obtain ⟨hn, -, hl, -, -, -, -, -, -, -, -, he, -⟩ := hv'
  have h2 := (he e h0 h1).1
  have a0 : ev (q_g μ 1) e 0 = ev w e 0 := hw _ (by omega) (by omega)
  have a6 : ev (q_g μ 1) e 6 = ev w e 6 := hw _ (by omega) (by omega)
  simp (disch := omega) only [f_M_isCut, z_ofEvent, z_b, z_ck, a0, a6, z_ld, z_jn, z_rz0, z_rz1]
  rw [hw _ (by omega) (by omega)]
  unfold cutE bi
  by_cases g : ev w e 6 < w (20 + ev w e 0)
  · rw [if_neg (by omega)]
    simp [g]
  · rw [if_pos (by omega)]
    simp [g]
theorem z_isInTransit' {n c m : Int} {μ : q_M} {w : Int → Int} (hv : rv n w c) (hw : ∀ i, 0 ≤ i → i < 1264 → q_g μ 1 i = w i) (h0 : 0 ≤ m) (h1 : m < w 37) (e4 : mg (q_g μ 1) m 4 = mg w m 4) (e5 : mg (q_g μ 1) m 5 = mg w m 5) : f_M_isInTransit m μ = some (bi (tran w m)) := by
  have hv' := hv
  obtain ⟨hn, -, hl, hcl, -, -, -, -, -, -, -, -, hm, -⟩ := hv'
  obtain ⟨-, -, -, -, -, m4, m5⟩ := hm m h0 h1
  simp (disch := omega) only [f_M_isInTransit, z_ofMessage, z_b, z_jn, z_rz0, z_rz1, e4, e5]
  unfold tran
  by_cases g4 : mg w m 4 < 0
  · by_cases g5 : mg w m 5 < 0
    · simp [g4, g5, bi]
    · rw [if_pos g4, if_neg g5, z_isCut' hv hw (by omega) (by omega)]
      simp only [z_b, z_bib, g4, g5]
      cases cutE w (mg w m 5) <;> simp [bi]
  · rw [if_neg g4, z_isCut' hv hw (by omega) (by omega)]
    by_cases g5 : mg w m 5 < 0
    · simp only [z_b, z_bib, g4, g5]
      cases cutE w (mg w m 4) <;> simp [bi]
    · rw [if_neg g5, z_isCut' hv hw (by omega) (by omega)]
      simp only [z_b, z_bib, g4, g5]
      cases cutE w (mg w m 5) <;> cases cutE w (mg w m 4) <;> simp [bi]
theorem movL72 {K : q_M → Option (Int × q_M)} {a m : Int} (ha : 0 ≤ a ∧ a < 600) (hm : 0 ≤ m ∧ m < 600) (ham : a ≤ m) {N : Nat} (hN : 1000 ≤ N) {μ : q_M} : ∃ μ', f_M_apply_L72 a m K N 0 μ = K μ' ∧ (∀ k, k ≠ 1 → q_g μ' k = q_g μ k) ∧ ∀ j, q_g μ' 1 j = if 1264 + 6 * a ≤ j ∧ j < 1264 + 6 * a + 4 then q_g μ 1 (j + 6 * (m - a)) else q_g μ 1 j := by
  by_cases e : a = m
  · -- nothing moves
    subst e
    have lp : ∀ (d nf : Nat) (i : Int), i + d = 4 → 0 ≤ i → d < nf → f_M_apply_L72 a a K nf i μ = K μ := by
      intro d
      induction d with
      | zero =>
        intro nf i h1 h2 h3
        obtain ⟨nf, rfl⟩ : ∃ m, nf = m + 1 := ⟨nf - 1, by omega⟩
        rw [f_M_apply_L72, if_pos (by omega)]
      | succ d ih =>
        intro nf i h1 h2 h3
        obtain ⟨nf, rfl⟩ : ∃ m, nf = m + 1 := ⟨nf - 1, by omega⟩
        rw [f_M_apply_L72, if_neg (by omega), z_ck (by omega) (by omega), z_ck (by omega) (by omega), z_ck (by omega) (by omega), z_ofMessage (by omega) (by omega) (by omega) (by omega), z_b, z_st (by omega) (by omega)]
        unfold mg
        rw [q_x_id (by omega), z_ck (by omega) (by omega)]
        exact ih nf (i + 1) (by omega) (by omega) (by omega)
    refine ⟨μ, lp 4 N 0 (by omega) (by omega) (by omega), fun _ _ => rfl, fun j => ?_⟩
    rw [show j + 6 * (a - a) = j by omega]
    by_cases g : 1264 + 6 * a ≤ j ∧ j < 1264 + 6 * a + 4
    · rw [if_pos g]
    · rw [if_neg g]
  · obtain ⟨μ', a1, -, a2, a3⟩ := lp_wr (F := fun nf i μ => f_M_apply_L72 a m K nf i μ) (E := K) (k := 1) (b := 4) (off := 1264 + 6 * a) (fun i => q_g μ 1 (1264 + 6 * m + i)) (fun ν => ∀ i, 0 ≤ i → i < 4 → q_g ν 1 (1264 + 6 * m + i) = q_g μ 1 (1264 + 6 * m + i)) (by omega) (by
      intro nf ν _
      show f_M_apply_L72 a m K (nf + 1) 4 ν = K ν
      rw [f_M_apply_L72, if_pos (by decide)]) (by
      intro nf i ν hP h0 h1
      refine ⟨?_, ?_⟩
      · show f_M_apply_L72 a m K (nf + 1) i ν = f_M_apply_L72 a m K nf (i + 1) (q_x ν 1 (1264 + 6 * a + i) (q_g μ 1 (1264 + 6 * m + i)))
        rw [f_M_apply_L72, if_neg (by omega), z_ck (by omega) (by omega), z_ck (by omega) (by omega), z_ck (by omega) (by omega), z_ofMessage (by omega) (by omega) (by omega) (by omega), z_b, z_st (by omega) (by omega), z_ck (by omega) (by omega)]
        unfold mg
        rw [hP i h0 h1]
      · intro i' h0' h1'
        rw [g_s (by omega), u_n (by omega)]
        exact hP i' h0' h1') 4 N 0 μ (by omega) (by omega) (by omega) (fun _ _ _ => rfl)
    refine ⟨μ', a1, a2, fun j => ?_⟩
    rw [a3]
    by_cases g : 1264 + 6 * a ≤ j ∧ j < 1264 + 6 * a + 4
    · rw [if_pos g, if_pos (by omega), show 1264 + 6 * m + (j - (1264 + 6 * a)) = j + 6 * (m - a) by omega]
    · rw [if_neg g, if_neg (by omega)]
theorem movL48 {N : Nat} {n c : Int} {w : Int → Int} {K : Int → q_M → Option (Int × q_M)} (hN : 1000 ≤ N) (hv : rv n w c) : ∀ (dd nf i : Nat) (μ : q_M), (i : Int) + dd = w 37 → dd < nf → (∀ j, 0 ≤ j → j < 1264 → q_g μ 1 j = w j) → (∀ m j, 0 ≤ m → m < w 37 → 4 ≤ j → j < 6 → mg (q_g μ 1) m j = mg w m j) → (∀ m j, (i : Int) ≤ m → m < w 37 → 0 ≤ j → j < 6 → mg (q_g μ 1) m j = mg w m j) → (∀ k j, 0 ≤ k → k < kp w i → 0 ≤ j → j < 4 → mg (q_g μ 1) k j = mg w (sl w i k) j) →
    ∃ μ', f_M_apply_L48 N K nf (kp w i) i μ = K (kp w (w 37).toNat) μ' ∧ (∀ k, k ≠ 1 → q_g μ' k = q_g μ k) ∧ (∀ j, 0 ≤ j → j < 1264 → q_g μ' 1 j = w j) ∧ ∀ k j, 0 ≤ k → k < kp w (w 37).toNat → 0 ≤ j → j < 4 → mg (q_g μ' 1) k j = mg w (sl w (w 37).toNat k) j := by
  have hl := hv.2.2.2.1
  intro dd
  induction dd with
  | zero =>
    intro nf i μ h1 h2 f1 f2 f3 f4
    obtain ⟨nf, rfl⟩ : ∃ m, nf = m + 1 := ⟨nf - 1, by omega⟩
    have e : (w 37).toNat = i := by omega
    rw [e]
    exact ⟨μ, by rw [f_M_apply_L48, z_ld (by omega) (by omega), f1 37 (by decide) (by decide), if_pos (by omega)], fun _ _ => rfl, f1, f4⟩
  | succ dd ih =>
    intro nf i μ h1 h2 f1 f2 f3 f4
    obtain ⟨nf, rfl⟩ : ∃ m, nf = m + 1 := ⟨nf - 1, by omega⟩
    have hb := kp_bd (w := w) (i := i)
    rw [f_M_apply_L48, z_ld (by omega) (by omega), f1 37 (by decide) (by decide), if_neg (by omega), z_isInTransit' hv f1 (by omega) (by omega) (f2 _ 4 (by omega) (by omega) (by omega) (by omega)) (f2 _ 5 (by omega) (by omega) (by omega) (by omega)), z_b]
    simp only [z_jn, z_bib]
    cases g : tran w i with
    | false =>
      rw [if_pos rfl, z_ck (by omega) (by omega)]
      have e1 : kp w (i + 1) = kp w i := by rw [kp_s, g]; show kp w i + 0 = _; omega
      have := ih nf (i + 1) μ (by omega) (by omega) f1 f2 (fun m j a b => f3 m j (by omega) b) (fun k j a b => by
        rw [sl_s, if_neg (fun q => by rw [g] at q; exact Bool.false_ne_true q.1)]
        exact f4 k j a (by omega))
      rw [e1] at this
      exact this
    | true =>
      have e1 : kp w (i + 1) = kp w i + 1 := by rw [kp_s, g]; rfl
      rw [if_neg (by decide)]
      obtain ⟨μ1, a1, a2, a3⟩ := movL72 (K := fun μ25 => q_ck (kp w i + 1) fun x34 => q_ck ((i : Int) + 1) fun x22 => f_M_apply_L48 N K nf x34 x22 μ25) (a := kp w i) (m := (i : Int)) (by omega) (by omega) hb.2 hN (μ := μ)
      rw [a1, z_ck (by omega) (by omega), z_ck (by omega) (by omega)]
      have mgo : ∀ m j, 0 ≤ m → 0 ≤ j → j < 6 → (m ≠ kp w i ∨ 4 ≤ j) → mg (q_g μ1 1) m j = mg (q_g μ 1) m j := fun m j b0 b1 b2 b3 => by
        unfold mg
        rw [a3, if_neg (by omega)]
      obtain ⟨μ', b1, b2, b3, b4⟩ := ih nf (i + 1) μ1 (by omega) (by omega) (fun j j0 j1 => by rw [a3, if_neg (by omega)]; exact f1 j j0 j1) (fun m j m0 m1 j0 j1 => by rw [mgo m j m0 (by omega) j1 (Or.inr j0)]; exact f2 m j m0 m1 j0 j1) (fun m j m0 m1 j0 j1 => by rw [mgo m j (by omega) j0 j1 (Or.inl (by omega))]; exact f3 m j (by omega) m1 j0 j1) (fun k j k0 k1 j0 j1 => by
        rw [sl_s, g]
        by_cases e : k = kp w i
        · rw [if_pos ⟨rfl, e⟩, e, ← f3 i j (Int.le_refl _) (by omega) j0 (by omega)]
          unfold mg
          rw [a3, if_pos (by omega), show 1264 + 6 * kp w i + j + 6 * ((i : Int) - kp w i) = 1264 + 6 * (i : Int) + j by omega]
        · rw [if_neg (fun q => e q.2), mgo k j k0 j0 (by omega) (Or.inl e)]
          exact f4 k j k0 (by omega) j0 j1)
      refine ⟨μ', ?_, fun k hk => by rw [b2 k hk, a2 k hk], b3, b4⟩
      rw [← b1, e1]
      rfl
