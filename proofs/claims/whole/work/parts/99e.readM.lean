/-! the model's flow of one stock, read -/
def valE (n : Int) (X CO : Int → Int → Int) (i a : Int) : Int := if 0 ≤ ei n (a / 7) (a % 7) ∧ ei n (a / 7) (a % 7) < i then X (a / 7) (a % 7) * CO (a / 7) (a % 7) else 0
def cP (n : Int) (X CO : Int → Int → Int) (i : Int) : Int := sm (valE n X CO i) 0 49
theorem valE_bd {n i a : Int} {st : Int → Int} {CO LO HI X : Int → Int → Int} (hB : eB n st CO LO HI X) (a0 : 0 ≤ a) (a1 : a < 49) : 0 ≤ valE n X CO i a ∧ valE n X CO i a ≤ X (a / 7) (a % 7) * 1000 := by
  obtain ⟨b1, b2, -⟩ := hB.1 (a / 7) (a % 7) ⟨by omega, by omega⟩ ⟨by omega, by omega⟩
  have m1 := Int.mul_nonneg (show 0 ≤ X (a / 7) (a % 7) by omega) b2.1
  have m2 := Int.mul_le_mul_of_nonneg_left b2.2 (show 0 ≤ X (a / 7) (a % 7) by omega)
  unfold valE
  by_cases g : 0 ≤ ei n (a / 7) (a % 7) ∧ ei n (a / 7) (a % 7) < i
  · rw [if_pos g]; exact ⟨m1, m2⟩
  · rw [if_neg g]; omega
theorem sm_mulc {f : Int → Int} {k : Int} : ∀ {d : Nat} {i : Int}, sm (fun j => f j * k) i d = sm f i d * k
  | 0, _ => by simp [sm]
  | d + 1, i => by
    unfold sm
    rw [sm_mulc (d := d) (i := i + 1), Int.add_mul]
theorem cP_bd {n i : Int} {st : Int → Int} {CO LO HI X : Int → Int → Int} (hB : eB n st CO LO HI X) : 0 ≤ cP n X CO i ∧ cP n X CO i ≤ tX X * 1000 := by
  have h1 := sm_le (f := fun _ => 0) (g := valE n X CO i) (d := 49) (i := 0) (fun j a b => (valE_bd hB a (by omega)).1)
  have h2 := sm_le (f := valE n X CO i) (g := fun a => X (a / 7) (a % 7) * 1000) (d := 49) (i := 0) (fun j a b => (valE_bd hB a (by omega)).2)
  rw [sm_zero (f := fun _ => 0) (fun _ _ _ => rfl)] at h1
  rw [sm_mulc] at h2
  exact ⟨h1, h2⟩
theorem cP_p {n u v : Int} {CO X : Int → Int → Int} (hn : ni n) (hu : nd u) (hv : nd v) (h0 : 0 ≤ ei n u v) : cP n X CO (ei n u v + 1) = cP n X CO (ei n u v) + X u v * CO u v := by
  have u1 := hu.1
  have u2 := hu.2
  have v1 := hv.1
  have v2 := hv.2
  unfold cP
  rw [sm_upd (f := valE n X CO (ei n u v)) (p := u * 7 + v) (by omega) (by omega) (fun j j0 j1 hj => by
    unfold valE
    have hne : ei n (j / 7) (j % 7) = ei n u v → ei n (j / 7) (j % 7) < 0 := fun q => by
      refine Classical.byContradiction fun g => ?_
      have := ei_inj hn (u := j / 7) (v := j % 7) ⟨by omega, by omega⟩ ⟨by omega, by omega⟩ hu hv (by omega) q
      omega
    by_cases g : 0 ≤ ei n (j / 7) (j % 7) ∧ ei n (j / 7) (j % 7) < ei n u v
    · rw [if_pos g, if_pos (by omega)]
    · rw [if_neg g, if_neg (by omega)])]
  have e1 : valE n X CO (ei n u v + 1) (u * 7 + v) = X u v * CO u v := by
    unfold valE
    rw [show (u * 7 + v) / 7 = u by omega, show (u * 7 + v) % 7 = v by omega, if_pos (by omega)]
  have e2 : valE n X CO (ei n u v) (u * 7 + v) = 0 := by
    unfold valE
    rw [show (u * 7 + v) / 7 = u by omega, show (u * 7 + v) % 7 = v by omega, if_neg (by omega)]
  rw [e1, e2]
  omega
theorem cP_f {n p : Int} {CO X : Int → Int → Int} (hn : ni n) (h0 : 0 ≤ p) (h1 : p < n) : cP n X CO (n * (n - 1) + 4 * p + 1) = cP n X CO (n * (n - 1) + 4 * p) := by
  unfold cP
  refine sm_cong (fun j j0 j1 => ?_)
  unfold valE
  have hne := ei_nf hn (u := j / 7) (v := j % 7) ⟨by omega, by omega⟩ ⟨by omega, by omega⟩ h0 h1
  by_cases g : 0 ≤ ei n (j / 7) (j % 7) ∧ ei n (j / 7) (j % 7) < n * (n - 1) + 4 * p
  · rw [if_pos g, if_pos (by omega)]
  · rw [if_neg g, if_neg (by omega)]
theorem allM {μ : q_M} {ex : Int → Int} {K : Int → Option (Int × q_M)} (hx : exMM μ ex) : ∀ (dd nf : Nat) (i x : Int), i + dd = 7 → 0 ≤ i → dd < nf → ((x = 1 ∧ ∀ v, nd v → v < i → ex (sw v) = 0) ∨ (x = 0 ∧ ¬ ∀ v, nd v → v < i → ex (sw v) = 0)) → ∃ x', f_M_findFlow_L29 μ K nf x i = K x' ∧ ((x' = 1 ∧ ∀ v, nd v → ex v = 0) ∨ (x' = 0 ∧ ¬ ∀ v, nd v → ex v = 0)) := by
  intro dd
  induction dd with
  | zero =>
    intro nf i x h1 h2 h3 hi
    obtain ⟨nf, rfl⟩ : ∃ m, nf = m + 1 := ⟨nf - 1, by omega⟩
    refine ⟨x, by rw [f_M_findFlow_L29, if_pos (by omega)], ?_⟩
    rcases hi with ⟨a, b⟩ | ⟨a, b⟩
    · refine Or.inl ⟨a, fun v hv => ?_⟩
      have := b (sw v) (sw_nd hv) (by have := (sw_nd hv).2; omega)
      rw [sw_sw] at this
      exact this
    · exact Or.inr ⟨a, fun h => b (fun v hv _ => h (sw v) (sw_nd hv))⟩
  | succ dd ih =>
    intro nf i x h1 h2 h3 hi
    obtain ⟨nf, rfl⟩ : ∃ m, nf = m + 1 := ⟨nf - 1, by omega⟩
    have hni : nd i := ⟨h2, by omega⟩
    have e1 := hx (sw i) (sw_nd hni)
    rw [sw_sw] at e1
    rw [f_M_findFlow_L29, if_neg (by omega)]
    simp only [z_jn]
    rcases hi with ⟨rfl, b⟩ | ⟨rfl, b⟩
    · rw [if_neg (by decide), z_ld h2 (by omega), e1]
      by_cases g : ex (sw i) = 0
      · rw [if_pos g, z_ck (by omega) (by omega)]
        refine ih nf (i + 1) 1 (by omega) (by omega) (by omega) (Or.inl ⟨rfl, fun v hv hvi => ?_⟩)
        by_cases q : v = i
        · rw [q]; exact g
        · exact b v hv (by omega)
      · rw [if_neg g, z_ck (by omega) (by omega)]
        exact ih nf (i + 1) 0 (by omega) (by omega) (by omega) (Or.inr ⟨rfl, fun h => g (h i hni (by omega))⟩)
    · rw [if_pos rfl, z_ck (by omega) (by omega)]
      exact ih nf (i + 1) 0 (by omega) (by omega) (by omega) (Or.inr ⟨rfl, fun h => b (fun v hv hvi => h v hv (by omega))⟩)
theorem readM {n s c0 : Int} {st : Int → Int} {CO LO HI X : Int → Int → Int} {K : q_M → Option (Int × q_M)} {μ0 : q_M} (hn : ni n) (hs : s = 0 ∨ s = 1) (hB : eB n st CO LO HI X) (hX : tX X ≤ 500000) (hc0 : 0 ≤ c0 ∧ c0 ≤ 1000000000) : ∀ (dd nf : Nat) (i : Int) (μ : q_M), i + dd = n * (n - 1) + 4 * n + 1 → 0 ≤ i → dd < nf → eM n st CO LO HI μ X → q_g μ 0 28 = c0 + cP n X CO i → (∀ u v, nd u → nd v → 0 ≤ plc n u v → 0 ≤ ei n u v → ei n u v < i → q_g μ 20 (30 * s + plc n u v) = X u v) → (∀ p, 0 ≤ p → p < n → ei n p 6 < i → q_g μ 21 (2 * p + s) = X p 6) → (∀ k, k ≠ 0 → k ≠ 20 → k ≠ 21 → q_g μ k = q_g μ0 k) → (∀ j, j ≠ 28 → q_g μ 0 j = q_g μ0 0 j) → (∀ j, j < 30 * s ∨ 30 * s + 30 ≤ j → q_g μ 20 j = q_g μ0 20 j) → (∀ j, j % 2 ≠ s → q_g μ 21 j = q_g μ0 21 j) →
    ∃ μ', f_M_findFlow_L65 s K nf i μ = K μ' ∧ q_g μ' 0 28 = c0 + cP n X CO (n * (n - 1) + 4 * n + 1) ∧ (∀ u v, nd u → nd v → 0 ≤ plc n u v → 0 ≤ ei n u v → q_g μ' 20 (30 * s + plc n u v) = X u v) ∧ (∀ p, 0 ≤ p → p < n → q_g μ' 21 (2 * p + s) = X p 6) ∧ (∀ k, k ≠ 0 → k ≠ 20 → k ≠ 21 → q_g μ' k = q_g μ0 k) ∧ (∀ j, j ≠ 28 → q_g μ' 0 j = q_g μ0 0 j) ∧ (∀ j, j < 30 * s ∨ 30 * s + 30 ≤ j → q_g μ' 20 j = q_g μ0 20 j) ∧ (∀ j, j % 2 ≠ s → q_g μ' 21 j = q_g μ0 21 j) := by
  have hq := q_rng hn
  have d6 : nd 6 := ⟨by decide, by decide⟩
  intro dd
  induction dd with
  | zero =>
    intro nf i μ h1 h2 h3 hE f1 f2 f3 f4 f5 f6 f7
    obtain ⟨nf, rfl⟩ : ∃ m, nf = m + 1 := ⟨nf - 1, by omega⟩
    have e : i = n * (n - 1) + 4 * n + 1 := by omega
    rw [e] at f1 f2 f3
    refine ⟨μ, by rw [f_M_findFlow_L65, z_fl, Int.cast_ofNat_Int, hE.1, if_pos (by omega)], f1, fun u v hu hv a b => f2 u v hu hv a b (by have := ei_bd hn hu hv; omega), fun p a b => f3 p a b (by have := ei_bd hn (u := p) (v := 6) ⟨a, by omega⟩ d6; omega), f4, f5, f6, f7⟩
  | succ dd ih =>
    intro nf i μ h1 h2 h3 hE f1 f2 f3 f4 f5 f6 f7
    obtain ⟨nf, rfl⟩ : ∃ m, nf = m + 1 := ⟨nf - 1, by omega⟩
    have hcp := cP_bd (i := i) hB
    have hcp1 := cP_bd (i := i + 1) hB
    rw [f_M_findFlow_L65, z_fl, Int.cast_ofNat_Int, hE.1, if_neg (by omega), z_fl, Int.cast_ofNat_Int, f1]
    simp only [z_jn]
    rcases ei_on hn h2 (by omega) with ⟨u, v, hu, hv, huv, he⟩ | ⟨p, hp0, hp1, he⟩
    · have u1 := hu.1
      have v1 := hv.1
      obtain ⟨e1, e2, -, -, e5, e6, e7⟩ := hE.2.1 u v hu hv (by omega)
      rw [he] at e1 e2 e5 e6 e7
      obtain ⟨b1, b2, -⟩ := hB.1 u v hu hv
      have hstep := cP_p (X := X) (CO := CO) hn hu hv (by omega)
      rw [he] at hstep
      have hpb := plc_bd hn hu hv
      have m1 := Int.mul_nonneg (show 0 ≤ X u v by omega) b2.1
      rw [z_ld h2 (by omega), e7, z_ld h2 (by omega), e5, z_ck (by omega) (by omega), z_ck (by omega) (by omega), z_fs, Int.cast_ofNat_Int, z_ld h2 (by omega), g_sn (by omega), e6]
      -- what is read of the amounts
      have second : ∀ ν, eM n st CO LO HI ν X → q_g ν 0 28 = c0 + cP n X CO (i + 1) → (∀ u v, nd u → nd v → 0 ≤ plc n u v → 0 ≤ ei n u v → ei n u v < i + 1 → q_g ν 20 (30 * s + plc n u v) = X u v) → (∀ p, 0 ≤ p → p < n → ei n p 6 < i → q_g ν 21 (2 * p + s) = X p 6) → (∀ k, k ≠ 0 → k ≠ 20 → k ≠ 21 → q_g ν k = q_g μ0 k) → (∀ j, j ≠ 28 → q_g ν 0 j = q_g μ0 0 j) → (∀ j, j < 30 * s ∨ 30 * s + 30 ≤ j → q_g ν 20 j = q_g μ0 20 j) → (∀ j, j % 2 ≠ s → q_g ν 21 j = q_g μ0 21 j) → ∃ μ', (q_ld ν 10 48 i fun x32 => if x32 = 5 then q_ld ν 9 48 i fun x35 => q_ck (2 * x35) fun x36 => q_ck (x36 + s) fun x37 => q_ld ν 15 48 i fun x38 => q_st ν 21 10 x37 x38 fun μ39 => q_ck (i + 1) fun x34 => f_M_findFlow_L65 s K nf x34 μ39 else q_ck (i + 1) fun x34 => f_M_findFlow_L65 s K nf x34 ν) = K μ' ∧ q_g μ' 0 28 = c0 + cP n X CO (n * (n - 1) + 4 * n + 1) ∧ (∀ u v, nd u → nd v → 0 ≤ plc n u v → 0 ≤ ei n u v → q_g μ' 20 (30 * s + plc n u v) = X u v) ∧ (∀ p, 0 ≤ p → p < n → q_g μ' 21 (2 * p + s) = X p 6) ∧ (∀ k, k ≠ 0 → k ≠ 20 → k ≠ 21 → q_g μ' k = q_g μ0 k) ∧ (∀ j, j ≠ 28 → q_g μ' 0 j = q_g μ0 0 j) ∧ (∀ j, j < 30 * s ∨ 30 * s + 30 ≤ j → q_g μ' 20 j = q_g μ0 20 j) ∧ (∀ j, j % 2 ≠ s → q_g μ' 21 j = q_g μ0 21 j) := by
        intro ν hEν k1 k2 k3 k4 k5 k6 k7
        obtain ⟨n1, n2, -, -, -, -, n7⟩ := hEν.2.1 u v hu hv (by omega)
        rw [he] at n1 n2 n7
        rw [z_ld h2 (by omega), n2]
        by_cases g : v = 6
        · have hun : u < n := by
            rcases ei_sp hn hu hv with ⟨h, -⟩ | ⟨a, b, c, h⟩ | ⟨a, b, h⟩ | ⟨a, b, h⟩ | ⟨a, b, h⟩ | ⟨a, b, h⟩ <;> omega
          have s5 : sw v = 5 := by rw [g]; rfl
          have su : sw u = u := sw_lt (by omega)
          rw [if_pos s5, z_ld h2 (by omega), n1, su, z_ck (by omega) (by omega), z_ck (by omega) (by omega), z_ld h2 (by omega), n7, z_st (by omega) (by omega), z_ck (by omega) (by omega)]
          refine ih nf (i + 1) _ (by omega) (by omega) (by omega) (eM_fr hEν (by rw [g_sn (by omega)]) (fun k a b => g_sn (by omega))) (by rw [g_sn (by omega)]; exact k1) (fun x y hx hy a b c => by rw [g_sn (by omega)]; exact k2 x y hx hy a b c) (fun p a b c => ?_) (fun k a b c => by rw [g_sn c]; exact k4 k a b c) (fun j a => by rw [g_sn (by omega)]; exact k5 j a) (fun j a => by rw [g_sn (by omega)]; exact k6 j a) (fun j a => by
            rw [g_s (by omega), u_n (by omega)]
            exact k7 j a)
          rw [g_s (by omega)]
          by_cases q : p = u
          · rw [q, u_s, g]
          · rw [u_n (by omega)]
            refine k3 p a b ?_
            have : ei n p 6 ≠ i := fun q2 => q (by
              have := ei_inj hn (u := u) (v := v) (u' := p) (v' := 6) hu hv ⟨a, by omega⟩ d6 (by omega) (by rw [he, q2])
              exact this.1.symm)
            omega
        · have s5 : sw v ≠ 5 := fun q => g (sw_inj (q.trans (show (5 : Int) = sw 6 from rfl)))
          rw [if_neg s5, z_ck (by omega) (by omega)]
          refine ih nf (i + 1) ν (by omega) (by omega) (by omega) hEν k1 k2 (fun p a b c => k3 p a b ?_) k4 k5 k6 k7
          have : ei n p 6 ≠ i := fun q2 => g (by
            have := ei_inj hn (u := u) (v := v) (u' := p) (v' := 6) hu hv ⟨a, by omega⟩ d6 (by omega) (by rw [he, q2])
            exact this.2)
          omega
      have hE1 : eM n st CO LO HI (q_x μ 0 28 (c0 + cP n X CO i + X u v * CO u v)) X := eM_fr hE (by rw [g_s (by omega), u_n (by omega)]) (fun k a b => g_sn (by omega))
      have f1' : q_g (q_x μ 0 28 (c0 + cP n X CO i + X u v * CO u v)) 0 28 = c0 + cP n X CO (i + 1) := by
        rw [g_s (by omega), u_s, hstep]
        omega
      by_cases g : plc n u v < 0
      · rw [if_pos g]
        refine second _ hE1 f1' (fun x y hx hy a b c => ?_) (fun p a b c => by rw [g_sn (by omega)]; exact f3 p a b c) (fun k a b c => by rw [g_sn a]; exact f4 k a b c) (fun j a => by rw [g_s (by omega), u_n a]; exact f5 j a) (fun j a => by rw [g_sn (by omega)]; exact f6 j a) (fun j a => by rw [g_sn (by omega)]; exact f7 j a)
        rw [g_sn (by omega)]
        refine f2 x y hx hy a b ?_
        have : ei n x y ≠ i := fun q2 => by
          have := ei_inj hn hx hy hu hv b (by rw [he, q2])
          rw [this.1, this.2] at a
          omega
        omega
      · have hes := hE1.2.1 u v hu hv (by omega)
        rw [he] at hes
        obtain ⟨-, -, -, -, -, r6, r7⟩ := hes
        rw [if_neg g, z_ck (by omega) (by omega), z_ld h2 (by omega), r6, z_ck (by omega) (by omega), z_ld h2 (by omega), r7, z_st (by omega) (by omega)]
        refine second _ (eM_fr hE1 (by rw [g_sn (by omega)]) (fun k a b => g_sn (by omega))) (by rw [g_sn (by omega)]; exact f1') (fun x y hx hy a b c => ?_) (fun p a b c => by rw [g_sn (by omega), g_sn (by omega)]; exact f3 p a b c) (fun k a b c => by rw [g_sn b, g_sn a]; exact f4 k a b c) (fun j a => by rw [g_sn (by omega), g_s (by omega), u_n a]; exact f5 j a) (fun j a => by rw [g_s (by omega), u_n (by omega), g_sn (by omega)]; exact f6 j a) (fun j a => by rw [g_sn (by omega), g_sn (by omega)]; exact f7 j a)
        rw [g_s (by omega), g_sn (by omega)]
        by_cases q : x = u ∧ y = v
        · rw [q.1, q.2, u_s]
        · have hpne : plc n x y ≠ plc n u v := fun q2 => q (plc_inj hn hx hy hu hv a q2)
          rw [u_n (by omega)]
          refine f2 x y hx hy a b ?_
          have : ei n x y ≠ i := fun q2 => q (ei_inj hn hx hy hu hv b (by rw [he, q2]))
          omega
    · obtain ⟨e1, e2, -, -, e5, e6, e7⟩ := hE.2.2 p hp0 hp1
      rw [← he] at e1 e2 e5 e6 e7
      have hbs := hB.2 p hp0 hp1
      have hstep := cP_f (X := X) (CO := CO) hn hp0 hp1
      rw [← he] at hstep
      have hq0 : q_x μ 0 28 (c0 + cP n X CO i + 0) = μ := by
        rw [Int.add_zero, ← f1]
        exact q_x_id (by decide)
      rw [z_ld h2 (by omega), e7, z_ld h2 (by omega), e5, Int.mul_zero, z_ck (by omega) (by omega), z_ck (by omega) (by omega), z_fs, Int.cast_ofNat_Int, hq0, z_ld h2 (by omega), e6, if_pos (by decide), z_ld h2 (by omega), e2, if_neg (by omega), z_ck (by omega) (by omega)]
      refine ih nf (i + 1) μ (by omega) (by omega) (by omega) hE (by rw [hstep]; exact f1) (fun x y hx hy a b c => f2 x y hx hy a b ?_) (fun p' a b c => f3 p' a b ?_) f4 f5 f6 f7
      · have := ei_nf hn hx hy hp0 hp1
        omega
      · have := ei_nf hn (u := p') (v := 6) ⟨a, by omega⟩ d6 hp0 hp1
        omega
