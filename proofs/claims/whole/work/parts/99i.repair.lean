/-! repairCost, moved, outside, repairedStock -/
theorem vI_rep {c : Nat} {n : Int} {μC μM μ1 μ2 : q_M} (hr : rr_C 1 n μC (q_g μM 1)) (hv : rv n (q_g μM 1) c) (hn : q_g μM 0 0 = n) (hA : vA n c μC μM) (hT : vT μC μM) (hU : vU n μC μM) (hK : vK μC μM) (hc : c < 512) (f1 : ∀ k, k < 56 → q_g μ1 k = q_g μC k) (f2 : ∀ k, k ≠ 0 → (k < 9 ∨ 21 < k) → q_g μ2 k = q_g μM k) (f3 : ∀ j, j ≠ 14 → j ≠ 23 → j ≠ 24 → j ≠ 28 → q_g μ2 0 j = q_g μM 0 j) : vI (c + 1) μ1 μ2 :=
  vI_out hr hv hA hn hc (fun k hk => f1 k (by omega)) (f2 1 (by omega) (by omega)) (f2 2 (by omega) (by omega)) (f3 0 (by decide) (by decide) (by decide) (by decide)) (f3 3 (by decide) (by decide) (by decide) (by decide)) (vT_out hT (f1 47 (by omega)) (f1 48 (by omega)) (f3 4 (by decide) (by decide) (by decide) (by decide)) (f2 3 (by omega) (by omega))) (vU_out hU (fun k h1 h2 => f1 k (by omega)) (f3 6 (by decide) (by decide) (by decide) (by decide)) (fun k h1 h2 => f2 k (by omega) (by omega))) (vK_out hK (f1 54 (by omega)) (f1 55 (by omega)) (f3 12 (by decide) (by decide) (by decide) (by decide)) (f3 13 (by decide) (by decide) (by decide) (by decide)) (f2 8 (by omega) (by omega)))
theorem prM_div {mv : Int → Int} {g b n u v : Int} (hn : ni n) (hu : nd u) (hv : nd v) : prM mv g b n u v / 1073741824 = coE mv g b n u v := by
  have hb := plc_bd hn hu hv
  unfold prM coE
  by_cases q : 0 ≤ plc n u v
  · rw [if_pos q, if_pos q]
    have h1 := pw_bd (29 - plc n u v).toNat (by omega)
    have h2 : (2 : Int) ^ (29 - plc n u v).toNat < 1073741824 := by
      have h3 := pow_pos' (b := 2) (by decide) (plc n u v + 1).toNat
      have h4 : (2 : Int) ^ ((29 - plc n u v).toNat + (plc n u v + 1).toNat) = 1073741824 := by
        rw [show (29 - plc n u v).toNat + (plc n u v + 1).toNat = 30 by omega]
        decide
      rw [Int.pow_add] at h4
      have h5 : 2 ≤ (2 : Int) ^ (plc n u v + 1).toNat := by
        rw [show (plc n u v + 1).toNat = (plc n u v).toNat + 1 by omega, Int.pow_succ]
        have := pow_pos' (b := 2) (by decide) (plc n u v).toNat
        omega
      have h6 := Int.mul_le_mul_of_nonneg_left h5 (show 0 ≤ (2 : Int) ^ (29 - plc n u v).toNat by omega)
      omega
    omega
  · rw [if_neg q, if_neg q]
    decide
theorem z_plainCost {N : Nat} {n s : Int} {mv : Int → Int} {g b : Int} {μ1 μ2 : q_M} {Y : Int → Int → Int} (hN : 1000 ≤ N) (hn : ni n) (hs : s = 0 ∨ s = 1) (hco : ∀ u v, nd u → nd v → 0 ≤ coE mv g b n u v ∧ coE mv g b n u v ≤ 1000) (hb : both n mv g b μ1 μ2 s Y) : f_Fl_plainCost N (flo s) μ1 = some (valF n Y (coE mv g b n)) := by
  obtain ⟨h1, -, -, h4, h5⟩ := hb
  have hq := q_rng hn
  have hval : valF n Y (coE mv g b n) = sm (fun a => Y (a / 7) (a % 7) * coE mv g b n (a / 7) (a % 7)) 0 49 := by
    unfold valF cP
    refine sm_cong (fun j j0 j1 => ?_)
    have nu : nd (j / 7) := ⟨by omega, by omega⟩
    have nv : nd (j % 7) := ⟨by omega, by omega⟩
    unfold valE
    by_cases q : 0 ≤ ei n (j / 7) (j % 7) ∧ ei n (j / 7) (j % 7) < n * (n - 1) + 4 * n + 1
    · rw [if_pos q]
    · rw [if_neg q]
      have hei := ei_bd hn nu nv
      rcases ei_sp hn nu nv with ⟨h, p, -⟩ | ⟨a, b', c', h⟩ | ⟨a, b', h⟩ | ⟨a, b', h⟩ | ⟨a, b', h⟩ | ⟨a, b', h⟩
      · have : coE mv g b n (j / 7) (j % 7) = 0 := by
          unfold coE
          rw [if_neg (by omega)]
        rw [this, Int.mul_zero]
      · have := mv_rng hn nu.1 nv.1 a b' c'
        omega
      · have := nv.1
        omega
      · have := nu.1
        omega
      · have := nu.1
        omega
      · omega
  unfold f_Fl_plainCost
  have lp := (lp_sum (F := f_Fl_plainCost_L4 (flo s) μ1 fun x3 => q_ck x3 fun _ => some x3) (E := fun x3 => q_ck x3 fun _ => some x3) (f := fun a => Y (a / 7) (a % 7) * coE mv g b n (a / 7) (a % 7)) (b := 49) (fun x i => 0 ≤ i ∧ 0 ≤ x ∧ x ≤ 1000000000 * i) (by
    intro nf x hP
    rw [f_Fl_plainCost_L4, if_pos (Int.le_refl _)]) (by
    intro nf x i hi hP
    have nu : nd (i / 7) := ⟨by omega, by omega⟩
    have nv : nd (i % 7) := ⟨by omega, by omega⟩
    obtain ⟨a1, a2, a3⟩ := h1 (i / 7) (i % 7) nu nv
    rw [show i / 7 * 7 + i % 7 = i by omega] at a1 a2
    have hc := hco (i / 7) (i % 7) nu nv
    have m1 := Int.mul_nonneg a3.1 hc.1
    have m2 := Int.mul_le_mul_of_nonneg_left hc.2 a3.1
    have hdiv := prM_div (mv := mv) (g := g) (b := b) hn nu nv
    have hpr : 0 ≤ prM mv g b n (i / 7) (i % 7) ∧ prM mv g b n (i / 7) (i % 7) < 2199023255552 := by omega
    refine ⟨?_, by omega, by omega, by omega⟩
    rw [f_Fl_plainCost_L4, if_neg (by omega), z_ld hP.1 (by omega), a1, z_ld hP.1 (by omega), a2]
    unfold q_lsr
    rw [if_pos ⟨⟨hpr.1, by omega⟩, by decide, by decide⟩, show (2 : Int) ^ (30 : Int).toNat = 1073741824 from by decide, hdiv]
    dsimp only
    rw [z_cl (by omega) (by omega), z_cl (by omega) (by omega), z_ck (by omega) (by omega)]) 49 N 0 0 (by decide) (by omega) (by decide)).1
  rw [lp, Int.zero_add, ← hval, z_ck (by omega) (by omega)]
theorem coE_bd {mv : Int → Int} {g b n u v : Int} {μc : q_M} (hn : ni n) (hco : coM mv g b μc) (hu : nd u) (hv : nd v) : 0 ≤ coE mv g b n u v ∧ coE mv g b n u v ≤ 1000 := by
  have hn5 := q_rng hn
  have u1 := hu.1
  have v1 := hv.1
  unfold coE cst
  by_cases q : 0 ≤ plc n u v
  · rw [if_pos q]
    rcases plc_sp hn hu hv with h | ⟨a, c, e, -⟩ | ⟨a, c, -⟩ | ⟨a, c, -⟩
    · omega
    · rw [if_neg (by omega), if_neg (by omega)]
      have := (hco.1 (u * 5 + v) (by omega) (by omega)).2
      omega
    · rw [if_pos a]
      have := hco.2.1.2
      omega
    · rw [if_neg (by omega), if_pos a]
      have := hco.2.2.2
      omega
  · rw [if_neg q]; omega
theorem s_repairCost {N : Nat} (hN : 200000 ≤ N) : q_st_repairCost N vI := by
  intro c μC μM hc hI
  obtain ⟨n, hr, hv, hn, hA, hT, hU, hK⟩ := hI
  have hni := ni_of hv.1
  obtain ⟨x, μ1, μ2, a1, a2, f1, f2, f3, hx⟩ := z_findRepairs hN hr hv hn hU hK
  have fin := vI_rep hr hv hn hA hT hU hK hc f1 f2 f3
  unfold f_CR_repairCost f_M_repairCost
  rw [a1, a2, z_b2, z_b2]
  simp only [z_jn]
  rcases hx with ⟨hx, -⟩ | ⟨hx, -, Y0, Y1, b0, b1, b2⟩
  · rw [if_neg (by omega), if_neg (by omega)]
    exact ⟨_, _, _, rfl, rfl, fin⟩
  · have hcb := fun u v hu hv => coE_bd (u := u) (v := v) hni (coM_of_vK hK) hu hv
    rw [if_pos hx, if_pos (show 0 ≤ x by omega), z_fl, Int.cast_ofNat_Int, b2]
    unfold f_Re_totalCost
    rw [q_ao_flo (Or.inl rfl), z_plainCost (by omega) hni (Or.inl rfl) hcb b0, z_b, q_ao_flo (Or.inr rfl), z_plainCost (by omega) hni (Or.inr rfl) hcb b1, z_b, z_ck (by have := b0.2.2.2; have := b1.2.2.2; omega) (by have := b0.2.2.2; have := b1.2.2.2; omega), z_b]
    exact ⟨_, _, _, rfl, rfl, fin⟩
theorem z_along {s u v : Int} {n : Int} {mv : Int → Int} {g b : Int} {μ1 μ2 : q_M} {Y : Int → Int → Int} (hb : both n mv g b μ1 μ2 s Y) (hu : nd u) (hv : nd v) : f_Fl_along (flo s) u v μ1 = some (Y u v) := by
  have u1 := hu.1
  have u2 := hu.2
  have v1 := hv.1
  have v2 := hv.2
  unfold f_Fl_along
  rw [z_arc hu hv, z_b, z_ld (by omega) (by omega), (hb.1 u v hu hv).1]
theorem s_moved {N : Nat} (hN : 200000 ≤ N) : q_st_moved N vI := by
  intro c μC μM hc hI a0 h0 a1 h1 a2 h2
  have hI' := hI
  obtain ⟨n, hr, hv, hn, hA, hT, hU, hK⟩ := hI
  have v0 := hv.1
  have hni := ni_of hv.1
  unfold f_CR_moved f_M_moved
  rw [z_isPair hr.1 v0.1 v0.2, z_noChannel hn v0.1 v0.2, z_b, z_b]
  simp only [z_jn]
  by_cases g : (0 ≤ a0 ∧ a0 ≤ n - 1) ∧ (0 ≤ a1 ∧ a1 ≤ n - 1) ∧ a0 ≠ a1
  · rw [if_pos g, if_pos g, if_neg (by decide), if_pos rfl, z_isStock, z_in, z_b, z_b]
    by_cases g2 : 0 ≤ a2 ∧ a2 ≤ 1
    · obtain ⟨x, μ1, μ2, b1, b2, f1, f2, f3, hx⟩ := z_findRepairs hN hr hv hn hU hK
      have fin := vI_rep hr hv hn hA hT hU hK hc f1 f2 f3
      rw [if_pos g2, if_neg (by decide), if_neg (by decide), b1, b2, z_b2, z_b2]
      rcases hx with ⟨hx, -⟩ | ⟨hx, -, Y0, Y1, d0, d1, -⟩
      · rw [if_neg (by omega), if_neg (by omega)]
        exact ⟨_, _, _, rfl, rfl, fin⟩
      · have hd : ∃ Y, both n (q_g μM 8) (q_g μM 0 12) (q_g μM 0 13) μ1 μ2 a2 Y := by
          have : a2 = 0 ∨ a2 = 1 := by omega
          rcases this with rfl | rfl
          · exact ⟨Y0, d0⟩
          · exact ⟨Y1, d1⟩
        obtain ⟨Y, hY⟩ := hd
        have hu : nd a0 := ⟨g.1.1, by omega⟩
        have hv1 : nd a1 := ⟨g.2.1.1, by omega⟩
        have hp := plc_mv (n := n) (u := a0) (v := a1) (by omega) (by omega) g.2.2
        have hpr := mv_rng hni g.1.1 g.2.1.1 (show a0 < n by omega) (show a1 < n by omega) g.2.2
        have hq := q_rng hni
        have hk := hY.2.1 a0 a1 hu hv1 (by omega)
        have hm : 0 ≤ (n - 1) * a0 ∧ (n - 1) * a0 ≤ 20 := by rcases hni with rfl | rfl | rfl | rfl <;> omega
        rw [if_pos hx, if_pos (show 0 ≤ x by omega)]
        unfold f_Re_amountMoved
        rw [q_ao_flo (by omega), z_along hY hu hv1, z_b, z_b, z_ck (by omega) (by omega), z_fl, Int.cast_ofNat_Int, f3 0 (by decide) (by decide) (by decide) (by decide), hn, z_ck (by omega) (by omega), z_ck (by omega) (by omega), z_ck (by omega) (by omega)]
        by_cases ga : a1 ≤ a0
        · rw [if_neg (by omega)] at hp hpr
          rw [if_pos ga, z_ck (by omega) (by omega), z_ld (by omega) (by omega), show 30 * a2 + (n - 1) * a0 + a1 = 30 * a2 + plc n a0 a1 by omega, hk]
          exact ⟨_, _, _, rfl, rfl, fin⟩
        · rw [if_pos (by omega)] at hp hpr
          rw [if_neg ga, z_ck (by omega) (by omega), z_ck (by omega) (by omega), z_ld (by omega) (by omega), show 30 * a2 + (n - 1) * a0 + (a1 - 1) = 30 * a2 + plc n a0 a1 by omega, hk]
          exact ⟨_, _, _, rfl, rfl, fin⟩
    · rw [if_neg g2, if_pos rfl, if_pos rfl]
      exact ⟨_, _, _, rfl, rfl, vI_up hc hI'⟩
  · rw [if_neg g, if_neg g, if_pos rfl, if_neg (by decide)]
    exact ⟨_, _, _, rfl, rfl, vI_up hc hI'⟩
theorem s_outside {N : Nat} (hN : 200000 ≤ N) : q_st_outside N vI := by
  intro c μC μM hc hI a0 h0 a1 h1 a2 h2
  have hI' := hI
  obtain ⟨n, hr, hv, hn, hA, hT, hU, hK⟩ := hI
  have v0 := hv.1
  have hni := ni_of hv.1
  unfold f_CR_outside f_M_outside
  rw [z_isProcess hr.1 v0.1 v0.2, z_noStock hn v0.1 v0.2, z_b, z_b]
  simp only [z_jn, z_zb]
  by_cases g : 0 ≤ a0 ∧ a0 ≤ n - 1
  · by_cases g2 : 0 ≤ a1 ∧ a1 ≤ 1
    · obtain ⟨x, μ1, μ2, b1, b2, f1, f2, f3, hx⟩ := z_findRepairs hN hr hv hn hU hK
      have fin := vI_rep hr hv hn hA hT hU hK hc f1 f2 f3
      rw [if_pos g, if_neg (by decide), z_isStock, z_b, if_pos g2, if_neg (by decide), if_pos ⟨g, g2⟩, b1, b2, z_b2, z_b2]
      rcases hx with ⟨hx, -⟩ | ⟨hx, -, Y0, Y1, d0, d1, -⟩
      · rw [if_neg (by omega), if_neg (by omega)]
        exact ⟨_, _, _, rfl, rfl, fin⟩
      · have hd : ∃ Y, both n (q_g μM 8) (q_g μM 0 12) (q_g μM 0 13) μ1 μ2 a1 Y := by
          have : a1 = 0 ∨ a1 = 1 := by omega
          rcases this with rfl | rfl
          · exact ⟨Y0, d0⟩
          · exact ⟨Y1, d1⟩
        obtain ⟨Y, hY⟩ := hd
        have hu : nd a0 := ⟨g.1, by omega⟩
        have d5 : nd 5 := ⟨by decide, by decide⟩
        have hq := q_rng hni
        have hpg := plc_gr hni (show a0 < n by omega)
        have hpb := plc_bn hni (show a0 < n by omega)
        have hm : n * (n - 1) ≤ 20 := by rcases hni with rfl | rfl | rfl | rfl <;> decide
        have en : q_g μ2 0 0 = n := by rw [f3 0 (by decide) (by decide) (by decide) (by decide), hn]
        rw [if_pos hx, if_pos (show 0 ≤ x by omega), z_ck (by omega) (by omega), z_fl, Int.cast_ofNat_Int, en, z_fl, Int.cast_ofNat_Int, en, z_ck (by omega) (by omega), z_ck (by omega) (by omega), z_ck (by omega) (by omega)]
        by_cases gb : a2 = 0
        · have hk := hY.2.1 5 a0 d5 hu (by omega)
          rw [if_pos gb, if_pos gb]
          unfold f_Re_amountGranted
          rw [q_ao_flo (by omega), z_along hY d5 hu, z_b, z_b, z_ck (by omega) (by omega), z_ck (by omega) (by omega), z_ld (by omega) (by omega), show 30 * a1 + n * (n - 1) + 0 + a0 = 30 * a1 + plc n 5 a0 by omega, hk]
          exact ⟨_, _, _, rfl, rfl, fin⟩
        · have hk := hY.2.1 a0 5 hu d5 (by omega)
          rw [if_neg gb, if_neg gb]
          unfold f_Re_amountBurnt
          rw [q_ao_flo (by omega), z_along hY hu d5, z_b, z_b, z_fl, Int.cast_ofNat_Int, en, z_ck (by omega) (by omega), z_ck (by omega) (by omega), z_ld (by omega) (by omega), show 30 * a1 + n * (n - 1) + n + a0 = 30 * a1 + plc n a0 5 by omega, hk]
          exact ⟨_, _, _, rfl, rfl, fin⟩
    · rw [if_pos g, if_neg (by decide), z_isStock, z_b, if_neg g2, if_pos rfl, if_neg (fun q => g2 q.2)]
      exact ⟨_, _, _, rfl, rfl, vI_up hc hI'⟩
  · rw [if_neg g, if_pos rfl, if_neg (fun q => g q.1)]
    exact ⟨_, _, _, rfl, rfl, vI_up hc hI'⟩
theorem s_repairedStock {N : Nat} (hN : 200000 ≤ N) : q_st_repairedStock N vI := by
  intro c μC μM hc hI a0 h0 a1 h1
  have hI' := hI
  obtain ⟨n, hr, hv, hn, hA, hT, hU, hK⟩ := hI
  have v0 := hv.1
  have hni := ni_of hv.1
  unfold f_CR_repairedStock f_M_repairedStock
  rw [z_isProcess hr.1 v0.1 v0.2, z_noStock hn v0.1 v0.2, z_b, z_b]
  simp only [z_jn, z_zb]
  by_cases g : 0 ≤ a0 ∧ a0 ≤ n - 1
  · by_cases g2 : 0 ≤ a1 ∧ a1 ≤ 1
    · obtain ⟨x, μ1, μ2, b1, b2, f1, f2, f3, hx⟩ := z_findRepairs hN hr hv hn hU hK
      have fin := vI_rep hr hv hn hA hT hU hK hc f1 f2 f3
      rw [if_pos g, if_neg (by decide), z_isStock, z_b, if_pos g2, if_neg (by decide), if_pos ⟨g, g2⟩, b1, b2, z_b2, z_b2]
      rcases hx with ⟨hx, -⟩ | ⟨hx, -, Y0, Y1, d0, d1, -⟩
      · rw [if_neg (by omega), if_neg (by omega)]
        exact ⟨_, _, _, rfl, rfl, fin⟩
      · have hd : ∃ Y, both n (q_g μM 8) (q_g μM 0 12) (q_g μM 0 13) μ1 μ2 a1 Y := by
          have : a1 = 0 ∨ a1 = 1 := by omega
          rcases this with rfl | rfl
          · exact ⟨Y0, d0⟩
          · exact ⟨Y1, d1⟩
        obtain ⟨Y, hY⟩ := hd
        have hu : nd a0 := ⟨g.1, by omega⟩
        have d6 : nd 6 := ⟨by decide, by decide⟩
        have hk := (hY.2.2.1 a0 g.1 (by omega)).1
        rw [if_pos hx, if_pos (show 0 ≤ x by omega), z_ck (by omega) (by omega), z_ck (by omega) (by omega), z_ld (by omega) (by omega), hk]
        unfold f_Re_stockAfter
        rw [q_ao_flo (by omega), z_along hY hu d6, z_b, z_b]
        exact ⟨_, _, _, rfl, rfl, fin⟩
    · rw [if_pos g, if_neg (by decide), z_isStock, z_b, if_neg g2, if_pos rfl, if_neg (fun q => g2 q.2)]
      exact ⟨_, _, _, rfl, rfl, vI_up hc hI'⟩
  · rw [if_neg g, if_pos rfl, if_neg (fun q => g q.1)]
    exact ⟨_, _, _, rfl, rfl, vI_up hc hI'⟩
