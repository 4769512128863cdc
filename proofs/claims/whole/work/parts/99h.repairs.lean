/-! findRepair on both sides, and what reads it -/
def valF (n : Int) (X CO : Int → Int → Int) : Int := cP n X CO (n * (n - 1) + 4 * n + 1)
theorem coM_of_vK {μC μM : q_M} (h : vK μC μM) : coM (q_g μM 8) (q_g μM 0 12) (q_g μM 0 13) μC := h
/-- both sides' best repair: the same amounts -/
def both (n : Int) (mv : Int → Int) (g b : Int) (μ1 μ2 : q_M) (s : Int) (Y : Int → Int → Int) : Prop := (∀ u v, nd u → nd v → q_g μ1 (flo s + 1) (u * 7 + v) = Y u v ∧ q_g μ1 (flo s + 4) (u * 7 + v) = prM mv g b n u v ∧ 0 ≤ Y u v ∧ Y u v ≤ 1000000) ∧ (∀ u v, nd u → nd v → 0 ≤ plc n u v → q_g μ2 20 (30 * s + plc n u v) = Y u v) ∧ (∀ p, 0 ≤ p → p < n → q_g μ2 21 (2 * p + s) = Y p 6 ∧ Y p 6 ≤ 1000) ∧ 0 ≤ valF n Y (coE mv g b n) ∧ valF n Y (coE mv g b n) ≤ 400000000
theorem z_findRepairs {N : Nat} {c : Nat} {n : Int} {μC μM : q_M} (hN : 200000 ≤ N) (hr : rr_C 1 n μC (q_g μM 1)) (hv : rv n (q_g μM 1) c) (hn : q_g μM 0 0 = n) (hU : vU n μC μM) (hK : vK μC μM) :
    ∃ (x : Int) (μ1 μ2 : q_M), f_CR_findRepair N μC = some (x, μ1) ∧ f_M_findRepair N μM = some (x, μ2) ∧ (∀ k, k < 56 → q_g μ1 k = q_g μC k) ∧ (∀ k, k ≠ 0 → (k < 9 ∨ 21 < k) → q_g μ2 k = q_g μM k) ∧ (∀ j, j ≠ 14 → j ≠ 23 → j ≠ 24 → j ≠ 28 → q_g μ2 0 j = q_g μM 0 j) ∧ ((x < 0 ∧ -2000000 ≤ x) ∨ (x = 0 ∧ nOrph (q_g μM 1) ≤ 0 ∧ ∃ Y0 Y1, both n (q_g μM 8) (q_g μM 0 12) (q_g μM 0 13) μ1 μ2 0 Y0 ∧ both n (q_g μM 8) (q_g μM 0 12) (q_g μM 0 13) μ1 μ2 1 Y1 ∧ q_g μ2 0 28 = valF n Y0 (coE (q_g μM 8) (q_g μM 0 12) (q_g μM 0 13) n) + valF n Y1 (coE (q_g μM 8) (q_g μM 0 12) (q_g μM 0 13) n))) := by
  have hn5 := hv.1
  have hni := ni_of hn5
  obtain ⟨hB, hRc⟩ := ru_of hU
  have hco := coM_of_vK hK
  obtain ⟨x, μ1, a1, a2, a3⟩ := z_findRepairC hN hr hv hB hRc hco
  unfold f_M_findRepair
  rw [z_orphansNow (by omega) hv, z_b]
  simp only [z_jn]
  by_cases go : nOrph (q_g μM 1) ≤ 0
  · rw [if_pos go, z_fs, Int.cast_ofNat_Int]
    have fr0 : ∀ k, k ≠ 0 → q_g (q_x μM 0 28 0) k = q_g μM k := fun k k0 => g_sn k0
    have fs0 : ∀ j, j ≠ 28 → q_g (q_x μM 0 28 0) 0 j = q_g μM 0 j := fun j j0 => by rw [g_s (by omega), u_n j0]
    obtain ⟨y, μ2, b1, b2, b3, b4, b5, b6⟩ := z_findFlow (N := N) (n := n) (K := q_g μM 0 6) (S := q_g μM 4) (T := q_g μM 5) (R := q_g μM 6) (V := q_g μM 7) (g := q_g μM 0 12) (b := q_g μM 0 13) (mv := q_g μM 8) (s := 0) (c0 := 0) (μ := q_x μM 0 28 0) (μc := μC) hN (Or.inl rfl) hB (by rw [fr0 1 (by omega)]; exact hv) (by rw [fs0 0 (by decide)]; exact hn) (fs0 6 (by decide)) (fr0 4 (by omega)) (fr0 5 (by omega)) (fr0 6 (by omega)) (fr0 7 (by omega)) (fs0 12 (by decide)) (fs0 13 (by decide)) (fun i _ _ => by rw [fr0 8 (by omega)]) hco (by rw [g_s (by omega), u_s]) (by decide)
    rw [fr0 1 (by omega)] at b6
    rw [b1, z_b2]
    have F2 : ∀ k, k ≠ 0 → (k < 9 ∨ 21 < k) → q_g μ2 k = q_g μM k := fun k k0 k1 => by rw [b2 k k0 k1, fr0 k k0]
    have S2 : ∀ j, j ≠ 14 → j ≠ 23 → j ≠ 24 → j ≠ 28 → q_g μ2 0 j = q_g μM 0 j := fun j j1 j2 j3 j4 => by rw [b3 j j1 j2 j3 j4, fs0 j j4]
    rcases b6 with ⟨rfl, hnf⟩ | ⟨rfl, hf0, hcb, hbest0⟩
    · rw [if_pos rfl]
      rcases a3 with ⟨q, -⟩ | ⟨-, -, rfl⟩ | ⟨-, q, -⟩
      · omega
      · exact ⟨_, μ1, μ2, a1, rfl, a2, F2, S2, Or.inl (by omega)⟩
      · exact absurd q.1 hnf
    · rw [if_neg (by decide)]
      have fr2 : ∀ k, k ≠ 0 → (k < 9 ∨ 21 < k) → q_g μ2 k = q_g μM k := F2
      obtain ⟨y, μ3, c1, c2, c3, c4, c5, c6⟩ := z_findFlow (N := N) (n := n) (K := q_g μM 0 6) (S := q_g μM 4) (T := q_g μM 5) (R := q_g μM 6) (V := q_g μM 7) (g := q_g μM 0 12) (b := q_g μM 0 13) (mv := q_g μM 8) (s := 1) (c0 := q_g μ2 0 28) (μ := μ2) (μc := μC) hN (Or.inr rfl) hB (by rw [F2 1 (by omega) (by omega)]; exact hv) (by rw [S2 0 (by decide) (by decide) (by decide) (by decide)]; exact hn) (S2 6 (by decide) (by decide) (by decide) (by decide)) (F2 4 (by omega) (by omega)) (F2 5 (by omega) (by omega)) (F2 6 (by omega) (by omega)) (F2 7 (by omega) (by omega)) (S2 12 (by decide) (by decide) (by decide) (by decide)) (S2 13 (by decide) (by decide) (by decide) (by decide)) (fun i _ _ => by rw [F2 8 (by omega) (by omega)]) hco rfl (by omega)
      rw [F2 1 (by omega) (by omega)] at c6
      rw [c1, z_b2]
      have F3 : ∀ k, k ≠ 0 → (k < 9 ∨ 21 < k) → q_g μ3 k = q_g μM k := fun k k0 k1 => by rw [c2 k k0 k1, F2 k k0 k1]
      have S3 : ∀ j, j ≠ 14 → j ≠ 23 → j ≠ 24 → j ≠ 28 → q_g μ3 0 j = q_g μM 0 j := fun j j1 j2 j3 j4 => by rw [c3 j j1 j2 j3 j4, S2 j j1 j2 j3 j4]
      rcases c6 with ⟨rfl, hnf⟩ | ⟨rfl, hf1, -, hbest1⟩
      · rw [if_pos rfl]
        rcases a3 with ⟨q, -⟩ | ⟨-, -, rfl⟩ | ⟨-, q, -⟩
        · omega
        · exact ⟨_, μ1, μ3, a1, rfl, a2, F3, S3, Or.inl (by omega)⟩
        · exact absurd q.2 hnf
      · rw [if_neg (by decide)]
        rcases a3 with ⟨q, -⟩ | ⟨-, q, -⟩ | ⟨-, -, rfl, ⟨Y0, p0, m0, h0⟩, Y1, p1, m1, h1⟩
        · omega
        · exact absurd ⟨hf0, hf1⟩ q
        · obtain ⟨d1, d2, d3, d4⟩ := hbest0 Y0 p0 h0
          obtain ⟨e1, e2, e3, e4⟩ := hbest1 Y1 p1 h1
          have d6 : nd 6 := ⟨by decide, by decide⟩
          have bd : ∀ (s : Int) (Y : Int → Int → Int) (pi : Int → Int), bst n (fun p => sCut (q_g μM 1) p s) (loC (q_g μM 4) (q_g μM 5) (q_g μM 6) (q_g μM 7) n s (trN (tran (q_g μM 1)) (q_g μM 1) s) (q_g μM 0 6).toNat) (hiC (q_g μM 4) (q_g μM 5) (q_g μM 6) (q_g μM 7) n s (trN (tran (q_g μM 1)) (q_g μM 1) s) (q_g μM 0 6).toNat) (prM (q_g μM 8) (q_g μM 0 12) (q_g μM 0 13) n) Y pi → (∀ u v, nd u → nd v → 0 ≤ Y u v ∧ Y u v ≤ 1000000) ∧ (∀ p, 0 ≤ p → p < n → Y p 6 ≤ 1000) ∧ 0 ≤ valF n Y (coE (q_g μM 8) (q_g μM 0 12) (q_g μM 0 13) n) := by
            intro s Y pi h
            have hl := lhB_C (S := q_g μM 4) (T := q_g μM 5) (R := q_g μM 6) (V := q_g μM 7) (K := q_g μM 0 6) (st := s) (tr := trN (tran (q_g μM 1)) (q_g μM 1) s) hni hB (trN_bd hv)
            have hYb : ∀ u v, nd u → nd v → 0 ≤ Y u v ∧ Y u v ≤ 1000000 := fun u v hu hv' => by
              have q1 := h.1 u v hu hv'
              have q2 := hl.1 u v hu hv'
              omega
            refine ⟨hYb, fun p q0 q1 => ?_, ?_⟩
            · have q2 := h.1 p 6 ⟨q0, by omega⟩ d6
              have q3 := hl.2.2.2.1 p q0 q1
              omega
            · have := sm_le (f := fun _ => 0) (g := valE n Y (coE (q_g μM 8) (q_g μM 0 12) (q_g μM 0 13) n) (n * (n - 1) + 4 * n + 1)) (d := 49) (i := 0) (fun j a b => by
                have nu : nd (j / 7) := ⟨by omega, by omega⟩
                have nv : nd (j % 7) := ⟨by omega, by omega⟩
                have q1 := hYb (j / 7) (j % 7) nu nv
                have q2 : 0 ≤ coE (q_g μM 8) (q_g μM 0 12) (q_g μM 0 13) n (j / 7) (j % 7) := by
                  have u1 := nu.1
                  have v1 := nv.1
                  unfold coE cst
                  by_cases q : 0 ≤ plc n (j / 7) (j % 7)
                  · rw [if_pos q]
                    rcases plc_sp hni nu nv with h' | ⟨a', c', e', -⟩ | ⟨a', c', -⟩ | ⟨a', c', -⟩
                    · omega
                    · rw [if_neg (by omega), if_neg (by omega)]
                      have := (hco.1 (j / 7 * 5 + j % 7) (by omega) (by omega)).2
                      omega
                    · rw [if_pos a']
                      have := hco.2.1.2
                      omega
                    · rw [if_neg (by omega), if_pos a']
                      have := hco.2.2.2
                      omega
                  · rw [if_neg q]
                    exact Int.le_refl 0
                have q3 := Int.mul_nonneg q1.1 q2
                unfold valE
                by_cases q : 0 ≤ ei n (j / 7) (j % 7) ∧ ei n (j / 7) (j % 7) < n * (n - 1) + 4 * n + 1
                · rw [if_pos q]; exact q3
                · rw [if_neg q]; exact Int.le_refl 0)
              rw [sm_zero (f := fun _ => 0) (fun _ _ _ => rfl)] at this
              exact this
          obtain ⟨k1, k2, k3⟩ := bd 0 Y0 p0 h0
          obtain ⟨l1, l2, l3⟩ := bd 1 Y1 p1 h1
          refine ⟨0, μ1, μ3, a1, rfl, a2, F3, S3, Or.inr ⟨rfl, go, Y0, Y1, ⟨fun u v hu hv' => ?_, fun u v hu hv' h => ?_, fun p q0 q1 => ?_, k3, d4⟩, ⟨fun u v hu hv' => ?_, fun u v hu hv' h => e1 u v hu hv' h, fun p q0 q1 => ⟨e2 p q0 q1, l2 p q0 q1⟩, l3, e4⟩, ?_⟩⟩
          · have := m0 u v hu hv'
            exact ⟨this.1, this.2.2.2, k1 u v hu hv'⟩
          · have hp := plc_bd hni hu hv'
            rw [c4 _ (by omega)]
            exact d1 u v hu hv' h
          · rw [c5 _ (by omega)]
            exact ⟨d2 p q0 q1, k2 p q0 q1⟩
          · have := m1 u v hu hv'
            exact ⟨this.1, this.2.2.2, l1 u v hu hv'⟩
          · rw [e3, d3]
            show 0 + valF n Y0 _ + valF n Y1 _ = _
            omega
  · rw [if_neg go]
    rcases a3 with ⟨-, rfl⟩ | ⟨q, -⟩ | ⟨q, -⟩
    · exact ⟨_, μ1, μM, a1, rfl, a2, fun _ _ _ => rfl, fun _ _ _ _ _ => rfl, Or.inl (by omega)⟩
    · omega
    · omega
