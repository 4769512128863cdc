/-! the model's findFlow against the class's best flow -/
theorem nt_6' {X LO HI : Int → Int → Int} {n : Int} (hn : ni n) (hl : ∀ u v, nd u → nd v → plc n u v < 0 → ¬ (v = 6 ∧ u < n) → ¬ (u = 6 ∧ v = 5) → LO u v = 0 ∧ HI u v = 0) (hX : ∀ u v, nd u → nd v → LO u v ≤ X u v ∧ X u v ≤ HI u v) : nt X 6 = X 0 6 + X 1 6 + X 2 6 + X 3 6 + X 4 6 - X 6 5 := by
  have h5 : 2 ≤ n ∧ n ≤ 5 := by rcases hn with rfl | rfl | rfl | rfl <;> decide
  have d : ∀ v : Int, 0 ≤ v → v < 7 → nd v := fun v a b => ⟨a, b⟩
  have d6 := d 6 (by decide) (by decide)
  have z1 : ∀ v, nd v → v ≠ 5 → v ≠ 6 → X 6 v = 0 := fun v hv h h' => by
    have a := hl 6 v d6 hv (by rw [(plc6 hn hv).2]; decide) (fun q => h' q.1) (fun q => h q.2)
    have := hX 6 v d6 hv
    omega
  have z2 : X 5 6 = 0 := by
    have d5 := d 5 (by decide) (by decide)
    have a := hl 5 6 d5 d6 (by rw [(plc6 hn d5).1]; decide) (fun q => by omega) (fun q => absurd q.1 (by decide))
    have := hX 5 6 d5 d6
    omega
  unfold nt
  simp only [sm, Int.zero_add, Int.reduceAdd, Int.add_zero]
  have a0 := z1 0 (d 0 (by decide) (by decide)) (by decide) (by decide)
  have a1 := z1 1 (d 1 (by decide) (by decide)) (by decide) (by decide)
  have a2 := z1 2 (d 2 (by decide) (by decide)) (by decide) (by decide)
  have a3 := z1 3 (d 3 (by decide) (by decide)) (by decide) (by decide)
  have a4 := z1 4 (d 4 (by decide) (by decide)) (by decide) (by decide)
  omega
theorem nt_un' {X LO HI : Int → Int → Int} {n p : Int} (hn : ni n) (hl : ∀ u v, nd u → nd v → plc n u v < 0 → ¬ (v = 6 ∧ u < n) → ¬ (u = 6 ∧ v = 5) → LO u v = 0 ∧ HI u v = 0) (hX : ∀ u v, nd u → nd v → LO u v ≤ X u v ∧ X u v ≤ HI u v) (h1 : n ≤ p) (h2 : p < 5) : nt X p = 0 ∧ LO p 6 = 0 ∧ HI p 6 = 0 := by
  have h5 : 2 ≤ n ∧ n ≤ 5 := by rcases hn with rfl | rfl | rfl | rfl <;> decide
  have dp : nd p := ⟨by omega, by omega⟩
  have neg : ∀ u, nd u → plc n u p < 0 ∧ plc n p u < 0 := fun u hu => by
    have u1 := hu.1
    refine ⟨?_, ?_⟩
    · rcases plc_sp hn hu dp with h | ⟨a, c, e, -⟩ | ⟨a, c, -⟩ | ⟨a, c, -⟩ <;> omega
    · rcases plc_sp hn dp hu with h | ⟨a, c, e, -⟩ | ⟨a, c, -⟩ | ⟨a, c, -⟩ <;> omega
  refine ⟨?_, hl p 6 dp ⟨by decide, by decide⟩ (neg 6 ⟨by decide, by decide⟩).2 (by omega) (by omega)⟩
  unfold nt
  refine sm_zero (fun u a b => ?_)
  have hu : nd u := ⟨a, by omega⟩
  have c1 := hl u p hu dp (neg u hu).1 (by omega) (by omega)
  have c2 := hl p u dp hu (neg u hu).2 (by omega) (by omega)
  have e1 := hX u p hu dp
  have e2 := hX p u dp hu
  omega
theorem hiM_0 {S T R V : Int → Int} {n st tr : Int} {k : Nat} : ∀ u v, nd u → nd v → plc n u v < 0 → ¬ (v = 6 ∧ u < n) → ¬ (u = 6 ∧ v = 5) → loC S T R V n st tr k u v = 0 ∧ hiM S T R V n st tr k u v = 0 := by
  intro u v hu hv h1 h2 h3
  unfold loC hiM
  rw [if_neg h2, if_neg h3, if_neg (by omega), if_neg h2, if_neg h3]
  exact ⟨rfl, rfl⟩
theorem loC_pl {S T R V : Int → Int} {n st tr u v : Int} {k : Nat} (hn : ni n) (hu : nd u) (hv : nd v) (h : 0 ≤ plc n u v) : loC S T R V n st tr k u v = 0 ∧ hiM S T R V n st tr k u v = 100000 ∧ hiC S T R V n st tr k u v = 1000000 := by
  have d5 : nd 5 := ⟨by decide, by decide⟩
  have y1 : ¬ (v = 6 ∧ u < n) := fun q => by rw [q.1, (plc6 hn hu).1] at h; exact absurd h (by decide)
  have y2 : ¬ (u = 6 ∧ v = 5) := fun q => by rw [q.1, q.2, (plc6 hn d5).2] at h; exact absurd h (by decide)
  unfold loC hiM hiC
  rw [if_neg y1, if_neg y2, if_pos h, if_pos h]
  exact ⟨rfl, rfl, rfl⟩
theorem eB_of {S T R V mv : Int → Int} {n K s tr g b c : Int} {w : Int → Int} {μc : q_M} (hn : ni n) (hs : s = 0 ∨ s = 1) (hB : ruB n K S T R V) (hv : rv n w c) (ht : 0 ≤ tr ∧ tr ≤ 51200) (hG : gM S T R V n K s tr) (hco : coM mv g b μc) : eB n (fun p => sCut w p s) (coE mv g b n) (loC S T R V n s tr K.toNat) (hiM S T R V n s tr K.toNat) (loC S T R V n s tr K.toNat) := by
  have hn5 : 2 ≤ n ∧ n ≤ 5 := by rcases hn with rfl | rfl | rfl | rfl <;> decide
  have d5 : nd 5 := ⟨by decide, by decide⟩
  refine ⟨fun u v hu hv' => ⟨?_, ?_, fun h => ?_⟩, fun p p0 pn => ?_⟩
  · have u1 := hu.1
    by_cases q : 0 ≤ plc n u v
    · have := loC_pl (S := S) (T := T) (R := R) (V := V) (st := s) (tr := tr) (k := K.toNat) hn hu hv' q
      omega
    · by_cases y1 : v = 6 ∧ u < n
      · have := lohi_p (p := u) (s := s) (tr := tr) hn hB hG.2.1 u1 (by omega)
        rw [y1.1]
        omega
      · by_cases y2 : u = 6 ∧ v = 5
        · have m5 := hiM_65 (S := S) (T := T) (R := R) (V := V) (st := s) (tr := tr) (k := K.toNat) hn
          have l5 := loC_65 (S := S) (T := T) (R := R) (V := V) (n := n) (st := s) (tr := tr) (k := K.toNat)
          have g3 := hG.2.2
          rw [if_neg (by omega)] at m5
          have u8 := fH_bd (subj := 8) (st := s) (most := 100000) hB (by decide) K.toNat (by have := hB.1; omega)
          have m0 : 0 ≤ mx0 (fL S T R V 8 s K.toNat - tr) := by
            unfold mx0
            by_cases z : fL S T R V 8 s K.toNat - tr < 0
            · rw [if_pos z]; exact Int.le_refl 0
            · rw [if_neg z]; omega
          rw [y2.1, y2.2, m5, l5]
          omega
        · have := hiM_0 (S := S) (T := T) (R := R) (V := V) (st := s) (tr := tr) (k := K.toNat) u v hu hv' (by omega) y1 y2
          omega
  · unfold coE cst
    by_cases q : 0 ≤ plc n u v
    · rw [if_pos q]
      have u1 := hu.1
      have v1 := hv'.1
      rcases plc_sp hn hu hv' with h | ⟨a, c, e, -⟩ | ⟨a, c, -⟩ | ⟨a, c, -⟩
      · omega
      · rw [if_neg (by omega), if_neg (by omega)]
        have := (hco.1 (u * 5 + v) (by omega) (by omega)).2
        omega
      · rw [if_pos a]
        have := hco.2.1.2
        omega
      · rw [if_neg (by omega), if_pos a]
        have := hco.2.2.2
        omega
    · rw [if_neg q]; omega
  · rcases ei_sp hn hu hv' with ⟨-, q, y1, y2⟩ | ⟨a, b', c', h'⟩ | ⟨a, b', h'⟩ | ⟨a, b', h'⟩ | ⟨a, b', h'⟩ | ⟨a, b', h'⟩
    · have := hiM_0 (S := S) (T := T) (R := R) (V := V) (st := s) (tr := tr) (k := K.toNat) u v hu hv' q y1 y2
      omega
    · have := mv_rng hn hu.1 hv'.1 a b' c'
      omega
    · have := hv'.1
      have := q_rng hn
      omega
    · have := hu.1
      have := q_rng hn
      omega
    · have := hu.1
      have := q_rng hn
      omega
    · have := q_rng hn
      omega
  · have := sCut_bd (p := p) (s := s) hv p0 (by omega) (by omega) (by omega)
    show -20000 ≤ sCut w p s ∧ sCut w p s ≤ 20000
    omega
theorem z_findFlow {N : Nat} {n K c s g b c0 : Int} {S T R V mv : Int → Int} {μ μc : q_M} (hN : 200000 ≤ N) (hs : s = 0 ∨ s = 1) (hB : ruB n K S T R V) (hv : rv n (q_g μ 1) c) (hn0 : q_g μ 0 0 = n) (h6 : q_g μ 0 6 = K) (h4 : q_g μ 4 = S) (h5 : q_g μ 5 = T) (h7 : q_g μ 6 = R) (h8 : q_g μ 7 = V) (hg : q_g μ 0 12 = g) (hb : q_g μ 0 13 = b) (h8c : ∀ i, 0 ≤ i → i < 25 → q_g μ 8 i = mv i) (hco : coM mv g b μc) (hc0 : q_g μ 0 28 = c0) (hc0b : 0 ≤ c0 ∧ c0 ≤ 1000000000) :
    ∃ (y : Int) (μ' : q_M), f_M_findFlow N s μ = some (y, μ') ∧ (∀ k, k ≠ 0 → (k < 9 ∨ 21 < k) → q_g μ' k = q_g μ k) ∧ (∀ j, j ≠ 14 → j ≠ 23 → j ≠ 24 → j ≠ 28 → q_g μ' 0 j = q_g μ 0 j) ∧ (∀ j, j < 30 * s ∨ 30 * s + 30 ≤ j → q_g μ' 20 j = q_g μ 20 j) ∧ (∀ j, j % 2 ≠ s → q_g μ' 21 j = q_g μ 21 j) ∧ ((y = 0 ∧ ¬ feas S T R V n K (trN (tran (q_g μ 1)) (q_g μ 1)) s) ∨ (y = 1 ∧ feas S T R V n K (trN (tran (q_g μ 1)) (q_g μ 1)) s ∧ (0 ≤ q_g μ' 0 28 ∧ q_g μ' 0 28 ≤ c0 + 405000000) ∧ ∀ Y pi, bst n (fun p => sCut (q_g μ 1) p s) (loC S T R V n s (trN (tran (q_g μ 1)) (q_g μ 1) s) K.toNat) (hiC S T R V n s (trN (tran (q_g μ 1)) (q_g μ 1) s) K.toNat) (prM mv g b n) Y pi → (∀ u v, nd u → nd v → 0 ≤ plc n u v → q_g μ' 20 (30 * s + plc n u v) = Y u v) ∧ (∀ p, 0 ≤ p → p < n → q_g μ' 21 (2 * p + s) = Y p 6) ∧ q_g μ' 0 28 = c0 + cP n Y (coE mv g b n) (n * (n - 1) + 4 * n + 1) ∧ cP n Y (coE mv g b n) (n * (n - 1) + 4 * n + 1) ≤ 400000000)) := by
  have hn5 := hv.1
  have hn := ni_of hn5
  have hq := q_rng hn
  have htr := trN_bd (s := s) (f := tran (q_g μ 1)) hv
  have hfi := feas_iff (s := s) (tr := trN (tran (q_g μ 1)) (q_g μ 1)) hn hB htr
  obtain ⟨y, μ1, a1, a2, a3, a4, a5⟩ := z_layEdges (N := N) (g := g) (b := b) (mv := mv) (by omega) hs hB hv hn0 h6 h4 h5 h7 h8 hg hb h8c
  unfold f_M_findFlow
  rw [a1, z_b2]
  rcases a2 with ⟨rfl, hG⟩ | ⟨rfl, hG⟩
  · rw [if_neg (by decide)]
    have hEB := eB_of (g := g) (b := b) (mv := mv) (μc := μc) hn hs hB hv htr hG hco
    generalize htrE : trN (tran (q_g μ 1)) (q_g μ 1) s = tr at *
    generalize hF : (fun p => sCut (q_g μ 1) p s) = F at *
    have hFb : ∀ p, 0 ≤ p → p < n → -10000 ≤ F p ∧ F p ≤ 11000 := fun p q0 q1 => by
      rw [← hF]
      exact sCut_bd (p := p) (s := s) hv q0 (by omega) (by omega) (by omega)
    have d6 : nd 6 := ⟨by decide, by decide⟩
    have d5 : nd 5 := ⟨by decide, by decide⟩
    have hk := nt_k (X := loC S T R V n s tr K.toNat) (loC_k hn5)
    have q0 := lohi_p (p := 0) (s := s) (tr := tr) hn hB hG.2.1 (by decide) (by decide)
    have q1 := lohi_p (p := 1) (s := s) (tr := tr) hn hB hG.2.1 (by decide) (by decide)
    have q2 := lohi_p (p := 2) (s := s) (tr := tr) hn hB hG.2.1 (by decide) (by decide)
    have q3 := lohi_p (p := 3) (s := s) (tr := tr) hn hB hG.2.1 (by decide) (by decide)
    have q4 := lohi_p (p := 4) (s := s) (tr := tr) hn hB hG.2.1 (by decide) (by decide)
    have l65 : 0 ≤ loC S T R V n s tr K.toNat 6 5 ∧ loC S T R V n s tr K.toNat 6 5 ≤ 9999 := by
      have l8 := fL_bd (subj := 8) (st := s) hB K.toNat (by have := hB.1; omega)
      rw [loC_65]
      unfold mx0
      by_cases z : fL S T R V 8 s K.toNat - tr < 0
      · rw [if_pos z]; omega
      · rw [if_neg z]; omega
    have hij := ij_sum (f := F) hn
    have hs0 : sm (fun v => ijv n F v + nt (loC S T R V n s tr K.toNat) v) 0 7 = 0 := by
      simp only [sm, Int.zero_add, Int.reduceAdd, Int.add_zero] at hij ⊢
      rw [hk.1, hk.2.1, hk.2.2 0 (by decide) (by decide), hk.2.2 1 (by decide) (by decide), hk.2.2 2 (by decide) (by decide), hk.2.2 3 (by decide) (by decide), hk.2.2 4 (by decide) (by decide)]
      omega
    have ij6 : ijv n F 6 = 0 := by
      unfold ijv
      rw [if_neg (by omega), if_neg (by decide)]
    have hT : tp (fun v => ijv n F v + nt (loC S T R V n s tr K.toNat) v) ≤ 65000 := by
      refine tp_65 hs0 (fun p p0 p5 => ?_) ?_
      · show -11000 ≤ ijv n F p + nt (loC S T R V n s tr K.toNat) p ∧ ijv n F p + nt (loC S T R V n s tr K.toNat) p ≤ 11000
        rw [hk.2.2 p p0 p5]
        have := lohi_p (p := p) (s := s) (tr := tr) hn hB hG.2.1 p0 p5
        unfold ijv
        by_cases z : p < n
        · rw [if_pos z]
          have := hFb p p0 z
          omega
        · rw [if_neg z, if_neg (by omega)]
          omega
      · show -9999 ≤ ijv n F 6 + nt (loC S T R V n s tr K.toNat) 6 ∧ ijv n F 6 + nt (loC S T R V n s tr K.toNat) 6 ≤ 5000
        rw [hk.1]
        omega
    have htX : tX (loC S T R V n s tr K.toNat) ≤ 15000 := by
      have z : ∀ u v : Int, ¬ (v = 6) → ¬ (u = 6 ∧ v = 5) → loC S T R V n s tr K.toNat u v = 0 := fun u v h1 h2 => by
        unfold loC
        rw [if_neg (fun h => h1 h.1), if_neg h2]
      have z5 : loC S T R V n s tr K.toNat 5 6 = 0 := by
        unfold loC
        rw [if_neg (by omega), if_neg (by decide)]
      have z6 : loC S T R V n s tr K.toNat 6 6 = 0 := by
        unfold loC
        rw [if_neg (by omega), if_neg (by decide)]
      unfold tX
      simp only [sm, Int.zero_add, Int.reduceAdd, Int.reduceDiv, Int.reduceMod, Int.add_zero]
      simp (disch := decide) only [z, Int.zero_add, Int.add_zero]
      omega
    have hS : bIM 405000 2000000 n F (coE mv g b n) (loC S T R V n s tr K.toNat) (hiM S T R V n s tr K.toNat) (fun a e => loC S T R V n s tr K.toNat a e + 65000) (ijv n F) μ1 (loC S T R V n s tr K.toNat) (fun v => ijv n F v + nt (loC S T R V n s tr K.toNat) v) (fun _ => 0) := by
      refine ⟨a3, hEB, fun u v hu hv' => ⟨fun _ => ?_, fun q => absurd q (by omega)⟩, a4, hs0, fun v hv' => ?_, fun a e _ _ => ?_, ?_⟩
      · have := PMt_nn (B := 2000000) (n := n) (by decide) (hEB.1 u v hu hv').2.1.1
        show 0 ≤ PMt 2000000 n (coE mv g b n) u v + 0 - 0
        omega
      · show ijv n F v + nt (loC S T R V n s tr K.toNat) v - nt (loC S T R V n s tr K.toNat) v = ijv n F v
        omega
      · show loC S T R V n s tr K.toNat a e + tp (fun v => ijv n F v + nt (loC S T R V n s tr K.toNat) v) ≤ loC S T R V n s tr K.toNat a e + 65000
        omega
      · show tX (loC S T R V n s tr K.toNat) + 6 * tp (fun v => ijv n F v + nt (loC S T R V n s tr K.toNat) v) ≤ 405000
        omega
    obtain ⟨μ2, X, ex, pi1, rc, b1, b2, b3, b4, b5, b6⟩ := flowM (N := N) (K := fun μ6 => f_M_findFlow_L29 μ6 (fun x13 => f_M_findFlow_L65 s (fun μ22 => q_rz x13 (some (x13, μ22))) N 0 μ6) N 1 0) (by omega) hn (by decide) 65000 N μ1 _ _ _ hS (by omega) (by decide) (by omega)
    rw [b1]
    obtain ⟨hE2, hB2, hm2, hx2, hs2, hij2, hcap2, htc2⟩ := b3
    have hnn2 := tp_nn (ex := ex)
    obtain ⟨x', c1, c2⟩ := allM (K := fun x13 => f_M_findFlow_L65 s (fun μ22 => q_rz x13 (some (x13, μ22))) N 0 μ2) hx2 7 N 0 1 (by omega) (by omega) (by omega) (Or.inl ⟨rfl, fun v hv' h => absurd h (by have := hv'.1; omega)⟩)
    rw [c1]
    have hcost2 : q_g μ2 0 28 = c0 + cP n X (coE mv g b n) 0 := by
      have : cP n X (coE mv g b n) 0 = 0 := by
        unfold cP
        refine sm_zero (fun j j0 j1 => ?_)
        unfold valE
        rw [if_neg (by omega)]
      rw [this, b2 0 (by omega), a5.2 28 (by decide) (by decide) (by decide), hc0]
      omega
    obtain ⟨μ3, e1, e2, e3, e4, e5, e6, e7, e8⟩ := readM (s := s) (c0 := c0) (μ0 := μ2) (K := fun μ22 => q_rz x' (some (x', μ22))) hn hs hB2 (by omega) hc0b (n * (n - 1) + 4 * n + 1).toNat N 0 μ2 (by omega) (by omega) (by omega) hE2 hcost2 (fun u v _ _ _ h h' => by omega) (fun p p0 pn h => by
      have : ei n p 6 = n * (n - 1) + 4 * p + 3 := by
        unfold ei
        rw [if_neg (by omega), if_neg (by omega), if_neg (by omega), if_pos ⟨rfl, pn⟩]
      omega) (fun _ _ _ _ => rfl) (fun _ _ => rfl) (fun _ _ => rfl) (fun _ _ => rfl)
    rw [e1]
    have hx01 : x' = 0 ∨ x' = 1 := by
      rcases c2 with ⟨h, -⟩ | ⟨h, -⟩
      · exact Or.inr h
      · exact Or.inl h
    have hrz : q_rz x' (some (x', μ3)) = some (x', μ3) := by
      unfold q_rz
      rw [if_pos hx01]
    rw [hrz]
    have hXb : ∀ u v, nd u → nd v → loC S T R V n s tr K.toNat u v ≤ X u v ∧ X u v ≤ hiM S T R V n s tr K.toNat u v := fun u v hu hv' => ⟨(hB2.1 u v hu hv').1.2.1, (hB2.1 u v hu hv').1.2.2.1⟩
    have hcapx : ∀ u v, nd u → nd v → 0 ≤ plc n u v → X u v ≤ 65000 := fun u v hu hv' h => by
      have h1 : X u v + tp ex ≤ loC S T R V n s tr K.toNat u v + 65000 := hcap2 u v hu hv'
      have h2 := loC_pl (S := S) (T := T) (R := R) (V := V) (st := s) (tr := tr) (k := K.toNat) hn hu hv' h
      omega
    -- all is even exactly where the bounds can be kept
    have even : (∀ v, nd v → ex v = 0) ↔ cbl (loC S T R V n s tr K.toNat) (hiM S T R V n s tr K.toNat) := by
      have x6 := nt_6' hn (hiM_0 (S := S) (T := T) (R := R) (V := V) (n := n) (st := s) (tr := tr) (k := K.toNat)) hXb
      have i6 := hij2 6 d6
      constructor
      · intro hz
        have z6 := hz 6 d6
        have r0 := hXb 0 6 ⟨by decide, by decide⟩ d6
        have r1 := hXb 1 6 ⟨by decide, by decide⟩ d6
        have r2 := hXb 2 6 ⟨by decide, by decide⟩ d6
        have r3 := hXb 3 6 ⟨by decide, by decide⟩ d6
        have r4 := hXb 4 6 ⟨by decide, by decide⟩ d6
        have r5 := hXb 6 5 d6 d5
        exact ⟨⟨⟨by omega, by omega, by omega, by omega, by omega⟩, by omega⟩, by omega, by omega⟩
      · intro hcb
        refine exz (n := n) hXb hs2 b4 b5 b6 (fun p p0 pn => ?_) (fun p pn p0 p5 => ?_) (by omega) hcb.2.1 hcb.2.2
        · have dp : nd p := ⟨p0, by omega⟩
          have y1 : 0 ≤ plc n p 5 := by rw [plc_bn hn pn]; omega
          have y2 : 0 ≤ plc n 5 p := by rw [plc_gr hn pn]; omega
          have w1 := loC_pl (S := S) (T := T) (R := R) (V := V) (st := s) (tr := tr) (k := K.toNat) hn dp d5 y1
          have w2 := loC_pl (S := S) (T := T) (R := R) (V := V) (st := s) (tr := tr) (k := K.toNat) hn d5 dp y2
          have w3 := hcapx p 5 dp d5 y1
          have w4 := hcapx 5 p d5 dp y2
          omega
        · have w1 := nt_un' hn (hiM_0 (S := S) (T := T) (R := R) (V := V) (n := n) (st := s) (tr := tr) (k := K.toNat)) hXb pn p5
          have w2 := hij2 p ⟨p0, by omega⟩
          have : ijv n F p = 0 := by
            unfold ijv
            rw [if_neg (by omega), if_neg (by omega)]
          exact ⟨by omega, w1.2⟩
    refine ⟨x', μ3, rfl, fun k k0 k1 => by rw [e5 k k0 (by omega) (by omega), b2 k (by omega), a5.1 k k0 (by omega)], fun j j1 j2 j3 j4 => by rw [e6 j j4, b2 0 (by omega), a5.2 j j1 j2 j3], fun j hj => by rw [e7 j hj, b2 20 (by omega), a5.1 20 (by decide) (by omega)], fun j hj => by rw [e8 j hj, b2 21 (by omega), a5.1 21 (by decide) (by omega)], ?_⟩
    rcases c2 with ⟨hx1, hz⟩ | ⟨hx0, hz⟩
    · have hcb := even.mp hz
      have hcb2 := cP_bd (i := n * (n - 1) + 4 * n + 1) hB2
      refine Or.inr ⟨hx1, hfi.mpr ⟨hG, hcb⟩, by rw [e2]; omega, fun Y pi2 hY => ?_⟩
      obtain ⟨y1, y2, y3, y4, y5⟩ := hY
      have m5 := hiM_65 (S := S) (T := T) (R := R) (V := V) (st := s) (tr := tr) (k := K.toNat) hn
      have g3 := hG.2.2
      rw [if_neg (by omega)] at m5
      have h5c := hiC_65 (S := S) (T := T) (R := R) (V := V) (st := s) (tr := tr) (k := K.toNat) hn
      have hmn : mnI (n * 1000) (fH S T R V 8 s 100000 K.toNat - tr) ≤ fH S T R V 8 s 100000 K.toNat - tr ∧ ((fH S T R V 8 s 100000 K.toNat - tr < n * 1000 ∧ mnI (n * 1000) (fH S T R V 8 s 100000 K.toNat - tr) = fH S T R V 8 s 100000 K.toNat - tr) ∨ mnI (n * 1000) (fH S T R V 8 s 100000 K.toNat - tr) = n * 1000) := by
        unfold mnI
        by_cases z : fH S T R V 8 s 100000 K.toNat - tr < n * 1000
        · rw [if_pos z]; exact ⟨Int.le_refl _, Or.inl ⟨z, rfl⟩⟩
        · rw [if_neg z]; exact ⟨by omega, Or.inr rfl⟩
      -- X in the class's bounds
      have hXC : ∀ u v, nd u → nd v → loC S T R V n s tr K.toNat u v ≤ X u v ∧ X u v ≤ hiC S T R V n s tr K.toNat u v := fun u v hu hv' => by
        have hb1 := hXb u v hu hv'
        refine ⟨hb1.1, ?_⟩
        have u1 := hu.1
        by_cases q : 0 ≤ plc n u v
        · have w1 := loC_pl (S := S) (T := T) (R := R) (V := V) (st := s) (tr := tr) (k := K.toNat) hn hu hv' q
          have w2 := hcapx u v hu hv' q
          omega
        · by_cases z1 : v = 6 ∧ u < n
          · have w1 := lohi_p (p := u) (s := s) (tr := tr) hn hB hG.2.1 u1 (by omega)
            rw [z1.1] at hb1 ⊢
            omega
          · by_cases z2 : u = 6 ∧ v = 5
            · have x6 := nt_6' hn (hiM_0 (S := S) (T := T) (R := R) (V := V) (n := n) (st := s) (tr := tr) (k := K.toNat)) hXb
              have i6 := hij2 6 d6
              have z6 := hz 6 d6
              have r0 := hXb 0 6 ⟨by decide, by decide⟩ d6
              have r1 := hXb 1 6 ⟨by decide, by decide⟩ d6
              have r2 := hXb 2 6 ⟨by decide, by decide⟩ d6
              have r3 := hXb 3 6 ⟨by decide, by decide⟩ d6
              have r4 := hXb 4 6 ⟨by decide, by decide⟩ d6
              have hsum : X 0 6 + X 1 6 + X 2 6 + X 3 6 + X 4 6 ≤ n * 1000 := by
                rcases hn with rfl | rfl | rfl | rfl
                · have w2 := q2.2.2.2.2 (by decide)
                  have w3 := q3.2.2.2.2 (by decide)
                  have w4 := q4.2.2.2.2 (by decide)
                  omega
                · have w3 := q3.2.2.2.2 (by decide)
                  have w4 := q4.2.2.2.2 (by decide)
                  omega
                · have w4 := q4.2.2.2.2 (by decide)
                  omega
                · omega
              rw [z2.1, z2.2] at hb1 ⊢
              omega
            · have w1 := hiM_0 (S := S) (T := T) (R := R) (V := V) (n := n) (st := s) (tr := tr) (k := K.toNat) u v hu hv' (by omega) z1 z2
              have w2 : hiC S T R V n s tr K.toNat u v = 0 := by
                unfold hiC
                rw [if_neg q, if_neg z1, if_neg z2]
              omega
      have hYM : ∀ u v, nd u → nd v → loC S T R V n s tr K.toNat u v ≤ Y u v ∧ Y u v ≤ hiM S T R V n s tr K.toNat u v := fun u v hu hv' => by
        have hb1 := y1 u v hu hv'
        refine ⟨hb1.1, ?_⟩
        have u1 := hu.1
        by_cases q : 0 ≤ plc n u v
        · have w1 := loC_pl (S := S) (T := T) (R := R) (V := V) (st := s) (tr := tr) (k := K.toNat) hn hu hv' q
          have w2 := y4 u v hu hv' q
          omega
        · by_cases z1 : v = 6 ∧ u < n
          · have w1 := lohi_p (p := u) (s := s) (tr := tr) hn hB hG.2.1 u1 (by omega)
            rw [z1.1] at hb1 ⊢
            omega
          · by_cases z2 : u = 6 ∧ v = 5
            · rw [z2.1, z2.2] at hb1 ⊢
              omega
            · have w1 := hiM_0 (S := S) (T := T) (R := R) (V := V) (n := n) (st := s) (tr := tr) (k := K.toNat) u v hu hv' (by omega) z1 z2
              have w2 : hiC S T R V n s tr K.toNat u v = 0 := by
                unfold hiC
                rw [if_neg q, if_neg z1, if_neg z2]
              omega
      have hXY := uniq (B := 2000000) (cost := coE mv g b n) (place := plc n) (by decide) hXC hYM (fun v hv' => by
        have w1 := hij2 v hv'
        have w2 := hz v hv'
        have w3 := y3 v hv'
        omega) hm2 y2 (fun u v hu hv' => prM_hx hn hu hv') (fun u v _ _ => rfl) (fun u v u' v' hu hv' hu' hv'' h0 h => plc_inj hn hu hv' hu' hv'' h0 h) (fun u v hu hv' => (plc_bd hn hu hv').2.2) (fun u v hu hv' h hne => by
        by_cases z1 : v = 6 ∧ u < n
        · exact Or.inl ⟨z1.1, by omega, by omega⟩
        · by_cases z2 : u = 6 ∧ v = 5
          · exact Or.inr z2
          · have w1 := hiM_0 (S := S) (T := T) (R := R) (V := V) (n := n) (st := s) (tr := tr) (k := K.toNat) u v hu hv' h z1 z2
            have w2 := hXb u v hu hv'
            have w3 := hYM u v hu hv'
            omega)
      have hval : cP n X (coE mv g b n) (n * (n - 1) + 4 * n + 1) = cP n Y (coE mv g b n) (n * (n - 1) + 4 * n + 1) := by
        unfold cP
        refine sm_cong (fun j j0 j1 => ?_)
        unfold valE
        rw [hXY (j / 7) (j % 7) ⟨by omega, by omega⟩ ⟨by omega, by omega⟩]
      have htXY : tX X = tX Y := by
        unfold tX
        refine sm_cong (fun j j0 j1 => ?_)
        exact hXY (j / 7) (j % 7) ⟨by omega, by omega⟩ ⟨by omega, by omega⟩
      refine ⟨fun u v hu hv' h => ?_, fun p p0 pn => by rw [e4 p p0 pn]; exact hXY p 6 ⟨p0, by omega⟩ d6, by rw [e2, hval], ?_⟩
      · have : 0 ≤ ei n u v := by
          rcases ei_sp hn hu hv' with ⟨-, q, -⟩ | ⟨w1, w2, w3, h'⟩ | ⟨w1, w2, h'⟩ | ⟨w1, w2, h'⟩ | ⟨w1, w2, h'⟩ | ⟨w1, w2, h'⟩
          · omega
          · have := mv_rng hn hu.1 hv'.1 w1 w2 w3
            omega
          · have := hv'.1
            omega
          · have := hu.1
            omega
          · have := hu.1
            omega
          · omega
        rw [e3 u v hu hv' h this]
        exact hXY u v hu hv'
      · rw [← hval]
        have := (cP_bd (i := n * (n - 1) + 4 * n + 1) hB2).2
        rw [htXY] at this
        omega
    · refine Or.inl ⟨hx0, fun h => hz (even.mpr (hfi.mp h).2)⟩
  · rw [if_pos rfl]
    exact ⟨0, μ1, rfl, fun k k0 k1 => a5.1 k k0 (by omega), fun j j1 j2 j3 _ => a5.2 j j1 j2 j3, fun j _ => by rw [a5.1 20 (by decide) (by omega)], fun j _ => by rw [a5.1 21 (by decide) (by omega)], Or.inl ⟨rfl, fun h => hG (hfi.mp h).1⟩⟩
