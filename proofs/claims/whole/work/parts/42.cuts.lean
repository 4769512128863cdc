/-! orphans, transit, cuts: both sides count the same -/
theorem z_isOrphanM {n : Int} {m c : Int} {μ : q_M} (hv : rv n (q_g μ 1) c) (h0 : 0 ≤ m) (h1 : m < q_g μ 1 37) : f_M_isOrphan m μ = some (bi (orph (q_g μ 1) m)) := by
  have hv' := hv
  obtain ⟨hn, -, hl, hcl, -, -, -, -, -, -, -, -, hm, -⟩ := hv'
  obtain ⟨-, -, -, -, -, m4, m5⟩ := hm m h0 h1
  simp (disch := omega) only [f_M_isOrphan, z_ofMessage, z_b, z_jn, z_rz0, z_rz1]
  unfold orph
  by_cases g4 : mg (q_g μ 1) m 4 < 0
  · rw [if_pos g4]
    simp [show ¬ 0 ≤ mg (q_g μ 1) m 4 by omega, bi]
  · rw [if_neg g4]
    by_cases g5 : mg (q_g μ 1) m 5 < 0
    · rw [if_pos g5]
      simp [show ¬ 0 ≤ mg (q_g μ 1) m 5 by omega, bi]
    · rw [if_neg g5, z_isCut hv (by omega) (by omega), z_b, z_isCut hv (by omega) (by omega)]
      simp only [z_b, z_bib]
      cases cutE (q_g μ 1) (mg (q_g μ 1) m 5) <;> cases cutE (q_g μ 1) (mg (q_g μ 1) m 4) <;> simp [bi, show 0 ≤ mg (q_g μ 1) m 4 by omega, show 0 ≤ mg (q_g μ 1) m 5 by omega]
theorem z_isOrphan {o : Nat} {n : Int} {m c : Int} {μ : q_M} {w : Int → Int} (hc : rr_C o n μ w) (hv : rv n w c) (h0 : 0 ≤ m) (h1 : m < w 37) : f_Wo_isOrphan o m μ = some (bi (orph w m)) := by
  have hv' := hv
  obtain ⟨hn, -, hl, hcl, -, -, -, -, -, -, -, -, hm, -⟩ := hv'
  obtain ⟨-, -, -, -, -, m4, m5⟩ := hm m h0 h1
  have hc' := hc
  obtain ⟨-, -, -, -, -, -, -, -, -, -, -, hM⟩ := hc'
  obtain ⟨-, -, -, e4, e5⟩ := hM m h0 h1
  simp (disch := omega) only [f_Wo_isOrphan, z_ld, z_b, z_jn, z_rz0, z_rz1, e4, e5, z_inCut hc hv, z_bib]
  unfold orph
  by_cases g4 : mg w m 4 = -1
  · rw [if_pos g4]
    simp [g4, bi]
  · rw [if_neg g4]
    simp only [show decide (0 ≤ mg w m 4) = true from decide_eq_true (by omega), show decide (mg w m 4 < w 36) = true from decide_eq_true (by omega), show decide (mg w m 5 < w 36) = true from decide_eq_true (by omega), Bool.and_true, Bool.true_and]
    by_cases g5 : 0 ≤ mg w m 5
    · simp only [show decide (0 ≤ mg w m 5) = true from decide_eq_true g5, Bool.true_and]
      cases cutE w (mg w m 5) <;> cases cutE w (mg w m 4) <;> simp [bi]
    · simp only [show decide (0 ≤ mg w m 5) = false from decide_eq_false g5, Bool.false_and]
      cases cutE w (mg w m 4) <;> simp [bi]
theorem z_isInTransit {n : Int} {m c : Int} {μ : q_M} (hv : rv n (q_g μ 1) c) (h0 : 0 ≤ m) (h1 : m < q_g μ 1 37) : f_M_isInTransit m μ = some (bi (tran (q_g μ 1) m)) := by
  have hv' := hv
  obtain ⟨hn, -, hl, hcl, -, -, -, -, -, -, -, -, hm, -⟩ := hv'
  obtain ⟨-, -, -, -, -, m4, m5⟩ := hm m h0 h1
  simp (disch := omega) only [f_M_isInTransit, z_ofMessage, z_b, z_jn, z_rz0, z_rz1]
  unfold tran
  by_cases g4 : mg (q_g μ 1) m 4 < 0
  · by_cases g5 : mg (q_g μ 1) m 5 < 0
    · simp [g4, g5, bi]
    · rw [if_pos g4, if_neg g5, z_isCut hv (by omega) (by omega)]
      simp only [z_b, z_bib, g4, g5]
      cases cutE (q_g μ 1) (mg (q_g μ 1) m 5) <;> simp [bi]
  · rw [if_neg g4, z_isCut hv (by omega) (by omega)]
    by_cases g5 : mg (q_g μ 1) m 5 < 0
    · simp only [z_b, z_bib, g4, g5]
      cases cutE (q_g μ 1) (mg (q_g μ 1) m 4) <;> simp [bi]
    · rw [if_neg g5, z_isCut hv (by omega) (by omega)]
      simp only [z_b, z_bib, g4, g5]
      cases cutE (q_g μ 1) (mg (q_g μ 1) m 5) <;> cases cutE (q_g μ 1) (mg (q_g μ 1) m 4) <;> simp [bi]
theorem z_crossesCut {o : Nat} {n : Int} {m c : Int} {μ : q_M} {w : Int → Int} (hc : rr_C o n μ w) (hv : rv n w c) (h0 : 0 ≤ m) (h1 : m < w 37) : f_Wo_crossesCut o m μ = some (bi (tran w m)) := by
  have hv' := hv
  obtain ⟨hn, -, hl, hcl, -, -, -, -, -, -, -, -, hm, -⟩ := hv'
  obtain ⟨-, -, -, -, -, m4, m5⟩ := hm m h0 h1
  have hc' := hc
  obtain ⟨-, -, -, -, -, -, -, -, -, -, -, hM⟩ := hc'
  obtain ⟨-, -, -, e4, e5⟩ := hM m h0 h1
  simp (disch := omega) only [f_Wo_crossesCut, z_ld, z_b, z_jn, z_rz0, z_rz1, e4, e5, z_inCut hc hv, z_bib]
  unfold tran
  simp only [show decide (mg w m 4 < w 36) = true from decide_eq_true (by omega), show decide (mg w m 5 < w 36) = true from decide_eq_true (by omega), Bool.and_true]
  by_cases g4 : mg w m 4 = -1
  · rw [if_pos g4]
    by_cases g5 : 0 ≤ mg w m 5
    · simp only [show decide (0 ≤ mg w m 5) = true from decide_eq_true g5, Bool.true_and, show decide (mg w m 5 < 0) = false from decide_eq_false (by omega), show decide (mg w m 4 < 0) = true from decide_eq_true (by omega)]
      cases cutE w (mg w m 5) <;> simp [bi]
    · simp only [show decide (0 ≤ mg w m 5) = false from decide_eq_false g5, Bool.false_and, show decide (mg w m 5 < 0) = true from decide_eq_true (by omega), show decide (mg w m 4 < 0) = true from decide_eq_true (by omega)]
      simp [bi]
  · rw [if_neg g4]
    simp only [show decide (0 ≤ mg w m 4) = true from decide_eq_true (by omega), show decide (mg w m 4 < 0) = false from decide_eq_false (by omega), Bool.true_and, Bool.false_or]
    by_cases g5 : 0 ≤ mg w m 5
    · simp only [show decide (0 ≤ mg w m 5) = true from decide_eq_true g5, Bool.true_and, show decide (mg w m 5 < 0) = false from decide_eq_false (by omega)]
      cases cutE w (mg w m 5) <;> cases cutE w (mg w m 4) <;> simp [bi]
    · simp only [show decide (0 ≤ mg w m 5) = false from decide_eq_false g5, Bool.false_and, show decide (mg w m 5 < 0) = true from decide_eq_true (by omega)]
      cases cutE w (mg w m 4) <;> simp [bi]
theorem bi_bd (b : Bool) : 0 ≤ bi b ∧ bi b ≤ 1 := by cases b <;> decide
/-- the number of orphans -/
def nOrph (w : Int → Int) : Int := sm (fun m => bi (orph w m)) 0 (w 37).toNat
theorem nOrph_bd {w : Int → Int} (h : 0 ≤ w 37) : 0 ≤ nOrph w ∧ nOrph w ≤ w 37 := by
  have := sm_bd (f := fun m => bi (orph w m)) (a := 0) (b := 1) (d := (w 37).toNat) (i := 0) (fun j _ _ => bi_bd _)
  unfold nOrph
  omega
theorem z_orphansNow {N : Nat} {n c : Int} {μ : q_M} (hN : 1000 ≤ N) (hv : rv n (q_g μ 1) c) : f_M_orphansNow N μ = some (nOrph (q_g μ 1)) := by
  have hv' := hv
  obtain ⟨hn, -, hl, hcl, -⟩ := hv'
  unfold f_M_orphansNow
  refine ((lp_sum (F := f_M_orphansNow_L4 μ fun x3 => some x3) (E := some) (f := fun m => bi (orph (q_g μ 1) m)) (b := q_g μ 1 37) (fun x i => 0 ≤ x ∧ x ≤ i ∧ 0 ≤ i) ?_ ?_ (q_g μ 1 37).toNat N 0 0 (by omega) (by omega) (by omega)).1).trans (by simp [nOrph])
  · intro nf x hP
    rw [f_M_orphansNow_L4, z_ld (by omega) (by omega), if_pos (Int.le_refl _)]
  · intro nf x i hi hP
    have hb := bi_bd (orph (q_g μ 1) i)
    refine ⟨?_, by omega, by omega, by omega⟩
    rw [f_M_orphansNow_L4, z_ld (by omega) (by omega), if_neg (by omega), z_isOrphanM hv (by omega) hi]
    simp only [z_b, z_jn, z_bib]
    cases orph (q_g μ 1) i <;> simp (disch := omega) [bi, z_ck]
theorem z_countOrphans {N o : Nat} {n c : Int} {μ : q_M} {w : Int → Int} (hN : 1000 ≤ N) (hc : rr_C o n μ w) (hv : rv n w c) : f_Wo_countOrphans N o μ = some (nOrph w) := by
  have hv' := hv
  obtain ⟨hn, -, hl, hcl, -⟩ := hv'
  have hc' := hc
  obtain ⟨-, -, -, -, -, -, -, -, hlen, -⟩ := hc'
  unfold f_Wo_countOrphans
  refine ((lp_sum (F := f_Wo_countOrphans_L4 o μ fun x3 => some x3) (E := some) (f := fun m => bi (orph w m)) (b := w 37) (fun x i => 0 ≤ x ∧ x ≤ i ∧ 0 ≤ i) ?_ ?_ (w 37).toNat N 0 0 (by omega) (by omega) (by omega)).1).trans (by simp [nOrph])
  · intro nf x hP
    rw [f_Wo_countOrphans_L4, z_fl, Int.cast_ofNat_Int, hlen, if_pos (Int.le_refl _)]
  · intro nf x i hi hP
    have hb := bi_bd (orph w i)
    refine ⟨?_, by omega, by omega, by omega⟩
    rw [f_Wo_countOrphans_L4, z_fl, Int.cast_ofNat_Int, hlen, if_neg (by omega), z_isOrphan hc hv (by omega) hi]
    simp only [z_b, z_jn, z_bib]
    cases orph w i <;> simp (disch := omega) [bi, z_ck]
/-- the number of events in the cut -/
def nCut (n : Int) (w : Int → Int) : Int := sm (fun p => w (20 + p)) 0 n.toNat
theorem z_cutSize {N : Nat} {n c : Int} {μ : q_M} (hN : 1000 ≤ N) (hv : rv n (q_g μ 1) c) (hn0 : q_g μ 0 0 = n) : f_M_cutSize N μ = some (nCut n (q_g μ 1)) := by
  have hv' := hv
  obtain ⟨hn, -, hl, hcl, hp, -⟩ := hv'
  unfold f_M_cutSize
  refine ((lp_sum (F := f_M_cutSize_L4 μ fun x3 => some x3) (E := some) (f := fun p => q_g μ 1 (20 + p)) (b := n) (fun x i => 0 ≤ x ∧ x ≤ 100 * i ∧ 0 ≤ i) ?_ ?_ n.toNat N 0 0 (by omega) (by omega) (by omega)).1).trans (by simp [nCut])
  · intro nf x hP
    rw [f_M_cutSize_L4, z_fl, Int.cast_ofNat_Int, hn0, if_pos (Int.le_refl _)]
  · intro nf x i hi hP
    have hb := hp i (by omega) (by omega)
    obtain ⟨h1, h2, -⟩ := hb
    refine ⟨?_, by omega, by omega, by omega⟩
    rw [f_M_cutSize_L4, z_fl, Int.cast_ofNat_Int, hn0, if_neg (by omega)]
    simp (disch := omega) only [z_ck, z_ld]
theorem z_eventsInCut {N o : Nat} {n c : Int} {μ : q_M} {w : Int → Int} (hN : 1000 ≤ N) (hc : rr_C o n μ w) (hv : rv n w c) : f_Wo_eventsInCut N o μ = some (nCut n w) := by
  have hv' := hv
  obtain ⟨hn, -, hl, hcl, hp, -⟩ := hv'
  have hc' := hc
  obtain ⟨hn0, -, -, hcut, -⟩ := hc'
  unfold f_Wo_eventsInCut
  refine ((lp_sum (F := f_Wo_eventsInCut_L4 o μ fun x3 => some x3) (E := some) (f := fun p => w (20 + p)) (b := n) (fun x i => 0 ≤ x ∧ x ≤ 100 * i ∧ 0 ≤ i) ?_ ?_ n.toNat N 0 0 (by omega) (by omega) (by omega)).1).trans (by simp [nCut])
  · intro nf x hP
    rw [f_Wo_eventsInCut_L4, z_fl, Int.cast_ofNat_Int, hn0, if_pos (Int.le_refl _)]
  · intro nf x i hi hP
    have hb := hp i (by omega) (by omega)
    obtain ⟨h1, h2, -⟩ := hb
    refine ⟨?_, by omega, by omega, by omega⟩
    rw [f_Wo_eventsInCut_L4, z_fl, Int.cast_ofNat_Int, hn0, if_neg (by omega)]
    simp (disch := omega) only [z_ck, z_ld]
    rw [hcut i (by omega) (by omega)]
    simp (disch := omega) only [z_ck]
/-- the number of markers -/
def nMark (w : Int → Int) : Int := sm (fun k => bi (decide (0 ≤ w (38 + k)))) 0 25
theorem z_markers {N : Nat} {n c : Int} {μ : q_M} (hN : 1000 ≤ N) (hv : rv n (q_g μ 1) c) : f_M_markers N μ = some (nMark (q_g μ 1)) := by
  unfold f_M_markers
  refine ((lp_sum (F := f_M_markers_L4 μ fun x3 => some x3) (E := some) (f := fun k => bi (decide (0 ≤ q_g μ 1 (38 + k)))) (b := 25) (fun x i => 0 ≤ x ∧ x ≤ i ∧ 0 ≤ i) ?_ ?_ 25 N 0 0 (by omega) (by omega) (by omega)).1).trans (by simp [nMark])
  · intro nf x hP
    rw [f_M_markers_L4, if_pos (Int.le_refl _)]
  · intro nf x i hi hP
    have hb := bi_bd (decide (0 ≤ q_g μ 1 (38 + i)))
    refine ⟨?_, by omega, by omega, by omega⟩
    rw [f_M_markers_L4, if_neg (by omega)]
    simp (disch := omega) only [z_ck, z_ld, z_jn]
    by_cases g : q_g μ 1 (38 + i) < 0
    · rw [if_pos g]
      simp (disch := omega) [bi, z_ck, show ¬ 0 ≤ q_g μ 1 (38 + i) by omega]
    · rw [if_neg g]
      simp (disch := omega) [bi, z_ck, show 0 ≤ q_g μ 1 (38 + i) by omega]
theorem z_waitingMarkers {N o : Nat} {n c : Int} {μ : q_M} {w : Int → Int} (hN : 1000 ≤ N) (hc : rr_C o n μ w) (hv : rv n w c) : f_Ch_waitingMarkers N (o + 14) μ = some (nMark w) := by
  have hv' := hv
  obtain ⟨hn, -, hl, hcl, -, -, -, hmk, -⟩ := hv'
  have hc' := hc
  obtain ⟨-, -, -, -, -, -, hmark, -⟩ := hc'
  unfold f_Ch_waitingMarkers
  refine ((lp_sum (F := f_Ch_waitingMarkers_L4 (o + 14) μ fun x3 => some x3) (E := some) (f := fun k => bi (decide (0 ≤ w (38 + k)))) (b := 25) (fun x i => 0 ≤ x ∧ x ≤ i ∧ 0 ≤ i) ?_ ?_ 25 N 0 0 (by omega) (by omega) (by omega)).1).trans (by simp [nMark])
  · intro nf x hP
    rw [f_Ch_waitingMarkers_L4, if_pos (Int.le_refl _)]
  · intro nf x i hi hP
    have hb := bi_bd (decide (0 ≤ w (38 + i)))
    have hm := hmk i (by omega) hi
    refine ⟨?_, by omega, by omega, by omega⟩
    rw [f_Ch_waitingMarkers_L4, if_neg (by omega)]
    rw [z_ld (by omega) (by omega), show o + 14 + 6 = o + 20 from rfl, hmark i (by omega) hi]
    simp only [z_jn]
    by_cases g : w (38 + i) = -1
    · rw [if_pos g]
      simp (disch := omega) [bi, z_ck, g]
    · rw [if_neg g]
      simp (disch := omega) [bi, z_ck, show 0 ≤ w (38 + i) by omega]
/-- the stock of a process at the cut -/
def cutF (w : Int → Int) (p s : Int) (e : Int) : Int := if ev w e 0 = p ∧ ev w e 2 = s ∧ cutE w e = true then (if ev w e 1 = 1 then -ev w e 3 else ev w e 3) else 0
def sCut (w : Int → Int) (p s : Int) : Int := w (10 + (2 * p + s)) + sm (cutF w p s) 0 (w 36).toNat
theorem cutF_bd {n c p s e : Int} {w : Int → Int} (hv : rv n w c) (h0 : 0 ≤ e) (h1 : e < w 36) : -100 ≤ cutF w p s e ∧ cutF w p s e ≤ 100 := by
  obtain ⟨hn, -, hl, hcl, hp, -, -, -, -, -, -, he, -⟩ := hv
  obtain ⟨-, -, -, h3, -⟩ := he e h0 h1
  unfold cutF
  split
  · split <;> omega
  · omega
theorem sCut_bd {n c p s : Int} {w : Int → Int} (hv : rv n w c) (hp0 : 0 ≤ p) (hp1 : p < 5) (hs0 : 0 ≤ s) (hs1 : s ≤ 1) : -10000 ≤ sCut w p s ∧ sCut w p s ≤ 11000 := by
  have h := sm_bd (f := cutF w p s) (a := -100) (b := 100) (d := (w 36).toNat) (i := 0) (fun j h1 h2 => cutF_bd hv h1 (by omega))
  obtain ⟨hn, hst, hl, -⟩ := hv
  have := hst (10 + (2 * p + s)) (by omega) (by omega)
  unfold sCut
  omega
theorem z_stockThen {N : Nat} {n c p s : Int} {μ : q_M} (hN : 1000 ≤ N) (hv : rv n (q_g μ 1) c) (hp0 : 0 ≤ p) (hp1 : p < 5) (hs0 : 0 ≤ s) (hs1 : s ≤ 1) : f_M_stockThen N p s μ = some (sCut (q_g μ 1) p s) := by
  have hv' := hv
  obtain ⟨hn, hst, hl, hcl, hp, -, -, -, -, -, -, he, -⟩ := hv'
  have h0 := hst (10 + (2 * p + s)) (by omega) (by omega)
  unfold f_M_stockThen
  simp (disch := omega) only [z_ck, z_ld]
  rw [show 10 + 2 * p + s = 10 + (2 * p + s) by omega]
  refine (lp_sum (F := f_M_stockThen_L17 p s μ fun x3 => some x3) (E := some) (f := cutF (q_g μ 1) p s) (b := q_g μ 1 36) (fun x i => -100 * i ≤ x ∧ x ≤ 1000 + 100 * i ∧ 0 ≤ i) ?_ ?_ (q_g μ 1 36).toNat N _ 0 (by omega) (by omega) (by omega)).1
  · intro nf x hP
    rw [f_M_stockThen_L17, z_ld (by omega) (by omega), if_pos (Int.le_refl _)]
  · intro nf x i hi hP
    have hb := cutF_bd (p := p) (s := s) hv (e := i) (by omega) hi
    obtain ⟨-, -, -, h3, -⟩ := he i (by omega) hi
    refine ⟨?_, by omega, by omega, by omega⟩
    rw [f_M_stockThen_L17, z_ld (by omega) (by omega), if_neg (by omega)]
    simp (disch := omega) only [z_ofEvent, z_b, z_jn]
    rw [z_isCut hv (by omega) hi]
    simp only [z_b, z_bib]
    unfold cutF
    by_cases g0 : ev (q_g μ 1) i 0 = p
    · by_cases g2 : ev (q_g μ 1) i 2 = s
      · cases gc : cutE (q_g μ 1) i
        · simp (disch := omega) [g0, g2, z_ck]
        · by_cases g1 : ev (q_g μ 1) i 1 = 1
          · simp (disch := omega) [g0, g2, g1, z_ck]
          · simp (disch := omega) [g0, g2, g1, z_ck]
      · simp (disch := omega) [g0, g2, z_ck]
    · simp (disch := omega) [g0, z_ck]
theorem z_cutStock {N o : Nat} {n c p s : Int} {μ : q_M} {w : Int → Int} (hN : 1000 ≤ N) (hc : rr_C o n μ w) (hv : rv n w c) (hp0 : 0 ≤ p) (hp1 : p < 5) (hs0 : 0 ≤ s) (hs1 : s ≤ 1) : f_Wo_cutStock N o p s μ = some (sCut w p s) := by
  have hv' := hv
  obtain ⟨hn, hst, hl, hcl, hp, -, -, -, -, -, -, he, -⟩ := hv'
  have hc' := hc
  obtain ⟨-, -, hfs, -, -, -, -, hlen, -, -, hE, -⟩ := hc'
  have h0 := hst (10 + (2 * p + s)) (by omega) (by omega)
  unfold f_Wo_cutStock
  rw [z_slot (by omega) (by omega) hs0 hs1, z_b, z_ld (by omega) (by omega), hfs _ (by omega) (by omega), show 10 + (p * 2 + s) = 10 + (2 * p + s) by omega]
  refine (lp_sum (F := f_Wo_cutStock_L14 o p s μ fun x3 => some x3) (E := some) (f := cutF w p s) (b := w 36) (fun x i => -100 * i ≤ x ∧ x ≤ 1000 + 100 * i ∧ 0 ≤ i) ?_ ?_ (w 36).toNat N _ 0 (by omega) (by omega) (by omega)).1
  · intro nf x hP
    rw [f_Wo_cutStock_L14, z_fl, Int.cast_ofNat_Int, hlen, if_pos (Int.le_refl _)]
  · intro nf x i hi hP
    have hb := cutF_bd (p := p) (s := s) hv (e := i) (by omega) hi
    obtain ⟨-, -, -, h3, -⟩ := he i (by omega) hi
    obtain ⟨e0, e1, e2, e3, -⟩ := hE i (by omega) hi
    refine ⟨?_, by omega, by omega, by omega⟩
    rw [f_Wo_cutStock_L14, z_fl, Int.cast_ofNat_Int, hlen, if_neg (by omega)]
    simp (disch := omega) only [z_ld, z_b, z_jn, e0, e1, e2, e3, z_inCut hc hv, z_bib]
    simp only [show decide (0 ≤ i) = true from decide_eq_true (by omega), show decide (i < w 36) = true from decide_eq_true hi, Bool.true_and]
    unfold cutF
    by_cases g0 : ev w i 0 = p
    · by_cases g2 : ev w i 2 = s
      · cases gc : cutE w i
        · simp (disch := omega) [g0, g2, z_ck]
        · by_cases g1 : ev w i 1 = 1
          · simp (disch := omega) [g0, g2, g1, z_ck]
          · simp (disch := omega) [g0, g2, g1, z_ck]
      · simp (disch := omega) [g0, g2, z_ck]
    · simp (disch := omega) [g0, z_ck]
