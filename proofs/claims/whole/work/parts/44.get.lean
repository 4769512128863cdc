theorem s_event {N : Nat} : q_st_event N vI := by
  intro c μC μM hc hI a0 h0 a1 h1
  refine (fun (x : ∃ r, f_CR_event a0 a1 μC = some r ∧ f_M_event a0 a1 μM = some r) => x.elim fun r h => ⟨r, h.1, h.2, vI_up hc hI⟩) ?_
  obtain ⟨n, hr, hv, hn, hA, hT, hU, hK⟩ := hI
  obtain ⟨e0, -, -, -, -, -, -, e7, e8, -, eE, eM⟩ := hr
  obtain ⟨v0, -, v2, v3, -, -, -, -, -, -, -, vE, vM, -⟩ := hv
  simp only [f_CR_event, f_M_event, z_isEvent e7 v2.1 v2.2, z_noEvent rfl v2.1 v2.2, z_b, z_bz, z_zb, z_jn, z_within, z_in]
  by_cases g : 0 ≤ a0 ∧ a0 ≤ q_g μM 1 36 - 1
  · rw [if_neg (not_not_intro g), if_pos g]
    by_cases g1 : 0 ≤ a1 ∧ a1 ≤ 5
    · rw [if_neg (not_not_intro g1), if_neg (not_not_intro g1)]
      obtain ⟨x0, x1, x2, x3, x4, x5, x6, -⟩ := eE a0 g.1 (by omega)
      obtain ⟨y0, y1, -, -, -, y5, y6, -⟩ := vE a0 g.1 (by omega)
      unfold f_Wo_eventProperty
      by_cases i0 : a1 = 0
      · subst i0
        simp (disch := omega) only [z_ld, z_b, x0, z_ofEvent, if_true, if_false, show ¬ (5 : Int) ≤ 0 by omega]
        exact ⟨_, rfl, rfl⟩
      by_cases i1 : a1 = 1
      · subst i1
        simp (disch := omega) only [z_ld, z_b, x1, z_ofEvent, if_true, if_false, show ¬ (5 : Int) ≤ 1 by omega, show ¬ (1 : Int) = 0 by omega]
        exact ⟨_, rfl, rfl⟩
      by_cases i2 : a1 = 2
      · subst i2
        simp (disch := omega) only [z_ld, z_b, x2, z_ofEvent, if_true, if_false, show ¬ (5 : Int) ≤ 2 by omega, show ¬ (2 : Int) = 0 by omega, show ¬ (2 : Int) = 1 by omega]
        exact ⟨_, rfl, rfl⟩
      by_cases i3 : a1 = 3
      · subst i3
        simp (disch := omega) only [z_ld, z_b, x3, z_ofEvent, if_true, if_false, show ¬ (5 : Int) ≤ 3 by omega, show ¬ (3 : Int) = 0 by omega, show ¬ (3 : Int) = 1 by omega, show ¬ (3 : Int) = 2 by omega]
        exact ⟨_, rfl, rfl⟩
      by_cases i4 : a1 = 4
      · subst i4
        simp (disch := omega) only [z_ld, z_b, x4, z_ofEvent, if_true, if_false, show ¬ (5 : Int) ≤ 4 by omega, show ¬ (4 : Int) = 0 by omega, show ¬ (4 : Int) = 1 by omega, show ¬ (4 : Int) = 2 by omega, show ¬ (4 : Int) = 3 by omega]
        exact ⟨_, rfl, rfl⟩
      rw [if_neg i0, if_neg i1, if_neg i2, if_neg i3, if_neg i4, if_pos (by omega)]
      simp (disch := omega) only [f_Wo_partnerOf, z_ld, z_fl, z_ck, z_within, z_b, z_bz, z_jn, z_ofEvent, x5, x1, e8, Int.cast_ofNat_Int]
      by_cases j : 0 ≤ ev (q_g μM 1) a0 5
      · have j1 : ev (q_g μM 1) a0 5 < q_g μM 1 37 := by
          by_cases k : ev (q_g μM 1) a0 1 = 0
          · have := (y5 k).2
            omega
          · exact (y6 k).2.1.2
        obtain ⟨-, -, -, m4, m5⟩ := eM _ j j1
        obtain ⟨-, -, -, -, -, n4, n5⟩ := vM _ j j1
        rw [if_neg (not_not_intro ⟨j, by omega⟩), if_pos j]
        by_cases k : ev (q_g μM 1) a0 1 = 1
        · rw [if_pos k, if_pos k]
          simp (disch := omega) only [z_ofMessage, z_b, z_ld, m5]
          by_cases l : mg (q_g μM 1) (ev (q_g μM 1) a0 5) 5 = -1
          · rw [if_pos l, if_neg (by omega)]
            exact ⟨_, rfl, rfl⟩
          · rw [if_neg l, if_pos (by omega)]
            exact ⟨_, rfl, rfl⟩
        · rw [if_neg k, if_neg k]
          simp (disch := omega) only [z_ofMessage, z_b, z_ld, m4]
          by_cases l : mg (q_g μM 1) (ev (q_g μM 1) a0 5) 4 = -1
          · rw [if_pos l, if_neg (by omega)]
            exact ⟨_, rfl, rfl⟩
          · rw [if_neg l, if_pos (by omega)]
            exact ⟨_, rfl, rfl⟩
      · rw [if_pos (fun h => j h.1), if_neg j, if_neg (by omega)]
        exact ⟨_, rfl, rfl⟩
    · rw [if_pos g1, if_pos g1]
      exact ⟨_, rfl, rfl⟩
  · rw [if_pos g, if_neg g]
    exact ⟨_, rfl, rfl⟩
def know (w : Int → Int) (a b : Int) : Bool := decide (ev w a 6 < ev w b (7 + ev w a 0))
theorem z_happensBefore {o : Nat} {n c a b : Int} {μ : q_M} {w : Int → Int} (hc : rr_C o n μ w) (hv : rv n w c) (ha0 : 0 ≤ a) (ha1 : a < w 36) (hb0 : 0 ≤ b) (hb1 : b < w 36) : f_Hi_happensBefore (o + 4) a b μ = some (bi (!decide (a = b) && know w a b)) := by
  obtain ⟨-, -, -, -, -, -, -, e7, e8, -, eE, eM⟩ := hc
  obtain ⟨v0, -, v2, v3, -, -, -, -, -, -, -, vE, vM, -⟩ := hv
  obtain ⟨x0, -, -, -, -, -, x6, -⟩ := eE a ha0 ha1
  obtain ⟨-, -, -, -, -, -, -, xq⟩ := eE b hb0 hb1
  obtain ⟨y0, -⟩ := vE a ha0 ha1
  simp only [f_Hi_happensBefore, z_jn, z_rz0, z_rz1]
  by_cases g : a = b
  · rw [if_pos g]
    simp [g, bi]
  · rw [if_neg g]
    simp (disch := omega) only [z_ck, z_ld, show o + 4 + 1 = o + 5 from rfl, show o + 4 + 7 = o + 11 from rfl, show o + 4 + 8 = o + 12 from rfl, x0, x6, xq]
    unfold know bi
    by_cases k : ev w b (7 + ev w a 0) ≤ ev w a 6
    · rw [if_pos k]
      simp [show ¬ ev w a 6 < ev w b (7 + ev w a 0) by omega]
    · rw [if_neg k]
      simp [g, show ev w a 6 < ev w b (7 + ev w a 0) by omega]
theorem z_isKnown {n c a b : Int} {μ : q_M} (hv : rv n (q_g μ 1) c) (ha0 : 0 ≤ a) (ha1 : a < q_g μ 1 36) (hb0 : 0 ≤ b) (hb1 : b < q_g μ 1 36) : f_M_isKnown a b μ = some (bi (know (q_g μ 1) a b)) := by
  obtain ⟨v0, -, v2, v3, -, -, -, -, -, -, -, vE, vM, -⟩ := hv
  obtain ⟨y0, -⟩ := vE a ha0 ha1
  simp (disch := omega) only [f_M_isKnown, z_jn, z_rz0, z_rz1, z_ofEvent, z_ck, z_b]
  unfold know bi
  by_cases k : ev (q_g μ 1) b (7 + ev (q_g μ 1) a 0) ≤ ev (q_g μ 1) a 6
  · rw [if_pos k]
    simp [show ¬ ev (q_g μ 1) a 6 < ev (q_g μ 1) b (7 + ev (q_g μ 1) a 0) by omega]
  · rw [if_neg k]
    simp [show ev (q_g μ 1) a 6 < ev (q_g μ 1) b (7 + ev (q_g μ 1) a 0) by omega]
theorem s_order {N : Nat} : q_st_order N vI := by
  intro c μC μM hc hI a0 h0 a1 h1
  refine (fun (x : ∃ r, f_CR_order a0 a1 μC = some r ∧ f_M_order a0 a1 μM = some r) => x.elim fun r h => ⟨r, h.1, h.2, vI_up hc hI⟩) ?_
  obtain ⟨n, hr, hv, hn, hA, hT, hU, hK⟩ := hI
  have e7 := hr.2.2.2.2.2.2.2.1
  have v2 := hv.2.2.1
  simp only [f_CR_order, f_M_order, z_isEvent e7 v2.1 v2.2, z_noEvent rfl v2.1 v2.2, z_b, z_bz, z_zb, z_jn]
  by_cases g : 0 ≤ a0 ∧ a0 ≤ q_g μM 1 36 - 1
  · rw [if_neg (not_not_intro g), if_pos g]
    by_cases g1 : 0 ≤ a1 ∧ a1 ≤ q_g μM 1 36 - 1
    · rw [if_neg (not_not_intro g1), if_pos g1, show (5 : Nat) = 1 + 4 from rfl, z_happensBefore hr hv g.1 (by omega) g1.1 (by omega), z_happensBefore hr hv g1.1 (by omega) g.1 (by omega), z_isKnown hv g.1 (by omega) g1.1 (by omega), z_isKnown hv g1.1 (by omega) g.1 (by omega)]
      by_cases k : a0 = a1
      · exact ⟨0, by simp [k, bi, q_b], by rw [if_pos k]⟩
      · simp only [z_b, z_bib, k, Ne.symm k, decide_false, Bool.not_false, Bool.true_and, if_false]
        cases know (q_g μM 1) a0 a1 <;> cases know (q_g μM 1) a1 a0 <;> exact ⟨_, rfl, rfl⟩
    · rw [if_pos g1, if_neg g1]
      exact ⟨_, rfl, rfl⟩
  · rw [if_pos g, if_neg g]
    exact ⟨_, rfl, rfl⟩
/-- the number of waiting messages -/
def nWait (w : Int → Int) : Int := sm (fun m => bi (decide (mg w m 5 < 0))) 0 (w 37).toNat
theorem z_waitingMessages {N o : Nat} {n c : Int} {μ : q_M} {w : Int → Int} (hN : 1000 ≤ N) (hc : rr_C o n μ w) (hv : rv n w c) : f_Ch_waitingMessages N (o + 14) μ = some (nWait w) := by
  obtain ⟨-, -, -, -, -, -, -, e7, e8, -, eE, eM⟩ := hc
  obtain ⟨v0, -, v2, v3, -, -, -, -, -, -, -, vE, vM, -⟩ := hv
  unfold f_Ch_waitingMessages
  refine ((lp_sum (F := f_Ch_waitingMessages_L4 (o + 14) μ fun x3 => some x3) (E := some) (f := fun m => bi (decide (mg w m 5 < 0))) (b := w 37) (fun x i => 0 ≤ x ∧ x ≤ i ∧ 0 ≤ i) ?_ ?_ (w 37).toNat N 0 0 (by omega) (by omega) (by omega)).1).trans (by simp [nWait])
  · intro nf x hP
    rw [f_Ch_waitingMessages_L4, z_fl, Int.cast_ofNat_Int, e8, if_pos (Int.le_refl _)]
  · intro nf x i hi hP
    have hb := bi_bd (decide (mg w i 5 < 0))
    refine ⟨?_, by omega, by omega, by omega⟩
    obtain ⟨-, -, -, -, m5⟩ := eM i (by omega) hi
    obtain ⟨-, -, -, -, -, -, n5⟩ := vM i (by omega) hi
    rw [f_Ch_waitingMessages_L4, z_fl, Int.cast_ofNat_Int, e8, if_neg (by omega), z_ld (by omega) (by omega), show o + 14 + 5 = o + 19 from rfl, m5]
    simp only [z_jn]
    by_cases g : mg w i 5 = -1
    · rw [if_pos g]
      simp (disch := omega) [bi, z_ck, g]
    · rw [if_neg g]
      simp (disch := omega) [bi, z_ck, show ¬ mg w i 5 < 0 by omega]
theorem s_count {N : Nat} (hN : 1000 ≤ N) : q_st_count N vI := by
  intro c μC μM hc hI a0 h0
  refine (fun (x : ∃ r, f_CR_count N a0 μC = some r ∧ f_M_count N a0 μM = some r) => x.elim fun r h => ⟨r, h.1, h.2, vI_up hc hI⟩) ?_
  obtain ⟨n, hr, hv, hn, hA, hT, hU, hK⟩ := hI
  have hv' := hv
  obtain ⟨v0, -, v2, v3, -⟩ := hv'
  have hr' := hr
  obtain ⟨e0, -, -, -, -, -, -, e7, e8, e9, -⟩ := hr'
  simp only [f_CR_count, f_M_count]
  refine ⟨if a0 = 0 then n else if a0 = 1 then q_g μM 1 36 else if a0 = 2 then nWait (q_g μM 1) else if a0 = 3 then nMark (q_g μM 1) else if a0 = 4 then q_g μM 0 6 else if a0 = 5 then q_g μM 1 35 else if a0 = 6 then nCut n (q_g μM 1) else if a0 = 7 then q_g μM 0 3 else -100002, ?_, ?_⟩
  · rw [show (15 : Nat) = 1 + 14 from rfl, z_waitingMessages hN hr hv, z_waitingMarkers hN hr hv, z_eventsInCut hN hr hv]
    simp only [z_b, z_fl, z_jn, Int.cast_ofNat_Int]
    have h1 : q_g μC 5 0 = q_g μM 1 36 := e7
    have h2 : q_g μC 22 0 = q_g μM 1 35 := e9
    simp only [e0, h1, h2, hU.1, hA.1]
    have := hA.2.1
    repeat' split
    all_goals first | rfl | (congr 1; omega)
  · refine (lp_sum (F := f_M_count_L4 μM _) (E := fun x => if a0 = 0 then some n else if a0 = 1 then some (q_g μM 1 36) else if a0 = 2 then some x else if a0 = 3 then some (nMark (q_g μM 1)) else if a0 = 4 then some (q_g μM 0 6) else if a0 = 5 then some (q_g μM 1 35) else if a0 = 6 then some (nCut n (q_g μM 1)) else if a0 = 7 then some (q_g μM 0 3) else some (-100002)) (f := fun m => bi (decide (mg (q_g μM 1) m 5 < 0))) (b := q_g μM 1 37) (fun x i => 0 ≤ x ∧ x ≤ i ∧ 0 ≤ i) ?_ ?_ (q_g μM 1 37).toNat N 0 0 (by omega) (by omega) (by omega)).1.trans ?_
    · intro nf x hP
      rw [f_M_count_L4, z_ld (by omega) (by omega), if_pos (Int.le_refl _), z_markers hN hv, z_cutSize hN hv hn]
      simp (disch := omega) only [z_b, z_fl, z_jn, Int.cast_ofNat_Int, z_ld, hn]
      have := hA.2.1
      repeat' split
      all_goals first | rfl | (congr 1; omega)
    · intro nf x i hi hP
      have hb := bi_bd (decide (mg (q_g μM 1) i 5 < 0))
      refine ⟨?_, by omega, by omega, by omega⟩
      rw [f_M_count_L4, z_ld (by omega) (by omega), if_neg (by omega), z_ofMessage (by omega) (by omega) (by omega) (by omega)]
      simp only [z_jn, z_b]
      by_cases g : 0 ≤ mg (q_g μM 1) i 5
      · rw [if_pos g]
        simp (disch := omega) [bi, z_ck, show ¬ mg (q_g μM 1) i 5 < 0 by omega]
      · rw [if_neg g]
        simp (disch := omega) [bi, z_ck, show mg (q_g μM 1) i 5 < 0 by omega]
    · rw [show 0 + sm (fun m => bi (decide (mg (q_g μM 1) m 5 < 0))) 0 (q_g μM 1 37).toNat = nWait (q_g μM 1) by simp [nWait]]
      repeat' split
      all_goals rfl
theorem s_orphans {N : Nat} (hN : 1000 ≤ N) : q_st_orphans N vI := by
  intro c μC μM hc hI
  refine (fun (x : ∃ r, f_CR_orphans N μC = some r ∧ f_M_orphans N μM = some r) => x.elim fun r h => ⟨r, h.1, h.2, vI_up hc hI⟩) ?_
  obtain ⟨n, hr, hv, hn, hA, hT, hU, hK⟩ := hI
  simp only [f_CR_orphans, f_M_orphans, z_countOrphans hN hr hv, z_orphansNow hN hv, z_b]
  exact ⟨_, rfl, rfl⟩
theorem s_stockAtCut {N : Nat} (hN : 1000 ≤ N) : q_st_stockAtCut N vI := by
  intro c μC μM hc hI a0 h0 a1 h1
  refine (fun (x : ∃ r, f_CR_stockAtCut N a0 a1 μC = some r ∧ f_M_stockAtCut N a0 a1 μM = some r) => x.elim fun r h => ⟨r, h.1, h.2, vI_up hc hI⟩) ?_
  obtain ⟨n, hr, hv, hn, hA, hT, hU, hK⟩ := hI
  have v0 := hv.1
  simp only [f_CR_stockAtCut, f_M_stockAtCut, z_isProcess hr.1 v0.1 v0.2, z_noStock hn v0.1 v0.2, z_isStock, z_b, z_bz, z_zb, z_jn]
  by_cases g : 0 ≤ a0 ∧ a0 ≤ n - 1
  · by_cases g1 : 0 ≤ a1 ∧ a1 ≤ 1
    · rw [if_neg (not_not_intro g), if_neg (not_not_intro g1), if_pos ⟨g, g1⟩, z_cutStock hN hr hv g.1 (by omega) g1.1 g1.2, z_stockThen hN hv g.1 (by omega) g1.1 g1.2]
      exact ⟨_, rfl, rfl⟩
    · rw [if_neg (not_not_intro g), if_pos g1, if_neg (fun h => g1 h.2)]
      exact ⟨_, rfl, rfl⟩
  · rw [if_pos g, if_neg (fun h => g h.1)]
    exact ⟨_, rfl, rfl⟩
theorem s_rule {N : Nat} : q_st_rule N vI := by
  intro c μC μM hc hI a0 h0 a1 h1
  refine (fun (x : ∃ r, f_CR_rule a0 a1 μC = some r ∧ f_M_rule a0 a1 μM = some r) => x.elim fun r h => ⟨r, h.1, h.2, vI_up hc hI⟩) ?_
  obtain ⟨n, hr, hv, hn, hA, hT, hU, hK⟩ := hI
  obtain ⟨u0, u1, u2⟩ := hU
  simp (disch := omega) only [f_CR_rule, f_M_rule, z_noRule rfl u1.1 u1.2, z_fl, Int.cast_ofNat_Int, u0, z_ck, z_within, z_b, z_bz, z_zb]
  by_cases g : 0 ≤ a0 ∧ a0 ≤ q_g μM 0 6 - 1
  · rw [if_neg (not_not_intro g), if_pos g]
    obtain ⟨x0, x1, x2, x3, -⟩ := u2 a0 g.1 (by omega)
    simp (disch := omega) only [z_ld, x0, x1, x2, x3]
    refine ⟨if a1 = 0 then q_g μM 4 a0 else if a1 = 1 then q_g μM 5 a0 else if a1 = 2 then q_g μM 6 a0 else if a1 = 3 then q_g μM 7 a0 else -100002, ?_, ?_⟩
    all_goals (repeat' split)
    all_goals rfl
  · rw [if_pos g, if_neg g]
    exact ⟨_, rfl, rfl⟩
