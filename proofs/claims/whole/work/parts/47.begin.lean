/-! beginnings -/
theorem lp_fill {α : Type} {F : Nat → Int → q_M → Option α} {E : q_M → Option α} {k : Nat} {b off v : Int} (h0 : 0 ≤ off) (hx : ∀ nf μ, F (nf + 1) b μ = E μ) (hs : ∀ nf i μ, 0 ≤ i → i < b → F (nf + 1) i μ = F nf (i + 1) (q_x μ k (off + i) v)) : ∀ (d nf : Nat) (i : Int) (μ : q_M), 0 ≤ i → i + d = b → d < nf → ∃ μ', F nf i μ = E μ' ∧ (∀ k', k' ≠ k → q_g μ' k' = q_g μ k') ∧ ∀ j, q_g μ' k j = if off + i ≤ j ∧ j < off + b then v else q_g μ k j := by
  intro d
  induction d with
  | zero =>
    intro nf i μ h0 h1 h2
    obtain ⟨nf, rfl⟩ : ∃ m, nf = m + 1 := ⟨nf - 1, by omega⟩
    have e : i = b := by omega
    subst e
    exact ⟨μ, hx nf μ, fun _ _ => rfl, fun j => by rw [if_neg (by omega)]⟩
  | succ d ih =>
    intro nf i μ h0 h1 h2
    obtain ⟨nf, rfl⟩ : ∃ m, nf = m + 1 := ⟨nf - 1, by omega⟩
    obtain ⟨μ', g1, g2, g3⟩ := ih nf (i + 1) (q_x μ k (off + i) v) (by omega) (by omega) (by omega)
    refine ⟨μ', by rw [hs nf i μ h0 (by omega), g1], fun k' hk => by rw [g2 k' hk, g_sn hk], fun j => ?_⟩
    rw [g3 j, g_s (by omega)]
    by_cases e : j = off + i
    · rw [if_neg (by omega), if_pos (by omega), e, u_s]
    · rw [u_n e]
      by_cases l : off + i ≤ j ∧ j < off + b
      · rw [if_pos (by omega), if_pos l]
      · rw [if_neg (by omega), if_neg l]
def wClear (w : Int → Int) : Int → Int := fun i => if (30 ≤ i ∧ i < 35) ∨ (38 ≤ i ∧ i < 63) then -1 else if i = 35 then 0 else w i
theorem wClear_i {w : Int → Int} {i : Int} : wClear w i = if (30 ≤ i ∧ i < 35) ∨ (38 ≤ i ∧ i < 63) then -1 else if i = 35 then 0 else w i := rfl
theorem z_clearSnapshot {N : Nat} {μ : q_M} (hN : 1000 ≤ N) : ∃ μ', f_M_clearSnapshot N μ = some μ' ∧ (∀ k, k ≠ 1 → q_g μ' k = q_g μ k) ∧ q_g μ' 1 = wClear (q_g μ 1) := by
  unfold f_M_clearSnapshot
  rw [z_st (by omega) (by omega)]
  obtain ⟨μ3, b1, b2, b3⟩ := lp_fill (F := f_M_clearSnapshot_L10 fun μ4 => f_M_clearSnapshot_L33 (fun μ11 => some μ11) N 0 μ4) (E := fun μ4 => f_M_clearSnapshot_L33 (fun μ11 => some μ11) N 0 μ4) (k := 1) (b := 5) (off := 30) (v := -1) (by omega) (fun nf μ => by rw [f_M_clearSnapshot_L10, if_pos (Int.le_refl _)]) (fun nf i μ h1 h2 => by
    rw [f_M_clearSnapshot_L10, if_neg (by omega)]
    simp (disch := omega) only [z_ck, z_st]) 5 N 0 (q_x μ 1 35 0) (by omega) (by omega) (by omega)
  obtain ⟨μ2, a1, a2, a3⟩ := lp_fill (F := f_M_clearSnapshot_L33 fun μ11 => some μ11) (E := some) (k := 1) (b := 25) (off := 38) (v := -1) (by omega) (fun nf μ => by rw [f_M_clearSnapshot_L33, if_pos (Int.le_refl _)]) (fun nf i μ h1 h2 => by
    rw [f_M_clearSnapshot_L33, if_neg (by omega)]
    simp (disch := omega) only [z_ck, z_st]) 25 N 0 μ3 (by omega) (by omega) (by omega)
  refine ⟨μ2, b1.trans a1, fun k hk => by rw [a2 k hk, b2 k hk, g_sn hk], funext fun i => ?_⟩
  rw [a3, b3, g_s (by omega)]
  unfold wClear q_u
  by_cases h1 : 38 + 0 ≤ i ∧ i < 38 + 25
  · rw [if_pos h1, if_pos (by omega)]
  · by_cases h2 : 30 + 0 ≤ i ∧ i < 30 + 5
    · rw [if_neg h1, if_pos h2, if_pos (by omega)]
    · rw [if_neg h1, if_neg h2]
      exact (if_neg (by omega)).symm
def vB (w : Int → Int) : Prop := (∀ j, 0 ≤ j → j < 30 → w j = 0) ∧ (∀ j, 30 ≤ j → j < 35 → w j = -1) ∧ w 35 = 0 ∧ w 36 = 0 ∧ w 37 = 0 ∧ ∀ j, 38 ≤ j → j < 63 → w j = -1
theorem vB_rv {n c : Int} {w : Int → Int} (h : vB w) (h2 : 2 ≤ n) (h5 : n ≤ 5) (hc : 0 ≤ c) (hc' : c ≤ 512) : rv n w c := by
  obtain ⟨a, b, s, l, m, k⟩ := h
  refine ⟨⟨h2, h5⟩, fun j g1 g2 => ?_, by omega, by omega, fun p g1 g2 => ?_, ?_, ⟨fun p g1 g2 => ?_, fun p g1 g2 => ?_⟩, fun i g1 g2 => ?_, by omega, fun _ i g1 g2 => ?_, fun h => ?_, fun e g1 g2 => ?_, fun e g1 g2 => ?_, fun e f g1 g2 g3 => ?_, fun e g1 g2 => ?_, fun p g1 g2 _ => ?_⟩
  · rw [a j g1 (by omega)]; omega
  · unfold rv_p
    rw [a (20 + p) (by omega) (by omega), a (25 + p) (by omega) (by omega), b (30 + p) (by omega) (by omega)]; omega
  · rw [a 25 (by omega) (by omega), a 26 (by omega) (by omega), a 27 (by omega) (by omega), a 28 (by omega) (by omega), a 29 (by omega) (by omega)]; omega
  · exact a _ (by omega) (by omega)
  · exact k _ (by omega) (by omega)
  · rw [k (38 + i) (by omega) (by omega)]; omega
  · exact k _ (by omega) (by omega)
  · omega
  · omega
  · omega
  · omega
  · omega
  · exact a _ (by omega) (by omega)
theorem z_Wo_begin {o : Nat} {n : Int} {μ : q_M} : ∃ μ', f_Wo_begin o n μ = some μ' ∧ (∀ k, k < o ∨ o + 22 < k → q_g μ' k = q_g μ k) ∧ ∀ w, vB w → rr_C o n μ' w := by
  simp only [f_Wo_begin, f_Hi_forget, f_Ch_clearAll, f_Ch_dropMarkers, f_Sn_forget, z_fs, z_fi, z_b, Int.cast_ofNat_Int]
  refine ⟨_, rfl, fun k hk => ?_, fun w hw => ?_⟩
  · simp (disch := omega) only [g_sn, g_fn]
  · obtain ⟨a, b, s, l, m, mk⟩ := hw
    refine ⟨?_, fun j g1 g2 => ?_, fun j g1 g2 => ?_, fun j g1 g2 => ?_, fun j g1 g2 => ?_, fun j g1 g2 => ?_, fun j g1 g2 => ?_, ?_, ?_, ?_, fun e g1 g2 => absurd g2 (by omega), fun e g1 g2 => absurd g2 (by omega)⟩
    all_goals simp (disch := omega) only [g_s, g_sn, g_f, g_fn, u_s]
    · exact (a j g1 (by omega)).symm
    · exact (a _ (by omega) (by omega)).symm
    · exact (a _ (by omega) (by omega)).symm
    · exact (a _ (by omega) (by omega)).symm
    · exact (b _ (by omega) (by omega)).symm
    · exact (mk _ (by omega) (by omega)).symm
    · exact l.symm
    · exact m.symm
    · exact s.symm
theorem z_startWith {n : Int} {μ : q_M} : ∃ μ', f_CR_startWith n μ = some μ' ∧ (∀ w, vB w → rr_C 1 n μ' w) ∧ q_g μ' 47 = q_g μ 47 ∧ q_g μ' 48 = q_g μ 48 ∧ q_g μ' 49 0 = 0 ∧ q_g μ' 54 1 = 100 ∧ q_g μ' 54 2 = 100 ∧ q_g μ' 0 2 = 0 ∧ ∀ i, 0 ≤ i → i < 25 → q_g μ' 55 i = 1 := by
  obtain ⟨μ1, a1, a2, a3⟩ := z_Wo_begin (o := 1) (n := n) (μ := μ)
  simp only [f_CR_startWith, a1, f_Co_setToFirst, z_b, z_fs, z_fi, Int.cast_ofNat_Int, z_fz (Or.inl rfl)]
  refine ⟨_, rfl, fun w hw => rr_frame (a3 w hw) (fun k h1 h2 => ?_), ?_, ?_, ?_, ?_, ?_, ?_, fun i h1 h2 => ?_⟩
  all_goals simp (disch := omega) only [g_s, g_sn, g_f, g_fn, u_s, u_n]
  · exact a2 47 (by omega)
  · exact a2 48 (by omega)
theorem z_M_begin {N : Nat} {n : Int} {μ : q_M} (hN : 6000 ≤ N) : ∃ μ', f_M_begin N n μ = some μ' ∧ vB (q_g μ' 1) ∧ q_g μ' 3 = q_g μ 3 ∧ q_g μ' 0 4 = q_g μ 0 4 ∧ q_g μ' 0 0 = n ∧ q_g μ' 0 6 = 0 ∧ q_g μ' 0 12 = 100 ∧ q_g μ' 0 13 = 100 ∧ q_g μ' 0 3 = 0 ∧ ∀ i, 0 ≤ i → i < 25 → q_g μ' 8 i = 1 := by
  obtain ⟨E, hE⟩ : ∃ E : q_M → Option q_M, E = (fun (μ4 : q_M) =>
        q_b (f_M_clearSnapshot N μ4) fun μ9 =>
        q_fz μ9 0 3 0 fun μ10 =>
        q_fs μ10 0 6 0 fun μ11 =>
        q_fs μ11 0 12 100 fun μ12 =>
        q_fs μ12 0 13 100 fun μ13 =>
        f_M_begin_L55 
            (fun (μ16 : q_M) =>
              some μ16
            )
            N 0 μ13
      ) := ⟨_, rfl⟩
  unfold f_M_begin
  rw [z_fs, ← hE, Int.cast_ofNat_Int]
  obtain ⟨μ1, a1, a2, a3⟩ := lp_fill (F := f_M_begin_L7 E) (E := E) (k := 1) (b := 5104) (off := 0) (v := 0) (by omega) (fun nf μ => by rw [f_M_begin_L7, if_pos (Int.le_refl _)]) (fun nf i μ h1 h2 => by
    rw [f_M_begin_L7, if_neg (by omega), Int.zero_add]
    simp (disch := omega) only [z_ck, z_st]) 5104 N 0 (q_x μ 0 0 n) (by omega) (by omega) (by omega)
  rw [a1, hE]
  obtain ⟨μ2, b1, b2, b3⟩ := z_clearSnapshot (N := N) (μ := μ1) (by omega)
  simp only [b1, z_b, z_fs, z_fz (Or.inl rfl), Int.cast_ofNat_Int]
  obtain ⟨μ3, c1, c2, c3⟩ := lp_fill (F := f_M_begin_L55 fun μ16 => some μ16) (E := some) (k := 8) (b := 25) (off := 0) (v := 1) (by omega) (fun nf μ => by rw [f_M_begin_L55, if_pos (Int.le_refl _)]) (fun nf i μ h1 h2 => by
    rw [f_M_begin_L55, if_neg (by omega), Int.zero_add]
    simp (disch := omega) only [z_ck, z_st]) 25 N 0 (q_x (q_x (q_x (q_x μ2 0 3 0) 0 6 0) 0 12 100) 0 13 100) (by omega) (by omega) (by omega)
  have d : q_g μ3 1 = wClear (q_g μ1 1) := by
    rw [c2 1 (by omega)]
    simp (disch := omega) only [g_sn]
    exact b3
  have e : ∀ j, 0 ≤ j → j < 5104 → q_g μ1 1 j = 0 := fun j h1 h2 => by rw [a3, if_pos (by omega)]
  refine ⟨μ3, c1, ?_, ?_, ?_, ?_, ?_, ?_, ?_, ?_, fun i h1 h2 => by rw [c3, if_pos (by omega)]⟩
  · rw [d]
    refine ⟨fun j h1 h2 => ?_, fun j h1 h2 => ?_, ?_, ?_, ?_, fun j h1 h2 => ?_⟩
    all_goals rw [wClear_i]
    · rw [if_neg (by omega), if_neg (by omega)]
      exact e j h1 (by omega)
    · rw [if_pos (by omega)]
    · rw [if_neg (by omega), if_pos rfl]
    · rw [if_neg (by omega), if_neg (by omega)]
      exact e _ (by omega) (by omega)
    · rw [if_neg (by omega), if_neg (by omega)]
      exact e _ (by omega) (by omega)
    · rw [if_pos (by omega)]
  · rw [c2 3 (by omega)]
    simp (disch := omega) only [g_sn]
    rw [b2 3 (by omega), a2 3 (by omega), g_sn (by omega)]
  all_goals rw [c2 0 (by omega)]
  all_goals simp (disch := omega) only [g_s, u_s, u_n, b2, a2]
theorem s_reset {N : Nat} (hN : 6000 ≤ N) : q_st_reset N vI := by
  intro c μC μM hc hI a0 h0
  have hI' := hI
  obtain ⟨n, hr, hv, hn, hA, hT, hU, hK⟩ := hI
  simp only [f_CR_reset, f_M_reset, z_within, z_in, z_b, z_bz, z_fl, Int.cast_ofNat_Int, hn, hr.1]
  by_cases g : 2 ≤ a0 ∧ a0 ≤ 5
  · rw [if_neg (not_not_intro g), if_neg (not_not_intro g)]
    obtain ⟨μ1, a1, a2, a3, a4, a5, a6, a7, a8, a9⟩ := z_startWith (n := a0) (μ := μC)
    obtain ⟨μ2, b1, b2, b3, b4, b5, b6, b7, b8, b9, b10⟩ := z_M_begin (n := a0) (μ := μM) hN
    rw [a1, b1]
    refine ⟨_, μ1, μ2, rfl, rfl, a0, a2 _ b2, vB_rv b2 g.1 g.2 (by omega) (by omega), b5, ⟨by rw [a8, b9], Or.inl b9, fun h => absurd h (by rw [b9]; omega)⟩, vT_out hT a3 a4 b4 b3, ⟨by rw [a5, b6], by rw [b6]; omega, fun i i1 i2 => absurd i2 (by rw [b6]; omega)⟩, fun i i1 i2 => by rw [a9 i i1 i2, b10 i i1 i2]; omega, by rw [a6, b7]; omega, by rw [a7, b8]; omega⟩
  · rw [if_pos g, if_pos g]
    exact ⟨_, _, _, rfl, rfl, vI_up hc hI'⟩
theorem s_start {N : Nat} (hN : 6000 ≤ N) : ∃ μC μM, f_CR_startWith 3 q_O = some μC ∧ f_M_begin N 3 q_O = some μM ∧ vI 0 μC μM := by
  obtain ⟨μ1, a1, a2, a3, a4, a5, a6, a7, a8, a9⟩ := z_startWith (n := 3) (μ := q_O)
  obtain ⟨μ2, b1, b2, b3, b4, b5, b6, b7, b8, b9, b10⟩ := z_M_begin (n := 3) (μ := q_O) hN
  have z : ∀ k i, q_g q_O k i = 0 := fun k i => by unfold q_g q_O; split <;> rfl
  refine ⟨μ1, μ2, a1, b1, 3, a2 _ b2, vB_rv b2 (by omega) (by omega) (by omega) (by omega), b5, ⟨by rw [a8, b9], Or.inl b9, fun h => absurd h (by rw [b9]; omega)⟩, ⟨by rw [a3, b4, z, z], by rw [b4, z]; omega, fun i i1 i2 => absurd i2 (by rw [b4, z]; omega)⟩, ⟨by rw [a5, b6], by rw [b6]; omega, fun i i1 i2 => absurd i2 (by rw [b6]; omega)⟩, fun i i1 i2 => by rw [a9 i i1 i2, b10 i i1 i2]; omega, by rw [a6, b7]; omega, by rw [a7, b8]; omega⟩
