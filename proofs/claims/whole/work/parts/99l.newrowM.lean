/-! apply: the model's side of the row that a replay begins with -/
theorem lp_st {α : Type} {F : Nat → Int → q_M → Option α} {E : q_M → Option α} {b : Int} (g : Int → q_M → q_M) (P : Int → q_M → Prop) (hx : ∀ nf μ, P b μ → F (nf + 1) b μ = E μ) (hs : ∀ nf i μ, P i μ → i < b → F (nf + 1) i μ = F nf (i + 1) (g i μ) ∧ P (i + 1) (g i μ)) : ∀ (d nf : Nat) (i : Int) (μ : q_M), i + d = b → d < nf → P i μ → ∃ μ', F nf i μ = E μ' ∧ P b μ' := by
  intro d
  induction d with
  | zero =>
    intro nf i μ h1 h2 hP
    obtain ⟨nf, rfl⟩ : ∃ m, nf = m + 1 := ⟨nf - 1, by omega⟩
    have e : i = b := by omega
    subst e
    exact ⟨μ, hx nf μ hP, hP⟩
  | succ d ih =>
    intro nf i μ h1 h2 hP
    obtain ⟨nf, rfl⟩ : ∃ m, nf = m + 1 := ⟨nf - 1, by omega⟩
    obtain ⟨e, hP'⟩ := hs nf i μ hP (by omega)
    rw [e]
    exact ih nf (i + 1) _ (by omega) (by omega) hP'
theorem appL120 {N : Nat} {x : Int} {K : q_M → Option (Int × q_M)} {μ : q_M} (hN : 1000 ≤ N) (h0 : 0 ≤ x) (h1 : x ≤ 512) : ∃ μ', f_M_apply_L120 x K N 0 μ = K μ' ∧ (∀ k, k ≠ 1 → q_g μ' k = q_g μ k) ∧ ∀ j, q_g μ' 1 j = if 1264 ≤ j ∧ j < 1264 + 6 * x ∧ 4 ≤ (j - 1264) % 6 then -1 else q_g μ 1 j := by
  refine lp_st (F := f_M_apply_L120 x K) (E := K) (b := x) (fun i ν => q_x (q_x ν 1 (1264 + 6 * i + 4) (-1)) 1 (1264 + 6 * i + 5) (-1)) (fun i ν => 0 ≤ i ∧ (∀ k, k ≠ 1 → q_g ν k = q_g μ k) ∧ ∀ j, q_g ν 1 j = if 1264 ≤ j ∧ j < 1264 + 6 * i ∧ 4 ≤ (j - 1264) % 6 then -1 else q_g μ 1 j) (fun nf ν hP => by rw [f_M_apply_L120, if_pos (Int.le_refl _)]) (fun nf i ν hP hi => ⟨?_, ?_⟩) x.toNat N 0 μ (by omega) (by omega) ⟨Int.le_refl _, fun _ _ => rfl, fun j => by rw [if_neg (by omega)]⟩ |>.elim fun μ' h => ⟨μ', h.1, h.2.2⟩
  · have := hP.1
    rw [f_M_apply_L120, if_neg (by omega)]
    simp (disch := omega) only [z_ck, z_st]
  · obtain ⟨i0, f, g⟩ := hP
    refine ⟨by omega, fun k hk => by rw [g_sn hk, g_sn hk]; exact f k hk, fun j => ?_⟩
    rw [g_s (by omega), g_s (by omega)]
    by_cases e5 : j = 1264 + 6 * i + 5
    · rw [e5, u_s, if_pos (by omega)]
    · by_cases e4 : j = 1264 + 6 * i + 4
      · rw [u_n e5, e4, u_s, if_pos (by omega)]
      · rw [u_n e5, u_n e4, g]
        by_cases q : 1264 ≤ j ∧ j < 1264 + 6 * i ∧ 4 ≤ (j - 1264) % 6
        · rw [if_pos q, if_pos (by omega)]
        · rw [if_neg q, if_neg (by omega)]
theorem appL185 {N : Nat} {K : q_M → Option (Int × q_M)} {μ : q_M} (hN : 1000 ≤ N) : ∃ μ', f_M_apply_L185 K N 0 μ = K μ' ∧ (∀ k, k ≠ 1 → q_g μ' k = q_g μ k) ∧ ∀ j, q_g μ' 1 j = if 20 ≤ j ∧ j < 30 then 0 else q_g μ 1 j := by
  refine lp_st (F := f_M_apply_L185 K) (E := K) (b := 5) (fun i ν => q_x (q_x ν 1 (20 + i) 0) 1 (25 + i) 0) (fun i ν => 0 ≤ i ∧ (∀ k, k ≠ 1 → q_g ν k = q_g μ k) ∧ ∀ j, q_g ν 1 j = if (20 ≤ j ∧ j < 20 + i) ∨ (25 ≤ j ∧ j < 25 + i) then 0 else q_g μ 1 j) (fun nf ν hP => by rw [f_M_apply_L185, if_pos (Int.le_refl _)]) (fun nf i ν hP hi => ⟨?_, ?_⟩) 5 N 0 μ (by omega) (by omega) ⟨Int.le_refl _, fun _ _ => rfl, fun j => by rw [if_neg (by omega)]⟩ |>.elim fun μ' h => ⟨μ', h.1, h.2.2.1, fun j => ?_⟩
  · have := hP.1
    rw [f_M_apply_L185, if_neg (by omega)]
    simp (disch := omega) only [z_ck, z_st]
  · obtain ⟨i0, f, g⟩ := hP
    refine ⟨by omega, fun k hk => by rw [g_sn hk, g_sn hk]; exact f k hk, fun j => ?_⟩
    rw [g_s (by omega), g_s (by omega)]
    by_cases e5 : j = 25 + i
    · rw [e5, u_s, if_pos (by omega)]
    · by_cases e4 : j = 20 + i
      · rw [u_n e5, e4, u_s, if_pos (by omega)]
      · rw [u_n e5, u_n e4, g]
        by_cases q : (20 ≤ j ∧ j < 20 + i) ∨ (25 ≤ j ∧ j < 25 + i)
        · rw [if_pos q, if_pos (by omega)]
        · rw [if_neg q, if_neg (by omega)]
  · rw [h.2.2.2]
    by_cases q : 20 ≤ j ∧ j < 30
    · rw [if_pos q, if_pos (by omega)]
    · rw [if_neg q, if_neg (by omega)]
theorem appL222 {N : Nat} {n : Int} {K : q_M → Option (Int × q_M)} {μ : q_M} (hN : 1000 ≤ N) (hn : q_g μ 0 0 = n) (h2 : 2 ≤ n) (h5 : n ≤ 5) : ∃ μ', f_M_apply_L222 K N 0 μ = K μ' ∧ (∀ k, k ≠ 1 → q_g μ' k = q_g μ k) ∧ ∀ j, q_g μ' 1 j = if 0 ≤ j ∧ j < 2 * n then q_g μ 21 j else if 10 ≤ j ∧ j < 10 + 2 * n then q_g μ 21 (j - 10) else q_g μ 1 j := by
  refine lp_st (F := f_M_apply_L222 K) (E := K) (b := 2 * n) (fun i ν => q_x (q_x ν 1 (0 + i) (q_g μ 21 i)) 1 (10 + i) (q_g μ 21 i)) (fun i ν => 0 ≤ i ∧ (∀ k, k ≠ 1 → q_g ν k = q_g μ k) ∧ ∀ j, q_g ν 1 j = if 0 ≤ j ∧ j < i then q_g μ 21 j else if 10 ≤ j ∧ j < 10 + i then q_g μ 21 (j - 10) else q_g μ 1 j) (fun nf ν hP => by rw [f_M_apply_L222, z_fl, Int.cast_ofNat_Int, hP.2.1 0 (by omega), hn, z_ck (by omega) (by omega), if_pos (Int.le_refl _)]) (fun nf i ν hP hi => ⟨?_, ?_⟩) (2 * n).toNat N 0 μ (by omega) (by omega) ⟨Int.le_refl _, fun _ _ => rfl, fun j => by rw [if_neg (by omega), if_neg (by omega)]⟩ |>.elim fun μ' h => ⟨μ', h.1, h.2.2⟩
  · have := hP.1
    rw [f_M_apply_L222, z_fl, Int.cast_ofNat_Int, hP.2.1 0 (by omega), hn, z_ck (by omega) (by omega), if_neg (by omega), z_ck (by omega) (by omega), z_ld (by omega) (by omega), z_st (by omega) (by omega), z_ck (by omega) (by omega), z_ld (by omega) (by omega), z_st (by omega) (by omega), z_ck (by omega) (by omega), g_sn (by omega), hP.2.1 21 (by omega)]
  · obtain ⟨i0, f, g⟩ := hP
    refine ⟨by omega, fun k hk => by rw [g_sn hk, g_sn hk]; exact f k hk, fun j => ?_⟩
    rw [g_s (by omega), g_s (by omega)]
    by_cases e5 : j = 10 + i
    · rw [e5, u_s, if_neg (by omega), if_pos (by omega), show 10 + i - 10 = i by omega]
    · by_cases e4 : j = 0 + i
      · rw [u_n e5, e4, u_s, if_pos (by omega), show 0 + i = i by omega]
      · rw [u_n e5, u_n e4, g]
        by_cases q : 0 ≤ j ∧ j < i
        · rw [if_pos q, if_pos (by omega)]
        · by_cases q2 : 10 ≤ j ∧ j < 10 + i
          · rw [if_neg q, if_pos q2, if_neg (by omega), if_pos (by omega)]
          · rw [if_neg q, if_neg q2, if_neg (by omega), if_neg (by omega)]
theorem appM {N : Nat} {n c : Int} {w : Int → Int} {μ : q_M} {KK : q_M → Option (Int × q_M)} (hN : 6000 ≤ N) (hw : q_g μ 1 = w) (hv : rv n w c) (hn : q_g μ 0 0 = n) :
    ∃ μ', f_M_apply_L13 (fun μ6 => q_fz μ6 0 3 1 fun μ11 => f_M_apply_L48 N (fun x15 μ16 => f_M_apply_L120 x15 (fun μ39 => q_st μ39 1 5104 37 x15 fun μ50 => q_st μ50 1 5104 36 0 fun μ51 => f_M_apply_L185 (fun μ54 => f_M_apply_L222 (fun μ63 => q_b (f_M_clearSnapshot N μ63) KK) N 0 μ54) N 0 μ51) N 0 μ16) N 0 0 μ11) N 0 μ = KK μ' ∧ isN n w (q_g μ 21) (q_g μ' 1) ∧ rq w (q_g μ' 2) ∧ (∀ k, k ≠ 0 → k ≠ 1 → k ≠ 2 → q_g μ' k = q_g μ k) ∧ q_g μ' 0 = q_u (q_g μ 0) 3 1 := by
  have hv' := hv
  obtain ⟨v0, v1, v2, v3, -⟩ := hv'
  have hb := kp_bd (w := w) (i := (w 37).toNat)
  obtain ⟨E, hE⟩ : ∃ E : q_M → Option (Int × q_M), E = (fun μ6 => q_fz μ6 0 3 1 fun μ11 => f_M_apply_L48 N (fun x15 μ16 => f_M_apply_L120 x15 (fun μ39 => q_st μ39 1 5104 37 x15 fun μ50 => q_st μ50 1 5104 36 0 fun μ51 => f_M_apply_L185 (fun μ54 => f_M_apply_L222 (fun μ63 => q_b (f_M_clearSnapshot N μ63) KK) N 0 μ54) N 0 μ51) N 0 μ16) N 0 0 μ11) := ⟨_, rfl⟩
  rw [← hE]
  obtain ⟨μ1, b1, bP, b2, b3⟩ := lp_wr (F := f_M_apply_L13 E) (E := E) (k := 2) (b := 5104) (off := 0) w (fun ν => q_g ν 1 = w) (by omega) (fun nf μ _ => by rw [f_M_apply_L13, if_pos (Int.le_refl _)]) (fun nf i ν h h1 h2 => by
    rw [f_M_apply_L13, if_neg (by omega), Int.zero_add]
    simp (disch := omega) only [z_ck, z_st, z_ld, h, g_sn]
    exact ⟨trivial, trivial⟩) 5104 N 0 μ (by omega) (by omega) (by omega) hw
  rw [b1, hE]
  dsimp only
  rw [z_fz (Or.inr rfl), Int.cast_ofNat_Int]
  have w1 : q_g (q_x μ1 0 3 1) 1 = w := by rw [g_sn (by omega)]; exact bP
  obtain ⟨μ2, c1, c2, c3, c4⟩ := movL48 (N := N) (K := fun x15 μ16 => f_M_apply_L120 x15 (fun μ39 => q_st μ39 1 5104 37 x15 fun μ50 => q_st μ50 1 5104 36 0 fun μ51 => f_M_apply_L185 (fun μ54 => f_M_apply_L222 (fun μ63 => q_b (f_M_clearSnapshot N μ63) KK) N 0 μ54) N 0 μ51) N 0 μ16) (by omega) hv (w 37).toNat N 0 (q_x μ1 0 3 1) (by omega) (by omega) (fun j _ _ => by rw [w1]) (fun m j _ _ _ _ => by rw [w1]) (fun m j _ _ _ _ => by rw [w1]) (fun k j k0 k1 => by
    have : kp w 0 = 0 := rfl
    omega)
  obtain ⟨μ3, d1, d2, d3⟩ := appL120 (N := N) (x := kp w (w 37).toNat) (K := fun μ39 => q_st μ39 1 5104 37 (kp w (w 37).toNat) fun μ50 => q_st μ50 1 5104 36 0 fun μ51 => f_M_apply_L185 (fun μ54 => f_M_apply_L222 (fun μ63 => q_b (f_M_clearSnapshot N μ63) KK) N 0 μ54) N 0 μ51) (μ := μ2) (by omega) hb.1 (by omega)
  obtain ⟨μ4, e1, e2, e3⟩ := appL185 (N := N) (K := fun μ54 => f_M_apply_L222 (fun μ63 => q_b (f_M_clearSnapshot N μ63) KK) N 0 μ54) (μ := q_x (q_x μ3 1 37 (kp w (w 37).toNat)) 1 36 0) (by omega)
  have z0 : q_g μ4 0 = q_u (q_g μ 0) 3 1 := by
    rw [e2 0 (by omega), g_sn (by omega), g_sn (by omega), d2 0 (by omega), c2 0 (by omega), g_s (by omega), b2 0 (by omega)]
  obtain ⟨μ5, f1, f2, f3⟩ := appL222 (N := N) (n := n) (K := fun μ63 => q_b (f_M_clearSnapshot N μ63) KK) (μ := μ4) (by omega) (by rw [z0, u_n (by decide)]; exact hn) v0.1 v0.2
  obtain ⟨μ6, g1, g2, g3⟩ := z_clearSnapshot (N := N) (μ := μ5) (by omega)
  have fr : ∀ k, k ≠ 0 → k ≠ 1 → q_g μ6 k = q_g μ1 k := fun k k0 k1 => by
    rw [g2 k k1, f2 k k1, e2 k k1, g_sn k1, g_sn k1, d2 k k1, c2 k k1, g_sn k0]
  have fr4 : ∀ k, k ≠ 0 → k ≠ 1 → q_g μ4 k = q_g μ1 k := fun k k0 k1 => by
    rw [e2 k k1, g_sn k1, g_sn k1, d2 k k1, c2 k k1, g_sn k0]
  have row : ∀ j, 0 ≤ j → q_g μ6 1 j = if (30 ≤ j ∧ j < 35) ∨ (38 ≤ j ∧ j < 63) then -1 else if j = 35 then 0 else if 0 ≤ j ∧ j < 2 * n then q_g μ 21 j else if 10 ≤ j ∧ j < 10 + 2 * n then q_g μ 21 (j - 10) else if 20 ≤ j ∧ j < 30 then 0 else if j = 36 then 0 else if j = 37 then kp w (w 37).toNat else if 1264 ≤ j ∧ j < 1264 + 6 * kp w (w 37).toNat ∧ 4 ≤ (j - 1264) % 6 then -1 else q_g μ2 1 j := fun j hj => by
    rw [g3, wClear_i, f3, fr4 21 (by omega) (by omega), b2 21 (by omega), e3, g_s (by omega), g_s (by omega)]
    unfold q_u
    rw [d3]
  refine ⟨μ6, ?_, ⟨fun j j0 j1 => ?_, fun j j0 j1 => ?_, fun j j0 j1 => ?_, ?_, ?_, ?_, fun j j0 j1 => ?_, fun k k0 k1 => ⟨fun j j0 j1 => ?_, ?_, ?_⟩⟩, ?_, fun k k0 k1 k2 => by rw [fr k k0 k1, b2 k k2], by rw [g2 0 (by omega), f2 0 (by omega), z0]⟩
  · refine c1.trans ?_
    refine d1.trans ?_
    rw [z_st (by omega) (by omega), z_st (by omega) (by omega)]
    refine e1.trans ?_
    refine f1.trans ?_
    rw [g1, z_b]
  · rw [row j j0, if_neg (by omega), if_neg (by omega)]
    by_cases q : j % 10 < 2 * n
    · rw [if_pos q]
      by_cases q1 : j < 10
      · rw [if_pos (by omega), show j % 10 = j by omega]
      · rw [if_neg (by omega), if_pos (by omega), show j % 10 = j - 10 by omega]
    · rw [if_neg q, if_neg (by omega), if_neg (by omega), if_neg (by omega), if_neg (by omega), if_neg (by omega), if_neg (by omega), c3 j j0 (by omega)]
      exact (v1 j j0 j1).2.2 (by omega)
  · rw [row j (by omega), if_neg (by omega), if_neg (by omega), if_neg (by omega), if_neg (by omega), if_pos ⟨j0, j1⟩]
  · rw [row j (by omega), if_pos (by omega)]
  · rw [row 35 (by omega), if_neg (by omega), if_pos rfl]
  · rw [row 36 (by omega), if_neg (by omega), if_neg (by omega), if_neg (by omega), if_neg (by omega), if_neg (by omega), if_pos rfl]
  · rw [row 37 (by omega), if_neg (by omega), if_neg (by omega), if_neg (by omega), if_neg (by omega), if_neg (by omega), if_neg (by omega), if_pos rfl]
  · rw [row j (by omega), if_pos (by omega)]
  · rw [← c4 k j k0 k1 j0 j1]
    unfold mg
    rw [row _ (by omega), if_neg (by omega), if_neg (by omega), if_neg (by omega), if_neg (by omega), if_neg (by omega), if_neg (by omega), if_neg (by omega), if_neg (by omega)]
  · unfold mg
    rw [row _ (by omega), if_neg (by omega), if_neg (by omega), if_neg (by omega), if_neg (by omega), if_neg (by omega), if_neg (by omega), if_neg (by omega), if_pos (by omega)]
  · unfold mg
    rw [row _ (by omega), if_neg (by omega), if_neg (by omega), if_neg (by omega), if_neg (by omega), if_neg (by omega), if_neg (by omega), if_neg (by omega), if_pos (by omega)]
  · refine rq_copy hv (fun i h1 h2 => ?_)
    rw [fr 2 (by omega) (by omega), b3, if_pos (by omega), Int.sub_zero]
