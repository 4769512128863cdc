/-! edges laid one behind another -/
theorem z_edge {e a b l h c p x y : Int} {μ : q_M} (he : q_g μ 0 14 = e) (h0 : 0 ≤ e ∧ e < 48) (ha : nd a) (hb : nd b) (hab : a ≠ b) (hx : q_g μ 16 a = x) (hy : q_g μ 16 b = y) (bx : -1000000 ≤ x ∧ x ≤ 1000000) (by' : -1000000 ≤ y ∧ y ≤ 1000000) (bl : -1000000 ≤ l ∧ l ≤ 1000000) : ∃ μ', f_M_edge a b l h c p μ = some μ' ∧ (∀ k, k ≠ 0 → (k < 9 ∨ 16 < k) → q_g μ' k = q_g μ k) ∧ q_g μ' 0 = q_u (q_g μ 0) 14 (e + 1) ∧ q_g μ' 9 = q_u (q_g μ 9) e a ∧ q_g μ' 10 = q_u (q_g μ 10) e b ∧ q_g μ' 11 = q_u (q_g μ 11) e h ∧ q_g μ' 12 = q_u (q_g μ 12) e l ∧ q_g μ' 13 = q_u (q_g μ 13) e c ∧ q_g μ' 14 = q_u (q_g μ 14) e p ∧ q_g μ' 15 = q_u (q_g μ 15) e l ∧ q_g μ' 16 = q_u (q_u (q_g μ 16) a (x - l)) b (y + l) := by
  have a1 := ha.1
  have a2 := ha.2
  have b1 := hb.1
  have b2 := hb.2
  have hba : b ≠ a := fun q => hab q.symm
  unfold f_M_edge
  simp only [z_fl, z_fs, Int.cast_ofNat_Int]
  rw [he, z_st h0.1 (by omega)]
  rw [g_sn (show 0 ≠ 9 by omega), he, z_st h0.1 (by omega)]
  rw [g_sn (show 0 ≠ 10 by omega), g_sn (show 0 ≠ 9 by omega), he, z_st h0.1 (by omega)]
  rw [g_sn (show 0 ≠ 12 by omega), g_sn (show 0 ≠ 10 by omega), g_sn (show 0 ≠ 9 by omega), he, z_st h0.1 (by omega)]
  rw [g_sn (show 0 ≠ 11 by omega), g_sn (show 0 ≠ 12 by omega), g_sn (show 0 ≠ 10 by omega), g_sn (show 0 ≠ 9 by omega), he, z_st h0.1 (by omega)]
  rw [g_sn (show 0 ≠ 13 by omega), g_sn (show 0 ≠ 11 by omega), g_sn (show 0 ≠ 12 by omega), g_sn (show 0 ≠ 10 by omega), g_sn (show 0 ≠ 9 by omega), he, z_st h0.1 (by omega)]
  rw [g_sn (show 0 ≠ 14 by omega), g_sn (show 0 ≠ 13 by omega), g_sn (show 0 ≠ 11 by omega), g_sn (show 0 ≠ 12 by omega), g_sn (show 0 ≠ 10 by omega), g_sn (show 0 ≠ 9 by omega), he, z_st h0.1 (by omega)]
  rw [z_ld a1 (by omega), g_sn (show 16 ≠ 15 by omega), g_sn (show 16 ≠ 14 by omega), g_sn (show 16 ≠ 13 by omega), g_sn (show 16 ≠ 11 by omega), g_sn (show 16 ≠ 12 by omega), g_sn (show 16 ≠ 10 by omega), g_sn (show 16 ≠ 9 by omega), hx, z_ck (by omega) (by omega), z_st a1 (by omega)]
  rw [z_ld b1 (by omega), g_s a1, u_n hba, g_sn (show 16 ≠ 15 by omega), g_sn (show 16 ≠ 14 by omega), g_sn (show 16 ≠ 13 by omega), g_sn (show 16 ≠ 11 by omega), g_sn (show 16 ≠ 12 by omega), g_sn (show 16 ≠ 10 by omega), g_sn (show 16 ≠ 9 by omega), hy, z_ck (by omega) (by omega), z_st b1 (by omega)]
  rw [g_sn (show 0 ≠ 16 by omega), g_sn (show 0 ≠ 16 by omega), g_sn (show 0 ≠ 15 by omega), g_sn (show 0 ≠ 14 by omega), g_sn (show 0 ≠ 13 by omega), g_sn (show 0 ≠ 11 by omega), g_sn (show 0 ≠ 12 by omega), g_sn (show 0 ≠ 10 by omega), g_sn (show 0 ≠ 9 by omega), he, z_ck (by omega) (by omega)]
  have e0 := h0.1
  refine ⟨_, rfl, fun k k0 k1 => by rw [g_sn k0, g_sn (by omega), g_sn (by omega), g_sn (by omega), g_sn (by omega), g_sn (by omega), g_sn (by omega), g_sn (by omega), g_sn (by omega), g_sn (by omega)], ?_, ?_, ?_, ?_, ?_, ?_, ?_, ?_, ?_⟩
  · simp (disch := omega) only [g_s, g_sn]
  · simp (disch := omega) only [g_s, g_sn]
  · simp (disch := omega) only [g_s, g_sn]
  · simp (disch := omega) only [g_s, g_sn]
  · simp (disch := omega) only [g_s, g_sn]
  · simp (disch := omega) only [g_s, g_sn]
  · simp (disch := omega) only [g_s, g_sn]
  · simp (disch := omega) only [g_s, g_sn]
  · simp (disch := omega) only [g_s, g_sn]
def LEM (n : Int) (st : Int → Int) (CO LO HI : Int → Int → Int) (c : Int) (μ : q_M) : Prop := q_g μ 0 14 = c ∧ (∀ u v, nd u → nd v → 0 ≤ ei n u v → ei n u v < c → q_g μ 9 (ei n u v) = sw u ∧ q_g μ 10 (ei n u v) = sw v ∧ q_g μ 11 (ei n u v) = HI u v ∧ q_g μ 12 (ei n u v) = LO u v ∧ q_g μ 13 (ei n u v) = CO u v ∧ q_g μ 14 (ei n u v) = plc n u v ∧ q_g μ 15 (ei n u v) = LO u v) ∧ ∀ p, 0 ≤ p → p < n → n * (n - 1) + 4 * p < c → q_g μ 9 (n * (n - 1) + 4 * p) = 6 ∧ q_g μ 10 (n * (n - 1) + 4 * p) = p ∧ q_g μ 11 (n * (n - 1) + 4 * p) = st p ∧ q_g μ 12 (n * (n - 1) + 4 * p) = st p ∧ q_g μ 13 (n * (n - 1) + 4 * p) = 0 ∧ q_g μ 14 (n * (n - 1) + 4 * p) = -1 ∧ q_g μ 15 (n * (n - 1) + 4 * p) = st p
def frL (μ0 μ : q_M) : Prop := (∀ k, k ≠ 0 → (k < 9 ∨ 16 < k) → q_g μ k = q_g μ0 k) ∧ ∀ j, j ≠ 14 → j ≠ 23 → j ≠ 24 → q_g μ 0 j = q_g μ0 0 j
theorem frL_tr {μ0 μ1 μ2 : q_M} (h : frL μ0 μ1) (g : frL μ1 μ2) : frL μ0 μ2 := ⟨fun k a b => by rw [g.1 k a b, h.1 k a b], fun j a b c => by rw [g.2 j a b c, h.2 j a b c]⟩
/-- an edge of a pair -/
theorem LE_p {n c : Int} {st : Int → Int} {CO LO HI : Int → Int → Int} {μ : q_M} {E : Int → Int} {u v a b l h co p : Int} (hn : ni n) (hL : LEM n st CO LO HI c μ) (hx : exMM μ E) (hE : ∀ w, nd w → -500000 ≤ E w ∧ E w ≤ 500000) (hu : nd u) (hv : nd v) (huv : u ≠ v) (he : ei n u v = c) (hc : 0 ≤ c) (h1 : a = sw u) (h2 : b = sw v) (h3 : l = LO u v) (h4 : h = HI u v) (h5 : co = CO u v) (h6 : p = plc n u v) (hl : -100000 ≤ l ∧ l ≤ 100000) : ∃ μ', f_M_edge a b l h co p μ = some μ' ∧ LEM n st CO LO HI (c + 1) μ' ∧ exMM μ' (fun w => E w + (if w = v then l else 0) - (if w = u then l else 0)) ∧ frL μ μ' ∧ q_g μ' 0 23 = q_g μ 0 23 ∧ q_g μ' 0 24 = q_g μ 0 24 := by
  have hq := q_rng hn
  have hei := ei_bd hn hu hv
  have su := sw_nd hu
  have sv := sw_nd hv
  have hne : sw u ≠ sw v := fun q => huv (sw_inj q)
  have bu := hE u hu
  have bv := hE v hv
  subst h1
  subst h2
  obtain ⟨μ', a1, a2, a3, a4, a5, a6, a7, a8, a9, a10, a11⟩ := z_edge (l := l) (h := h) (c := co) (p := p) hL.1 (by omega) su sv hne (hx u hu) (hx v hv) (by omega) (by omega) (by omega)
  refine ⟨μ', a1, ⟨?_, fun x y hx' hy' q0 q1 => ?_, fun r r0 rn r1 => ?_⟩, fun w hw => ?_, ⟨a2, fun j j1 j2 j3 => by rw [a3, u_n j1]⟩, by rw [a3, u_n (by decide)], by rw [a3, u_n (by decide)]⟩
  · rw [a3, u_s]
  · rw [a4, a5, a6, a7, a8, a9, a10]
    by_cases z : x = u ∧ y = v
    · rw [z.1, z.2, he, u_s, u_s, u_s, u_s, u_s, u_s, u_s]
      exact ⟨rfl, rfl, h4, h3, h5, h6, h3⟩
    · have hne2 : ei n x y ≠ c := fun q => z (ei_inj hn hx' hy' hu hv q0 (by omega))
      rw [u_n hne2, u_n hne2, u_n hne2, u_n hne2, u_n hne2, u_n hne2, u_n hne2]
      exact hL.2.1 x y hx' hy' q0 (by omega)
  · have hne2 : n * (n - 1) + 4 * r ≠ c := fun q => ei_nf hn hu hv r0 rn (by omega)
    rw [a4, a5, a6, a7, a8, a9, a10, u_n hne2, u_n hne2, u_n hne2, u_n hne2, u_n hne2, u_n hne2, u_n hne2]
    exact hL.2.2 r r0 rn (by omega)
  · show q_g μ' 16 (sw w) = E w + (if w = v then l else 0) - (if w = u then l else 0)
    rw [a11]
    by_cases z1 : w = v
    · rw [z1, u_s, if_pos rfl, if_neg (fun q => huv q.symm)]
      omega
    · rw [u_n (fun q => z1 (sw_inj q)), if_neg z1]
      by_cases z2 : w = u
      · rw [z2, u_s, if_pos rfl]
        omega
      · rw [u_n (fun q => z2 (sw_inj q)), if_neg z2, hx w hw]
        omega
/-- an edge that holds what a process has -/
theorem LE_f {n c p : Int} {st : Int → Int} {CO LO HI : Int → Int → Int} {μ : q_M} {E : Int → Int} (hn : ni n) (hL : LEM n st CO LO HI c μ) (hx : exMM μ E) (hE : ∀ w, nd w → -500000 ≤ E w ∧ E w ≤ 500000) (p0 : 0 ≤ p) (pn : p < n) (he : n * (n - 1) + 4 * p = c) (hs : -100000 ≤ st p ∧ st p ≤ 100000) : ∃ μ', f_M_edge 6 p (st p) (st p) 0 (-1) μ = some μ' ∧ LEM n st CO LO HI (c + 1) μ' ∧ exMM μ' (fun w => E w + (if w = p then st p else 0) - (if w = 5 then st p else 0)) ∧ frL μ μ' ∧ q_g μ' 0 23 = q_g μ 0 23 ∧ q_g μ' 0 24 = q_g μ 0 24 := by
  have hq := q_rng hn
  have d5 : nd 5 := ⟨by decide, by decide⟩
  have d6 : nd 6 := ⟨by decide, by decide⟩
  have dp : nd p := ⟨p0, by omega⟩
  have hsp : sw p = p := sw_lt (by omega)
  have hs5 : sw 5 = 6 := rfl
  have b5 := hE 5 d5
  have bp := hE p dp
  have e5 := hx 5 d5
  have ep := hx p dp
  rw [hs5] at e5
  rw [hsp] at ep
  obtain ⟨μ', a1, a2, a3, a4, a5, a6, a7, a8, a9, a10, a11⟩ := z_edge (l := st p) (h := st p) (c := 0) (p := -1) hL.1 (by omega) d6 dp (by omega) e5 ep (by omega) (by omega) (by omega)
  refine ⟨μ', a1, ⟨?_, fun x y hx' hy' q0 q1 => ?_, fun r r0 rn r1 => ?_⟩, fun w hw => ?_, ⟨a2, fun j j1 j2 j3 => by rw [a3, u_n j1]⟩, by rw [a3, u_n (by decide)], by rw [a3, u_n (by decide)]⟩
  · rw [a3, u_s]
  · have hne2 : ei n x y ≠ c := fun q => ei_nf hn hx' hy' p0 pn (by omega)
    rw [a4, a5, a6, a7, a8, a9, a10, u_n hne2, u_n hne2, u_n hne2, u_n hne2, u_n hne2, u_n hne2, u_n hne2]
    exact hL.2.1 x y hx' hy' q0 (by omega)
  · rw [a4, a5, a6, a7, a8, a9, a10]
    by_cases z : r = p
    · rw [z, he, u_s, u_s, u_s, u_s, u_s, u_s, u_s]
      exact ⟨rfl, rfl, rfl, rfl, rfl, rfl, rfl⟩
    · have hne2 : n * (n - 1) + 4 * r ≠ c := by omega
      rw [u_n hne2, u_n hne2, u_n hne2, u_n hne2, u_n hne2, u_n hne2, u_n hne2]
      exact hL.2.2 r r0 rn (by omega)
  · show q_g μ' 16 (sw w) = E w + (if w = p then st p else 0) - (if w = 5 then st p else 0)
    rw [a11]
    by_cases z1 : w = p
    · rw [z1, hsp, u_s, if_pos rfl, if_neg (by omega)]
      omega
    · rw [u_n (fun q => z1 (by rw [← sw_sw (v := w), q, hsp])), if_neg z1]
      by_cases z2 : w = 5
      · rw [z2, hs5, u_s, if_pos rfl]
        omega
      · rw [u_n (fun q => z2 (by rw [← sw_sw (v := w), q]; rfl)), if_neg z2, hx w hw]
        omega
theorem exMM_0 {μ : q_M} {E : Int → Int} {u v l : Int} (h : exMM μ (fun w => E w + (if w = v then l else 0) - (if w = u then l else 0))) (hl : l = 0) : exMM μ E := by
  intro w hw
  rw [h w hw, hl]
  by_cases a : w = v <;> by_cases b : w = u <;> simp [a, b]
/-- the moves -/
theorem layL67 {n : Int} {st mv : Int → Int} {CO LO HI : Int → Int → Int} {E : Int → Int} {K : Int → q_M → Option (Int × q_M)} (hn : ni n) (hE : ∀ w, nd w → -500000 ≤ E w ∧ E w ≤ 500000) (hmv : ∀ u v, 0 ≤ u → u < n → 0 ≤ v → v < n → u ≠ v → LO u v = 0 ∧ HI u v = 100000 ∧ CO u v = mv (5 * u + v)) : ∀ (dd nf : Nat) (x u v c : Int) (μ : q_M), x + dd = n * n → x = u * n + v → 0 ≤ u → 0 ≤ v → v < n → dd < nf → c = (n - 1) * u + (if u < v then v - 1 else v) → LEM n st CO LO HI c μ → exMM μ E → (∀ i, 0 ≤ i → i < 25 → q_g μ 8 i = mv i) → ∃ μ', f_M_layEdges_L67 n K nf c x μ = K (n * (n - 1)) μ' ∧ LEM n st CO LO HI (n * (n - 1)) μ' ∧ exMM μ' E ∧ frL μ μ' ∧ q_g μ' 0 23 = q_g μ 0 23 ∧ q_g μ' 0 24 = q_g μ 0 24 := by
  intro dd
  have hq := q_rng hn
  have hnn : n * n ≤ 25 ∧ 4 ≤ n * n := by rcases hn with rfl | rfl | rfl | rfl <;> decide
  induction dd with
  | zero =>
    intro nf x u v c μ h1 h2 h3 h4 h5 h6 h7 hL hx h8
    obtain ⟨nf, rfl⟩ : ∃ m, nf = m + 1 := ⟨nf - 1, by omega⟩
    have hc : c = n * (n - 1) := by
      rw [h7]
      rcases hn with rfl | rfl | rfl | rfl
      · rw [if_neg (by omega)]; omega
      · rw [if_neg (by omega)]; omega
      · rw [if_neg (by omega)]; omega
      · rw [if_neg (by omega)]; omega
    rw [← hc]
    exact ⟨μ, by rw [f_M_layEdges_L67, z_ck (by omega) (by omega), if_pos (by omega)], hL, hx, ⟨fun _ _ _ => rfl, fun _ _ _ _ => rfl⟩, rfl, rfl⟩
  | succ dd ih =>
    intro nf x u v c μ h1 h2 h3 h4 h5 h6 h7 hL hx h8
    obtain ⟨nf, rfl⟩ : ∃ m, nf = m + 1 := ⟨nf - 1, by omega⟩
    have hdv : 0 ≤ x ∧ x / n = u ∧ x % n = v ∧ u < n := by
      rcases hn with rfl | rfl | rfl | rfl <;> omega
    obtain ⟨x0, x1, x2, x3⟩ := hdv
    have nx : ∃ u' v', x + 1 = u' * n + v' ∧ 0 ≤ u' ∧ 0 ≤ v' ∧ v' < n ∧ (n - 1) * u' + (if u' < v' then v' - 1 else v') = (if u = v then c else c + 1) := by
      by_cases g : v + 1 < n
      · refine ⟨u, v + 1, by omega, h3, by omega, g, ?_⟩
        rw [h7]
        by_cases e : u = v
        · rw [if_pos e, if_pos (by omega), if_neg (by omega)]
          omega
        · rw [if_neg e]
          by_cases k : u < v
          · rw [if_pos k, if_pos (by omega)]; omega
          · rw [if_neg k, if_neg (by omega)]; omega
      · refine ⟨u + 1, 0, ?_, by omega, by omega, by omega, ?_⟩
        · rcases hn with rfl | rfl | rfl | rfl <;> omega
        · rw [if_neg (by omega), h7]
          by_cases e : u = v
          · rw [if_pos e, if_neg (by omega)]
            rcases hn with rfl | rfl | rfl | rfl <;> omega
          · rw [if_neg e, if_pos (by omega)]
            rcases hn with rfl | rfl | rfl | rfl <;> omega
    obtain ⟨u', v', n1, n2, n3, n4, n5⟩ := nx
    rw [f_M_layEdges_L67, z_ck (by omega) (by omega), if_neg (by omega)]
    unfold q_dv q_rm
    simp only [if_pos (show 0 ≤ x ∧ 0 < n from ⟨x0, by omega⟩), z_jn, x1, x2]
    by_cases e : u = v
    · rw [if_pos e] at n5 ⊢
      rw [z_ck (by omega) (by omega)]
      exact ih nf (x + 1) u' v' c μ (by omega) n1 n2 n3 n4 (by omega) n5.symm hL hx h8
    · rw [if_neg e] at n5 ⊢
      obtain ⟨c1, c2, c3⟩ := hmv u v h3 x3 h4 h5 e
      have hu : nd u := ⟨h3, by omega⟩
      have hv : nd v := ⟨h4, by omega⟩
      have hrg := mv_rng hn h3 h4 x3 h5 e
      have hei : ei n u v = c := by
        unfold ei
        rw [if_pos ⟨x3, h5⟩, if_neg e, h7]
      have hplc : plc n u v = c := by rw [plc_mv x3 h5 e, h7]
      obtain ⟨μ1, a1, a2, a3, a4, a5, a6⟩ := LE_p (a := u) (b := v) (l := 0) (h := 100000) (co := mv (5 * u + v)) (p := c) hn hL hx hE hu hv e hei (by omega) (sw_lt (by omega)).symm (sw_lt (by omega)).symm c1.symm c2.symm c3.symm hplc.symm (by decide)
      rw [z_ck (by omega) (by omega), z_ck (by omega) (by omega), z_ld (by omega) (by omega), h8 _ (by omega) (by omega), a1, z_b, z_ck (by omega) (by omega), z_ck (by omega) (by omega)]
      obtain ⟨μ', b1, b2, b3, b4, b5, b6⟩ := ih nf (x + 1) u' v' (c + 1) μ1 (by omega) n1 n2 n3 n4 (by omega) n5.symm a2 (exMM_0 a3 rfl) (fun i i0 i1 => by rw [a4.1 8 (by omega) (by omega)]; exact h8 i i0 i1)
      exact ⟨μ', b1, b2, b3, frL_tr a4 b4, by rw [b5, a5], by rw [b6, a6]⟩
