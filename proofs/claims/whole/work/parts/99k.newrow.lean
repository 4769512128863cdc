/-! apply: the row that a replay begins with -/
def isN (n : Int) (w S v : Int → Int) : Prop := (∀ j, 0 ≤ j → j < 20 → v j = if j % 10 < 2 * n then S (j % 10) else 0) ∧ (∀ j, 20 ≤ j → j < 30 → v j = 0) ∧ (∀ j, 30 ≤ j → j < 35 → v j = -1) ∧ v 35 = 0 ∧ v 36 = 0 ∧ v 37 = kp w (w 37).toNat ∧ (∀ j, 38 ≤ j → j < 63 → v j = -1) ∧ ∀ k, 0 ≤ k → k < kp w (w 37).toNat → (∀ j, 0 ≤ j → j < 4 → mg v k j = mg w (sl w (w 37).toNat k) j) ∧ mg v k 4 = -1 ∧ mg v k 5 = -1
theorem isN_rv {n c : Int} {w S v : Int → Int} (hv : rv n w c) (h : isN n w S v) (hS : ∀ j, 0 ≤ j → j < 2 * n → 0 ≤ S j ∧ S j ≤ 1000) : rv n v c := by
  obtain ⟨v0, v1, v2, v3, v4, v5, v6, v7, v8, v9, v10, vE, vM, vH⟩ := hv
  obtain ⟨a, b, d, s, l, m, k, g⟩ := h
  have hb := kp_bd (w := w) (i := (w 37).toNat)
  refine ⟨v0, fun j g1 g2 => ?_, by omega, by omega, fun p g1 g2 => ?_, ?_, ⟨fun p g1 g2 => ?_, fun p g1 g2 => ?_⟩, fun i g1 g2 => ?_, by omega, fun _ i g1 g2 => ?_, fun h => ?_, fun e g1 g2 => ?_, fun e g1 g2 => ?_, fun e f g1 g2 g3 => ?_, fun e g1 g2 => ?_, fun p g1 g2 _ => ?_⟩
  · rw [a j g1 g2]
    by_cases q : j % 10 < 2 * n
    · rw [if_pos q]
      have := hS (j % 10) (by omega) q
      exact ⟨this.1, this.2, fun q' => absurd q (by omega)⟩
    · rw [if_neg q]
      exact ⟨by decide, by decide, fun _ => rfl⟩
  · unfold rv_p
    rw [b (20 + p) (by omega) (by omega), b (25 + p) (by omega) (by omega), d (30 + p) (by omega) (by omega)]; omega
  · rw [b 25 (by omega) (by omega), b 26 (by omega) (by omega), b 27 (by omega) (by omega), b 28 (by omega) (by omega), b 29 (by omega) (by omega)]; omega
  · exact b _ (by omega) (by omega)
  · exact k _ (by omega) (by omega)
  · rw [k (38 + i) (by omega) (by omega)]; omega
  · exact k _ (by omega) (by omega)
  · omega
  · omega
  · rw [m] at g2
    obtain ⟨g3, g4, g5⟩ := g e g1 g2
    have ho := sl_ok (w := w) (w 37).toNat e g1 g2
    obtain ⟨x0, x1, x2, x3, x4, -⟩ := vM _ ho.1 (by omega)
    unfold rv_m
    rw [g4, g5, g3 0 (by decide) (by decide), g3 1 (by decide) (by decide), g3 2 (by decide) (by decide), g3 3 (by decide) (by decide)]
    exact ⟨x0, x1, x2, x3, x4, by omega, by omega⟩
  · omega
  · omega
  · exact b _ (by omega) (by omega)
theorem z_after {p s v : Int} {μ : q_M} (hp : 0 ≤ p) (hp' : p < 5) (hs : s = 0 ∨ s = 1) (hk : q_g μ (flo s + 1) (p * 7 + 6) = v) : f_Re_stockAfter p s μ = some v := by
  unfold f_Re_stockAfter f_Fl_along
  rw [q_ao_flo hs, z_arc ⟨hp, by omega⟩ ⟨by decide, by decide⟩, z_b, z_ld (by omega) (by omega), hk]
  rfl
theorem flo_g {s : Int} : 60 < flo s := by
  unfold flo
  by_cases h : s = 0
  · rw [if_pos h]; omega
  · rw [if_neg h]; omega
/-- the class lays the repaired stocks -/
theorem appL40 {N : Nat} {n : Int} {S : Int → Int} {K : q_M → Option (Int × q_M)} (hN : 1000 ≤ N) (h2 : 2 ≤ n) (h5 : n ≤ 5) : ∀ (d nf : Nat) (p : Int) (μ : q_M), p + d = n → 0 ≤ p → d < nf → q_g μ 1 0 = n → (∀ p s, 0 ≤ p → p < n → s = 0 ∨ s = 1 → q_g μ (flo s + 1) (p * 7 + 6) = S (2 * p + s)) →
    ∃ μ', f_CR_apply_L40 N K nf p μ = K μ' ∧ (∀ k, k ≠ 2 → k ≠ 3 → q_g μ' k = q_g μ k) ∧ ∀ j, (q_g μ' 2 j = if 2 * p ≤ j ∧ j < 2 * n then S j else q_g μ 2 j) ∧ q_g μ' 3 j = if 2 * p ≤ j ∧ j < 2 * n then S j else q_g μ 3 j := by
  intro d
  induction d with
  | zero =>
    intro nf p μ h1 h3 h4 hn hS
    obtain ⟨nf, rfl⟩ : ∃ m, nf = m + 1 := ⟨nf - 1, by omega⟩
    exact ⟨μ, by rw [f_CR_apply_L40, z_fl, Int.cast_ofNat_Int, hn, if_pos (by omega)], fun _ _ _ => rfl, fun j => by rw [if_neg (by omega), if_neg (by omega)]; exact ⟨rfl, rfl⟩⟩
  | succ d ih =>
    intro nf p μ h1 h3 h4 hn hS
    obtain ⟨nf, rfl⟩ : ∃ m, nf = m + 1 := ⟨nf - 1, by omega⟩
    obtain ⟨N', rfl⟩ : ∃ m, N = m + 3 := ⟨N - 3, by omega⟩
    have s0 := hS p 0 h3 (by omega) (Or.inl rfl)
    have s1 := hS p 1 h3 (by omega) (Or.inr rfl)
    have f0 := flo_g (s := 0)
    have f1 := flo_g (s := 1)
    rw [f_CR_apply_L40, z_fl, Int.cast_ofNat_Int, hn, if_neg (by omega)]
    rw [f_CR_apply_L54, if_neg (by decide), z_slot (by omega) (by omega) (by decide) (by decide), z_b, z_after h3 (by omega) (Or.inl rfl) s0, z_b, z_st (by omega) (by omega), z_slot (by omega) (by omega) (by decide) (by decide), z_b, z_after (v := S (2 * p + 0)) h3 (by omega) (Or.inl rfl) (by rw [g_sn (by omega)]; exact s0), z_b, z_st (by omega) (by omega), z_ck (by decide) (by decide)]
    rw [show (0 : Int) + 1 = 1 from rfl, f_CR_apply_L54, if_neg (by decide), z_slot (by omega) (by omega) (by decide) (by decide), z_b, z_after (v := S (2 * p + 1)) h3 (by omega) (Or.inr rfl) (by rw [g_sn (by omega), g_sn (by omega)]; exact s1), z_b, z_st (by omega) (by omega), z_slot (by omega) (by omega) (by decide) (by decide), z_b, z_after (v := S (2 * p + 1)) h3 (by omega) (Or.inr rfl) (by rw [g_sn (by omega), g_sn (by omega), g_sn (by omega)]; exact s1), z_b, z_st (by omega) (by omega), z_ck (by decide) (by decide)]
    rw [f_CR_apply_L54, if_pos (by decide), z_ck (by omega) (by omega)]
    obtain ⟨μ', a1, a2, a3⟩ := ih nf (p + 1) (q_x (q_x (q_x (q_x μ 2 (p * 2 + 0) (S (2 * p + 0))) 3 (p * 2 + 0) (S (2 * p + 0))) 2 (p * 2 + 1) (S (2 * p + 1))) 3 (p * 2 + 1) (S (2 * p + 1))) (by omega) (by omega) (by omega) (by simp (disch := omega) only [g_sn]; exact hn) (fun p' s' q0 q1 q2 => by
      have := flo_g (s := s')
      simp (disch := omega) only [g_sn]
      exact hS p' s' q0 q1 q2)
    refine ⟨μ', a1, fun k k2 k3 => by rw [a2 k k2 k3]; simp (disch := omega) only [g_sn], fun j => ?_⟩
    obtain ⟨b1, b2⟩ := a3 j
    rw [b1, b2]
    simp (disch := omega) only [g_sn, g_s]
    by_cases e : 2 * (p + 1) ≤ j ∧ j < 2 * n
    · rw [if_pos e, if_pos e, if_pos (by omega), if_pos (by omega)]
      exact ⟨rfl, rfl⟩
    · rw [if_neg e, if_neg e]
      by_cases e0 : j = p * 2 + 0
      · subst e0
        rw [if_pos (by omega), if_pos (by omega), u_n (by omega), u_s, u_n (by omega), u_s, show 2 * p + 0 = p * 2 + 0 by omega]
        exact ⟨rfl, rfl⟩
      · by_cases e1 : j = p * 2 + 1
        · subst e1
          rw [if_pos (by omega), if_pos (by omega), u_s, u_s, show 2 * p + 1 = p * 2 + 1 by omega]
          exact ⟨rfl, rfl⟩
        · rw [if_neg (by omega), if_neg (by omega), u_n e1, u_n e0, u_n e1, u_n e0]
          exact ⟨rfl, rfl⟩
def w0 : Int → Int := fun i => if (30 ≤ i ∧ i < 35) ∨ (38 ≤ i ∧ i < 63) then -1 else 0
theorem vB_w0 : vB w0 := by
  unfold vB w0
  refine ⟨fun j a b => if_neg (by omega), fun j a b => if_pos (by omega), by decide, by decide, by decide, fun j a b => if_pos (by omega)⟩
theorem appC {N : Nat} {n c : Int} {w S : Int → Int} {μ : q_M} {KK : q_M → Option (Int × q_M)} (hN : 1000 ≤ N) (hr : rr_C 1 n μ w) (hv : rv n w c) (hS : ∀ p s, 0 ≤ p → p < n → s = 0 ∨ s = 1 → q_g μ (flo s + 1) (p * 7 + 6) = S (2 * p + s)) :
    ∃ μ', (q_b (f_Wo_copyFrom 24 1 μ) fun μ5 => q_fz μ5 0 2 1 fun μ6 => q_b (f_Wo_beginAfterCutOf N 1 24 μ6) fun μ8 => f_CR_apply_L40 N KK N 0 μ8) = KK μ' ∧ rr_C 24 n μ' w ∧ (∀ v, isN n w S v → rr_C 1 n μ' v) ∧ (∀ k, 47 ≤ k → q_g μ' k = q_g μ k) ∧ q_g μ' 0 = q_u (q_g μ 0) 2 1 := by
  have hv' := hv
  obtain ⟨v0, v1, v2, v3, -⟩ := hv'
  obtain ⟨μ1, a1, a2, a3⟩ := z_Wo_copyFrom (o := 24) (oa := 1) (by omega) hr hv
  rw [a1, z_b, z_fz (Or.inr rfl), Int.cast_ofNat_Int]
  obtain ⟨μ2, b1, b2, b3⟩ := z_Wo_begin (o := 1) (n := n) (μ := q_x μ1 0 2 1)
  have r2 : rr_C 24 n μ2 w := rr_frame a3 (fun k k0 k1 => by rw [b2 k (by omega), g_sn (by omega)])
  have rb := b3 w0 vB_w0
  have r15 : q_g μ2 15 0 = 0 := rb.2.2.2.2.2.2.2.2.1
  obtain ⟨μ3, d1, d2, d3, d4⟩ := begL10 (K := some) hv (w 37).toNat N 0 μ2 (by omega) (by omega) r2 (by rw [r15]; rfl) (fun k k0 k1 => by
    have : kp w 0 = 0 := rfl
    omega)
  have eb : f_Wo_beginAfterCutOf N 1 24 (q_x μ1 0 2 1) = some μ3 := by
    unfold f_Wo_beginAfterCutOf
    rw [z_fl, Int.cast_ofNat_Int, show q_g (q_x μ1 0 2 1) 24 0 = n from a3.1, b1, z_b]
    exact d1
  rw [eb, z_b]
  obtain ⟨μ', e1, e2, e3⟩ := appL40 (N := N) (K := KK) (S := S) hN v0.1 v0.2 n.toNat N 0 μ3 (by omega) (by omega) (by omega) (by rw [d2 1 (by omega)]; exact rb.1) (fun p s p0 p1 hs => by
    have := flo_g (s := s)
    rw [d2 _ (by omega), b2 _ (by omega), g_sn (by omega), a2 _ (by omega)]
    exact hS p s p0 p1 hs)
  have fk : ∀ k, k ≠ 2 → k ≠ 3 → (k < 15 ∨ 20 < k) → q_g μ' k = q_g μ2 k := fun k k0 k1 k2 => by rw [e2 k k0 k1, d2 k k2]
  refine ⟨μ', e1, rr_frame r2 (fun k k0 k1 => fk k (by omega) (by omega) (by omega)), fun v hvv => ?_, fun k hk => by rw [fk k (by omega) (by omega) (by omega), b2 k (by omega), g_sn (by omega), a2 k (by omega)], ?_⟩
  · obtain ⟨i0, i1, i2, i3, i4, i5, i6, i7⟩ := hvv
    obtain ⟨r0, r1, r2', r3, r4, r5, r6, r7, r8, r9, -⟩ := rb
    have z0 : ∀ j, 0 ≤ j → j < 30 → w0 j = 0 := vB_w0.1
    refine ⟨by rw [fk 1 (by omega) (by omega) (by omega)]; exact r0, fun j j0 j1 => ?_, fun j j0 j1 => ?_, fun j j0 j1 => ?_, fun j j0 j1 => ?_, fun j j0 j1 => ?_, fun j j0 j1 => ?_, ?_, ?_, ?_, fun e x0 x1 => absurd x1 (by omega), fun e x0 x1 => ?_⟩
    · rw [show 1 + 1 = 2 from rfl, (e3 j).1, i0 j j0 (by omega), show j % 10 = j by omega]
      by_cases q : j < 2 * n
      · rw [if_pos ⟨by omega, q⟩, if_pos q]
      · rw [if_neg (by omega), if_neg q, d2 2 (by omega)]
        rw [show (2 : Nat) = 1 + 1 from rfl, r1 j j0 j1, z0 j j0 (by omega)]
    · rw [show 1 + 2 = 3 from rfl, (e3 j).2, i0 (10 + j) (by omega) (by omega), show (10 + j) % 10 = j by omega]
      by_cases q : j < 2 * n
      · rw [if_pos ⟨by omega, q⟩, if_pos q]
      · rw [if_neg (by omega), if_neg q, d2 3 (by omega)]
        rw [show (3 : Nat) = 1 + 2 from rfl, r2' j j0 j1, z0 _ (by omega) (by omega)]
    · rw [fk _ (by omega) (by omega) (by omega), r3 j j0 j1, z0 _ (by omega) (by omega), i1 _ (by omega) (by omega)]
    · rw [fk _ (by omega) (by omega) (by omega), r4 j j0 j1, z0 _ (by omega) (by omega), i1 _ (by omega) (by omega)]
    · rw [fk _ (by omega) (by omega) (by omega), r5 j j0 j1, vB_w0.2.1 _ (by omega) (by omega), i2 _ (by omega) (by omega)]
    · rw [fk _ (by omega) (by omega) (by omega), r6 j j0 j1, vB_w0.2.2.2.2.2 _ (by omega) (by omega), i6 _ (by omega) (by omega)]
    · rw [fk _ (by omega) (by omega) (by omega), r7, i4]; rfl
    · rw [show 1 + 14 = 15 from rfl, e2 15 (by omega) (by omega), d3, i5]
    · rw [fk _ (by omega) (by omega) (by omega), r9, i3]; rfl
    · rw [i5] at x1
      obtain ⟨g1, g2, g3⟩ := i7 e x0 x1
      obtain ⟨m1, m2, m3, m4, m5⟩ := d4 e x0 x1
      unfold rr_M
      rw [g2, g3, g1 0 (by decide) (by decide), g1 1 (by decide) (by decide), g1 2 (by decide) (by decide), g1 3 (by decide) (by decide)]
      exact ⟨by rw [e2 _ (by omega) (by omega)]; exact m1, by rw [e2 _ (by omega) (by omega)]; exact m2, by rw [e2 _ (by omega) (by omega)]; exact m3, by rw [e2 _ (by omega) (by omega)]; exact m4, by rw [e2 _ (by omega) (by omega)]; exact m5⟩
  · rw [fk 0 (by omega) (by omega) (by omega), b2 0 (by omega), g_s (by omega), a2 0 (by omega)]
