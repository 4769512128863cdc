/-! what holds between the two regions after c calls -/
def vT (μC μM : q_M) : Prop := q_g μC 47 0 = q_g μM 0 4 ∧ (0 ≤ q_g μM 0 4 ∧ q_g μM 0 4 ≤ 20) ∧ ∀ i, 0 ≤ i → i < q_g μM 0 4 → q_g μC 48 i = q_g μM 3 i ∧ 0 ≤ q_g μM 3 i ∧ q_g μM 3 i < 65536
def vU (n : Int) (μC μM : q_M) : Prop := q_g μC 49 0 = q_g μM 0 6 ∧ (0 ≤ q_g μM 0 6 ∧ q_g μM 0 6 ≤ 12) ∧ ∀ i, 0 ≤ i → i < q_g μM 0 6 → q_g μC 50 i = q_g μM 4 i ∧ q_g μC 51 i = q_g μM 5 i ∧ q_g μC 52 i = q_g μM 6 i ∧ q_g μC 53 i = q_g μM 7 i ∧ ((0 ≤ q_g μM 4 i ∧ q_g μM 4 i < n) ∨ q_g μM 4 i = 8 ∨ q_g μM 4 i = 9) ∧ (0 ≤ q_g μM 5 i ∧ q_g μM 5 i ≤ 1) ∧ (0 ≤ q_g μM 6 i ∧ q_g μM 6 i ≤ 2) ∧ (0 ≤ q_g μM 7 i ∧ q_g μM 7 i ≤ 9999)
def vK (μC μM : q_M) : Prop := (∀ i, 0 ≤ i → i < 25 → q_g μC 55 i = q_g μM 8 i ∧ 1 ≤ q_g μM 8 i ∧ q_g μM 8 i ≤ 1000) ∧ (q_g μC 54 1 = q_g μM 0 12 ∧ 1 ≤ q_g μM 0 12 ∧ q_g μM 0 12 ≤ 1000) ∧ (q_g μC 54 2 = q_g μM 0 13 ∧ 1 ≤ q_g μM 0 13 ∧ q_g μM 0 13 ≤ 1000)
def vA (n c : Int) (μC μM : q_M) : Prop := q_g μC 0 2 = q_g μM 0 3 ∧ (q_g μM 0 3 = 0 ∨ q_g μM 0 3 = 1) ∧ (q_g μM 0 3 = 1 → rr_C 24 n μC (q_g μM 2) ∧ rv n (q_g μM 2) c)
def vI (c : Nat) (μC μM : q_M) : Prop := ∃ n : Int, rr_C 1 n μC (q_g μM 1) ∧ rv n (q_g μM 1) c ∧ q_g μM 0 0 = n ∧ vA n c μC μM ∧ vT μC μM ∧ vU n μC μM ∧ vK μC μM
theorem rv_up {n c c' : Int} {w : Int → Int} (h : rv n w c) (h1 : c ≤ c') (h2 : c' ≤ 512) : rv n w c' := by
  obtain ⟨a, b, d, e, r⟩ := h
  exact ⟨a, b, d, ⟨e.1, by omega, h2⟩, r⟩
theorem vA_up {n c c' : Int} {μC μM : q_M} (h : vA n c μC μM) (h1 : c ≤ c') (h2 : c' ≤ 512) : vA n c' μC μM :=
  ⟨h.1, h.2.1, fun g => ⟨(h.2.2 g).1, rv_up (h.2.2 g).2 h1 h2⟩⟩
theorem vI_up {c : Nat} {μC μM : q_M} (hc : c < 512) (h : vI c μC μM) : vI (c + 1) μC μM := by
  obtain ⟨n, a, b, d, e, r⟩ := h
  exact ⟨n, a, rv_up b (by omega) (by omega), d, vA_up e (by omega) (by omega), r⟩
/-- a World's row only stands in its own cells -/
theorem rr_frame {o : Nat} {n : Int} {μ μ' : q_M} {w : Int → Int} (h : rr_C o n μ w) (hf : ∀ k, o ≤ k → k ≤ o + 22 → q_g μ' k = q_g μ k) : rr_C o n μ' w := by
  unfold rr_C rr_E rr_M at h ⊢
  rw [hf o (by omega) (by omega), hf (o + 1) (by omega) (by omega), hf (o + 2) (by omega) (by omega), hf (o + 3) (by omega) (by omega), hf (o + 4) (by omega) (by omega), hf (o + 5) (by omega) (by omega), hf (o + 6) (by omega) (by omega), hf (o + 7) (by omega) (by omega), hf (o + 8) (by omega) (by omega), hf (o + 9) (by omega) (by omega), hf (o + 10) (by omega) (by omega), hf (o + 11) (by omega) (by omega), hf (o + 12) (by omega) (by omega), hf (o + 13) (by omega) (by omega), hf (o + 14) (by omega) (by omega), hf (o + 15) (by omega) (by omega), hf (o + 16) (by omega) (by omega), hf (o + 17) (by omega) (by omega), hf (o + 18) (by omega) (by omega), hf (o + 19) (by omega) (by omega), hf (o + 20) (by omega) (by omega), hf (o + 21) (by omega) (by omega), hf (o + 22) (by omega) (by omega)]
  exact h
/-- a call that changed the present system alone -/
theorem vI_now {c : Nat} {n : Int} {μC μM μC' μM' : q_M} (hA : vA n c μC μM) (hT : vT μC μM) (hU : vU n μC μM) (hK : vK μC μM) (hn : q_g μM 0 0 = n) (hc : c < 512) (hC : ∀ k, (k = 0 ∨ 23 < k) → q_g μC' k = q_g μC k) (hM : ∀ k, k ≠ 1 → q_g μM' k = q_g μM k) (hr : rr_C 1 n μC' (q_g μM' 1)) (hv : rv n (q_g μM' 1) (c + 1 : Nat)) : vI (c + 1) μC' μM' := by
  refine ⟨n, hr, hv, by rw [hM 0 (by omega)]; exact hn, ?_, ?_, ?_, ?_⟩
  · have hA := vA_up hA (c' := (c + 1 : Nat)) (by omega) (by omega)
    unfold vA at hA ⊢
    rw [hC 0 (by omega), hM 0 (by omega), hM 2 (by omega)]
    exact ⟨hA.1, hA.2.1, fun g => ⟨rr_frame (hA.2.2 g).1 (fun k h1 h2 => hC k (by omega)), (hA.2.2 g).2⟩⟩
  · unfold vT at hT ⊢
    rw [hC 47 (by omega), hC 48 (by omega), hM 0 (by omega), hM 3 (by omega)]
    exact hT
  · unfold vU at hU ⊢
    rw [hC 49 (by omega), hC 50 (by omega), hC 51 (by omega), hC 52 (by omega), hC 53 (by omega), hM 0 (by omega), hM 4 (by omega), hM 5 (by omega), hM 6 (by omega), hM 7 (by omega)]
    exact hU
  · unfold vK at hK ⊢
    rw [hC 54 (by omega), hC 55 (by omega), hM 0 (by omega), hM 8 (by omega)]
    exact hK
theorem z_zb {c : Prop} [Decidable c] : ((if c then (0 : Int) else 1) = 0) = c := by
  by_cases h : c <;> simp [h]
theorem z_rzj {α : Type} {c : Prop} [Decidable c] {m : Option α} : q_rz (if c then 0 else 1) m = m := by
  by_cases h : c
  · rw [if_pos h]; rfl
  · rw [if_neg h]; rfl
theorem z_isEvent {a l : Int} {μ : q_M} (hl : q_g μ 5 0 = l) (h2 : 0 ≤ l) (h5 : l ≤ 100) : f_CR_isEvent a μ = some (if 0 ≤ a ∧ a ≤ l - 1 then 1 else 0) := by
  simp (disch := omega) only [f_CR_isEvent, z_fl, z_ck, z_within, z_b, z_rzi, Int.cast_ofNat_Int, hl]
theorem z_noEvent {a l : Int} {μ : q_M} (hl : q_g μ 1 36 = l) (h2 : 0 ≤ l) (h5 : l ≤ 100) : f_M_noEvent a μ = some (if 0 ≤ a ∧ a ≤ l - 1 then 0 else 1) := by
  simp (disch := omega) only [f_M_noEvent, z_ld, z_ck, z_in, z_b, z_rz0, z_rz1, z_jn, z_bz, hl]
  by_cases h : 0 ≤ a ∧ a ≤ l - 1
  · simp [h]
  · simp [h]
theorem z_noRule {a l : Int} {μ : q_M} (hl : q_g μ 0 6 = l) (h2 : 0 ≤ l) (h5 : l ≤ 12) : f_M_noRule a μ = some (if 0 ≤ a ∧ a ≤ l - 1 then 0 else 1) := by
  simp (disch := omega) only [f_M_noRule, z_fl, z_ck, z_in, z_b, z_rz0, z_rz1, z_jn, z_bz, Int.cast_ofNat_Int, hl]
  by_cases h : 0 ≤ a ∧ a ≤ l - 1
  · simp [h]
  · simp [h]
theorem z_noStock {a b n : Int} {μ : q_M} (hn : q_g μ 0 0 = n) (h2 : 2 ≤ n) (h5 : n ≤ 5) : f_M_noStock a b μ = some (if (0 ≤ a ∧ a ≤ n - 1) ∧ 0 ≤ b ∧ b ≤ 1 then 0 else 1) := by
  simp only [f_M_noStock, z_noProcess hn h2 h5, z_b, z_jn, z_zb, z_in, z_bz, z_rz0, z_rz1]
  by_cases h : 0 ≤ a ∧ a ≤ n - 1
  · by_cases g : 0 ≤ b ∧ b ≤ 1
    · simp only [h, g, and_self, not_true, if_true, if_false]
    · simp only [h, g, and_false, not_false_eq_true, if_true, if_false, and_self]
  · simp only [h, false_and, if_false]
theorem z_isPair {a b n : Int} {μ : q_M} (hn : q_g μ 1 0 = n) (h2 : 2 ≤ n) (h5 : n ≤ 5) : f_CR_isPair a b μ = some (if (0 ≤ a ∧ a ≤ n - 1) ∧ (0 ≤ b ∧ b ≤ n - 1) ∧ a ≠ b then 1 else 0) := by
  simp only [f_CR_isPair, z_isProcess hn h2 h5, z_b, z_jn, z_bz, z_rz0, z_rz1]
  by_cases h : 0 ≤ a ∧ a ≤ n - 1
  · by_cases g : 0 ≤ b ∧ b ≤ n - 1
    · by_cases e : a = b
      · simp only [h, g, e, and_self, not_true, if_true, if_false, ne_eq, and_false]
      · simp only [h, g, e, and_self, not_true, if_true, if_false, ne_eq, not_false_eq_true]
    · simp only [h, g, false_and, and_false, not_false_eq_true, not_true, if_true, if_false, and_self]
  · simp only [h, false_and, if_false, not_false_eq_true, if_true]
theorem z_noChannel {a b n : Int} {μ : q_M} (hn : q_g μ 0 0 = n) (h2 : 2 ≤ n) (h5 : n ≤ 5) : f_M_noChannel a b μ = some (if (0 ≤ a ∧ a ≤ n - 1) ∧ (0 ≤ b ∧ b ≤ n - 1) ∧ a ≠ b then 0 else 1) := by
  simp only [f_M_noChannel, z_noProcess hn h2 h5, z_b, z_jn, z_zb, z_rz0, z_rz1]
  by_cases h : 0 ≤ a ∧ a ≤ n - 1
  · by_cases g : 0 ≤ b ∧ b ≤ n - 1
    · by_cases e : a = b
      · simp only [h, g, e, and_self, if_true, if_false, ne_eq, and_false, not_true]
      · simp only [h, g, e, and_self, if_true, if_false, ne_eq, not_false_eq_true]
    · simp only [h, g, false_and, and_false, if_true, if_false, and_self]
  · simp only [h, false_and, if_false]
/-! steps that only look -/
theorem s_stock {N : Nat} : q_st_stock N vI := by
  intro c μC μM hc hI a0 h0 a1 h1
  refine (fun (x : ∃ r, f_CR_stock a0 a1 μC = some r ∧ f_M_stock a0 a1 μM = some r) => x.elim fun r h => ⟨r, h.1, h.2, vI_up hc hI⟩) ?_
  obtain ⟨n, hr, hv, hn, hA, hT, hU, hK⟩ := hI
  obtain ⟨e0, e1, -⟩ := hr
  obtain ⟨v0, -⟩ := hv
  simp only [f_CR_stock, f_M_stock, z_isProcess e0 v0.1 v0.2, z_noStock hn v0.1 v0.2, z_isStock, z_b, z_bz, z_zb, z_jn]
  by_cases g : 0 ≤ a0 ∧ a0 ≤ n - 1
  · by_cases g1 : 0 ≤ a1 ∧ a1 ≤ 1
    · rw [if_neg (not_not_intro g), if_neg (not_not_intro g1), if_pos ⟨g, g1⟩]
      simp (disch := omega) only [z_slot, z_ck, z_ld, z_b]
      rw [show (2 : Nat) = 1 + 1 from rfl, e1 _ (by omega) (by omega)]
      exact ⟨_, rfl, by rw [show (0 : Int) + 2 * a0 + a1 = a0 * 2 + a1 by omega]⟩
    · rw [if_neg (not_not_intro g), if_pos g1, if_neg (fun h => g1 h.2)]
      exact ⟨_, rfl, rfl⟩
  · rw [if_pos g, if_neg (fun h => g h.1)]
    exact ⟨_, rfl, rfl⟩
theorem s_eventsOf {N : Nat} : q_st_eventsOf N vI := by
  intro c μC μM hc hI a0 h0
  refine (fun (x : ∃ r, f_CR_eventsOf a0 μC = some r ∧ f_M_eventsOf a0 μM = some r) => x.elim fun r h => ⟨r, h.1, h.2, vI_up hc hI⟩) ?_
  obtain ⟨n, hr, hv, hn, hA, hT, hU, hK⟩ := hI
  obtain ⟨e0, -, -, -, e4, -⟩ := hr
  obtain ⟨v0, -⟩ := hv
  simp only [f_CR_eventsOf, f_M_eventsOf, z_isProcess e0 v0.1 v0.2, z_noProcess hn v0.1 v0.2, z_b, z_bz, z_zb, z_jn]
  by_cases g : 0 ≤ a0 ∧ a0 ≤ n - 1
  · rw [if_neg (not_not_intro g), if_pos g]
    simp (disch := omega) only [z_ck, z_ld]
    rw [show (14 : Nat) = 1 + 13 from rfl, e4 _ (by omega) (by omega)]
    exact ⟨_, rfl, rfl⟩
  · rw [if_pos g, if_neg g]
    exact ⟨_, rfl, rfl⟩
theorem s_cut {N : Nat} : q_st_cut N vI := by
  intro c μC μM hc hI a0 h0
  refine (fun (x : ∃ r, f_CR_cut a0 μC = some r ∧ f_M_cut a0 μM = some r) => x.elim fun r h => ⟨r, h.1, h.2, vI_up hc hI⟩) ?_
  obtain ⟨n, hr, hv, hn, hA, hT, hU, hK⟩ := hI
  obtain ⟨e0, -, -, e3, e4, -⟩ := hr
  obtain ⟨v0, -⟩ := hv
  simp only [f_CR_cut, f_M_cut, z_isProcess e0 v0.1 v0.2, z_noProcess hn v0.1 v0.2, z_b, z_bz, z_zb, z_jn]
  by_cases g : 0 ≤ a0 ∧ a0 ≤ n - 1
  · rw [if_neg (not_not_intro g), if_pos g]
    simp (disch := omega) only [z_ck, z_ld]
    rw [show (4 : Nat) = 1 + 3 from rfl, e3 _ (by omega) (by omega)]
    exact ⟨_, rfl, rfl⟩
  · rw [if_pos g, if_neg g]
    exact ⟨_, rfl, rfl⟩
theorem s_recorded {N : Nat} : q_st_recorded N vI := by
  intro c μC μM hc hI a0 h0
  refine (fun (x : ∃ r, f_CR_recorded a0 μC = some r ∧ f_M_recorded a0 μM = some r) => x.elim fun r h => ⟨r, h.1, h.2, vI_up hc hI⟩) ?_
  obtain ⟨n, hr, hv, hn, hA, hT, hU, hK⟩ := hI
  obtain ⟨e0, -, -, -, -, e5, -⟩ := hr
  obtain ⟨v0, -, -, -, vp, -⟩ := hv
  simp only [f_CR_recorded, f_M_recorded, z_isProcess e0 v0.1 v0.2, z_noProcess hn v0.1 v0.2, z_b, z_bz, z_zb, z_jn]
  by_cases g : 0 ≤ a0 ∧ a0 ≤ n - 1
  · rw [if_neg (not_not_intro g), if_pos g]
    simp (disch := omega) only [z_ck, z_ld]
    have := (vp a0 (by omega) (by omega)).2.2
    rw [show (23 : Nat) = 1 + 22 from rfl, e5 _ (by omega) (by omega)]
    by_cases g2 : q_g μM 1 (30 + a0) = -1
    · rw [if_pos g2, if_neg (by omega)]
      exact ⟨_, rfl, rfl⟩
    · rw [if_neg g2, if_pos (by omega)]
      exact ⟨_, rfl, rfl⟩
  · rw [if_pos g, if_neg g]
    exact ⟨_, rfl, rfl⟩
theorem s_clock {N : Nat} : q_st_clock N vI := by
  intro c μC μM hc hI a0 h0 a1 h1
  refine (fun (x : ∃ r, f_CR_clock a0 a1 μC = some r ∧ f_M_clock a0 a1 μM = some r) => x.elim fun r h => ⟨r, h.1, h.2, vI_up hc hI⟩) ?_
  obtain ⟨n, hr, hv, hn, hA, hT, hU, hK⟩ := hI
  obtain ⟨e0, -, -, -, -, -, -, e7, -, -, eE, -⟩ := hr
  obtain ⟨v0, -, v2, -⟩ := hv
  simp only [f_CR_clock, f_M_clock, z_isProcess e0 v0.1 v0.2, z_noProcess hn v0.1 v0.2, z_isEvent e7 v2.1 v2.2, z_noEvent rfl v2.1 v2.2, z_b, z_bz, z_zb, z_jn]
  by_cases g : 0 ≤ a0 ∧ a0 ≤ q_g μM 1 36 - 1
  · by_cases g1 : 0 ≤ a1 ∧ a1 ≤ n - 1
    · rw [if_neg (not_not_intro g), if_neg (not_not_intro g1), if_pos g, if_pos g1]
      simp (disch := omega) only [z_ck, z_ld, z_ofEvent, z_b]
      have := (eE a0 g.1 (by omega)).2.2.2.2.2.2.2 a1 g1.1 (by omega)
      rw [show (13 : Nat) = 1 + 12 from rfl, this]
      exact ⟨_, rfl, rfl⟩
    · rw [if_neg (not_not_intro g), if_pos g1, if_pos g, if_neg g1]
      exact ⟨_, rfl, rfl⟩
  · rw [if_pos g, if_neg g]
    exact ⟨_, rfl, rfl⟩
