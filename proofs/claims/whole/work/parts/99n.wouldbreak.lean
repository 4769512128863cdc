/-! apply: whether an event would break a rule -/
def nb (x y : Int) : Int := (q_I y &&& q_I (q_I x ^^^ q_I (-1)).toInt).toInt
def shF (f : Int → Int → Int) (p s d : Int) : Int → Int → Int := fun p' s' => if p' = p ∧ s' = s then f p s + d else f p' s'
def shT (t : Int → Int) (s d : Int) : Int → Int := fun s' => if s' = s then t s + d else t s'
def nF (v : Int → Int) : Int → Int → Int := fun p s => v (2 * p + s)
def nT (v : Int → Int) : Int → Int := trN (prs v) v
def shA (v A : Int → Int) (e : Int) : Int → Int → Int := if ev A e 1 = 0 then shF (nF v) (ev A e 0) (ev A e 2) (ev A e 3) else if ev A e 1 = 1 then shF (nF v) (ev A e 0) (ev A e 2) (-(ev A e 3)) else if mRv v (ev A e 0) (ev A e 4) = v 37 then nF v else shF (nF v) (ev A e 0) (mg v (mRv v (ev A e 0) (ev A e 4)) 2) (mg v (mRv v (ev A e 0) (ev A e 4)) 3)
def shB (v A : Int → Int) (e : Int) : Int → Int := if ev A e 1 = 0 then shT (nT v) (ev A e 2) 0 else if ev A e 1 = 1 then shT (nT v) (ev A e 2) (ev A e 3) else if mRv v (ev A e 0) (ev A e 4) = v 37 then nT v else shT (nT v) (mg v (mRv v (ev A e 0) (ev A e 4)) 2) (-(mg v (mRv v (ev A e 0) (ev A e 4)) 3))
theorem mRv_in {v : Int → Int} {p f : Int} (h : 0 ≤ v 37) : 0 ≤ mRv v p f ∧ mRv v p f ≤ v 37 ∧ (mRv v p f ≠ v 37 → wait v f p (mRv v p f) = true) := by
  have hfi := fi_in (p := wait v f p) (d := (v 37).toNat) (i := 0)
  unfold mRv
  exact ⟨hfi.1, by omega, fun g => hfi.2.2.1 (by omega)⟩
theorem z_shift {n p s d d' : Int} {f : Int → Int → Int} {tr : Int → Int} {μ : q_M} (h2 : 2 ≤ n) (h5 : n ≤ 5) (hm : stM μ n f tr) (hp : 0 ≤ p ∧ p < n) (hs : 0 ≤ s ∧ s ≤ 1) (h1 : -100000 ≤ f p s ∧ f p s ≤ 100000) (hd : -1000 ≤ d ∧ d ≤ 1000) (h3 : -100000 ≤ tr s ∧ tr s ≤ 100000) (hd' : -1000 ≤ d' ∧ d' ≤ 1000) : ∃ μ', f_St_shift p s d d' μ = some μ' ∧ (∀ k, k ≠ 57 → k ≠ 58 → q_g μ' k = q_g μ k) ∧ stM μ' n (shF f p s d) (shT tr s d') := by
  obtain ⟨m0, m1, m2⟩ := hm
  unfold f_St_shift
  rw [z_slot hp.1 (by omega) hs.1 hs.2, z_b, z_ld (by omega) (by omega), m1 p s hp.1 hp.2 hs.1 hs.2, z_ck (by omega) (by omega), z_st (by omega) (by omega), z_ld (by omega) (by omega), g_sn (by omega), m2 s hs.1 hs.2, z_ck (by omega) (by omega), z_st (by omega) (by omega)]
  refine ⟨_, rfl, fun k k0 k1 => by rw [g_sn k1, g_sn k0], by rw [g_sn (by omega), g_sn (by omega)]; exact m0, fun p' s' p0 p1 s0 s1 => ?_, fun s' s0 s1 => ?_⟩
  · rw [g_sn (by omega), g_s (by omega)]
    unfold shF
    by_cases e : p' = p ∧ s' = s
    · rw [if_pos e, e.1, e.2, u_s]
    · rw [if_neg e, u_n (by omega)]
      exact m1 p' s' p0 p1 s0 s1
  · rw [g_s (by omega), g_sn (by omega)]
    unfold shT
    by_cases e : s' = s
    · rw [if_pos e, e, u_s]
    · rw [if_neg e, u_n e]
      exact m2 s' s0 s1
theorem nT_ge {n c m : Int} {v : Int → Int} (hv : rv n v c) (h0 : 0 ≤ m) (h1 : m < v 37) (hw : mg v m 5 < 0) : mg v m 3 ≤ nT v (mg v m 2) := by
  have v3 := hv.2.2.2.1
  have h := sm_le (f := fun j => if j = m then mg v m 3 else 0) (g := trS (prs v) v (mg v m 2)) (i := 0) (d := (v 37).toNat) (fun j j0 j1 => by
    by_cases e : j = m
    · rw [if_pos e, e]
      unfold trS prs
      rw [if_pos ⟨decide_eq_true hw, rfl⟩]
      exact Int.le_refl _
    · rw [if_neg e]
      exact (trS_bd hv (by omega) (by omega)).1)
  rw [sm_one (p := m) (by omega) (by omega) (fun j j0 j1 j2 => if_neg j2), if_pos rfl] at h
  exact h
theorem stB_sh {n c e : Int} {v A : Int → Int} (hv : rv n v c) (hA : rv n A c) (he : 0 ≤ e) (he' : e < A 36) (h1 : ev A e 1 = 1 → v 37 < 512) : stB n (shA v A e) (shB v A e) := by
  have hE := hA.2.2.2.2.2.2.2.2.2.2.2.1 e he he'
  have v3 := hv.2.2.2.1
  have v1 := hv.2.1
  have hin := mRv_in (v := v) (p := ev A e 0) (f := ev A e 4) v3.1
  have hm := hv.2.2.2.2.2.2.2.2.2.2.2.2.1 (mRv v (ev A e 0) (ev A e 4)) hin.1
  have hn := hv.1
  have f0 : ∀ p s, 0 ≤ p → p < n → 0 ≤ s → s ≤ 1 → 0 ≤ nF v p s ∧ nF v p s ≤ 1000 := fun p s p0 p1 s0 s1 => by
    have := v1 (2 * p + s) (by omega) (by omega)
    exact ⟨this.1, this.2.1⟩
  have t0 : ∀ s, 0 ≤ nT v s ∧ nT v s ≤ 100 * v 37 := fun s => by
    have := trP_bd (s := s) (f := prs v) (i := v 37) hv v3.1 (Int.le_refl _)
    exact this
  have fS : ∀ p s d, 0 ≤ p → p < n → 0 ≤ s → s ≤ 1 → -1000 ≤ d → d ≤ 1000 → ∀ p' s', 0 ≤ p' → p' < n → 0 ≤ s' → s' ≤ 1 → -10000 ≤ shF (nF v) p s d p' s' ∧ shF (nF v) p s d p' s' ≤ 11000 := fun p s d a1 a2 a3 a4 a5 a6 p' s' b1 b2 b3 b4 => by
    unfold shF
    by_cases q : p' = p ∧ s' = s
    · rw [if_pos q]
      have := f0 p s a1 a2 a3 a4
      omega
    · rw [if_neg q]
      have := f0 p' s' b1 b2 b3 b4
      omega
  refine ⟨hn, ?_, ?_⟩
  · unfold shA
    by_cases k0 : ev A e 1 = 0
    · rw [if_pos k0]
      exact fS _ _ _ hE.1.1 hE.1.2 hE.2.2.1.1 hE.2.2.1.2 (by have := hE.2.2.2.1; omega) (by have := hE.2.2.2.1; omega)
    · rw [if_neg k0]
      by_cases k1 : ev A e 1 = 1
      · rw [if_pos k1]
        exact fS _ _ _ hE.1.1 hE.1.2 hE.2.2.1.1 hE.2.2.1.2 (by have := hE.2.2.2.1; omega) (by have := hE.2.2.2.1; omega)
      · rw [if_neg k1]
        by_cases g : mRv v (ev A e 0) (ev A e 4) = v 37
        · rw [if_pos g]
          intro p s p0 p1 s0 s1
          have := f0 p s p0 p1 s0 s1
          omega
        · rw [if_neg g]
          have hm := hm (by omega)
          exact fS _ _ _ hE.1.1 hE.1.2 hm.2.2.2.1.1 hm.2.2.2.1.2 (by have := hm.2.2.2.2.1; omega) (by have := hm.2.2.2.2.1; omega)
  · unfold shB
    intro s s0 s1
    by_cases k0 : ev A e 1 = 0
    · rw [if_pos k0]
      unfold shT
      by_cases q : s = ev A e 2
      · rw [if_pos q]
        have := t0 (ev A e 2)
        omega
      · rw [if_neg q]
        have := t0 s
        omega
    · rw [if_neg k0]
      by_cases k1 : ev A e 1 = 1
      · rw [if_pos k1]
        have := h1 k1
        have a1 := (hE.2.2.2.2.2.2.1 k0).2.2
        have a2 := hE.2.2.2.1
        unfold shT
        by_cases q : s = ev A e 2
        · rw [if_pos q]
          have := t0 (ev A e 2)
          omega
        · rw [if_neg q]
          have := t0 s
          omega
      · rw [if_neg k1]
        by_cases g : mRv v (ev A e 0) (ev A e 4) = v 37
        · rw [if_pos g]
          have := t0 s
          omega
        · rw [if_neg g]
          have hm := (hm (by omega)).2.2.2.2.1
          unfold shT
          by_cases q : s = mg v (mRv v (ev A e 0) (ev A e 4)) 2
          · rw [if_pos q]
            have hw := hin.2.2 g
            unfold wait at hw
            simp only [Bool.and_eq_true, decide_eq_true_eq] at hw
            have := nT_ge hv hin.1 (by omega) hw.2
            have := t0 (mg v (mRv v (ev A e 0) (ev A e 4)) 2)
            omega
          · rw [if_neg q]
            have := t0 s
            omega
theorem z_shiftStanding {N : Nat} {n c e : Int} {v A : Int → Int} {μ : q_M} (hN : 1000 ≤ N) (hr : rr_C 1 n μ v) (hv : rv n v c) (hrA : rr_C 24 n μ A) (hA : rv n A c) (he : 0 ≤ e) (he' : e < A 36) (hm : stM μ n (nF v) (nT v)) : ∃ μ', f_CR_shiftStanding N e μ = some μ' ∧ (∀ k, k ≠ 57 → k ≠ 58 → q_g μ' k = q_g μ k) ∧ stM μ' n (shA v A e) (shB v A e) := by
  have hE := hA.2.2.2.2.2.2.2.2.2.2.2.1 e he he'
  have hl := hA.2.2.1
  have v3 := hv.2.2.2.1
  have hn := hv.1
  have hin := mRv_in (v := v) (p := ev A e 0) (f := ev A e 4) v3.1
  have hmm := hv.2.2.2.2.2.2.2.2.2.2.2.2.1 (mRv v (ev A e 0) (ev A e 4)) hin.1
  obtain ⟨E0, E1, E2, E3, E4, -⟩ := hrA.2.2.2.2.2.2.2.2.2.2.1 e he he'
  have f0 : ∀ p s, 0 ≤ p → p < n → 0 ≤ s → s ≤ 1 → -100000 ≤ nF v p s ∧ nF v p s ≤ 100000 := fun p s p0 p1 s0 s1 => by
    have := hv.2.1 (2 * p + s) (by omega) (by omega)
    have q : nF v p s = v (2 * p + s) := rfl
    omega
  have t0 : ∀ s, -100000 ≤ nT v s ∧ nT v s ≤ 100000 := fun s => by
    have := trP_bd (s := s) (f := prs v) (i := v 37) hv v3.1 (Int.le_refl _)
    have q : nT v s = sm (trS (prs v) v s) 0 (v 37).toNat := rfl
    omega
  unfold f_CR_shiftStanding shA shB
  rw [z_ld he (by omega), z_ld he (by omega), z_ld he (by omega), z_ld he (by omega), show (29 : Nat) = 24 + 5 from rfl, E0, show (31 : Nat) = 24 + 7 from rfl, E2, show (32 : Nat) = 24 + 8 from rfl, E3, show (30 : Nat) = 24 + 6 from rfl, E1]
  simp only [z_jn]
  by_cases k0 : ev A e 1 = 0
  · rw [if_pos k0, if_pos k0, if_pos k0]
    obtain ⟨μ', a1, a2, a3⟩ := z_shift (d := ev A e 3) (d' := 0) hn.1 hn.2 hm hE.1 hE.2.2.1 (f0 _ _ hE.1.1 hE.1.2 hE.2.2.1.1 hE.2.2.1.2) (by have := hE.2.2.2.1; omega) (t0 _) (by decide)
    exact ⟨μ', by rw [a1, z_b], a2, a3⟩
  · rw [if_neg k0, if_neg k0, if_neg k0]
    by_cases k1 : ev A e 1 = 1
    · rw [if_pos k1, if_pos k1, if_pos k1]
      obtain ⟨μ', a1, a2, a3⟩ := z_shift (d := -(ev A e 3)) (d' := ev A e 3) hn.1 hn.2 hm hE.1 hE.2.2.1 (f0 _ _ hE.1.1 hE.1.2 hE.2.2.1.1 hE.2.2.1.2) (by have := hE.2.2.2.1; omega) (t0 _) (by have := hE.2.2.2.1; omega)
      exact ⟨μ', by rw [z_ck (by have := hE.2.2.2.1; omega) (by have := hE.2.2.2.1; omega), a1, z_b], a2, a3⟩
    · have h4 := (hE.2.2.2.2.2.2.1 k0).1
      rw [if_neg k1, if_neg k1, if_neg k1, z_ld he (by omega), show (33 : Nat) = 24 + 9 from rfl, E4, z_channelOf (by omega) (by omega) (by have := hE.1; omega) (by have := hE.1; omega), z_b, show (15 : Nat) = 1 + 14 from rfl, z_messageAt hN hr hv (by omega) (by have := hE.1; omega), z_b, nth_fi]
      have em : fi (wait v (ev A e 4) (ev A e 0)) 0 (v 37).toNat = mRv v (ev A e 0) (ev A e 4) := rfl
      rw [em]
      by_cases g : mRv v (ev A e 0) (ev A e 4) = v 37
      · have ex : (if mRv v (ev A e 0) (ev A e 4) < 0 + ((v 37).toNat : Int) then mRv v (ev A e 0) (ev A e 4) else -1) = -1 := if_neg (by omega)
        rw [if_pos g, if_pos g, ex, if_pos rfl]
        exact ⟨μ, rfl, fun _ _ _ => rfl, hm⟩
      · have hmm := hmm (by omega)
        obtain ⟨-, M2, M3, -⟩ := hr.2.2.2.2.2.2.2.2.2.2.2 (mRv v (ev A e 0) (ev A e 4)) hin.1 (by omega)
        have ex : (if mRv v (ev A e 0) (ev A e 4) < 0 + ((v 37).toNat : Int) then mRv v (ev A e 0) (ev A e 4) else -1) = mRv v (ev A e 0) (ev A e 4) := if_pos (by omega)
        rw [if_neg g, if_neg g, ex, if_neg (by omega), z_ld hin.1 (by omega), z_ld hin.1 (by omega), show (18 : Nat) = 1 + 17 from rfl, M3, show (17 : Nat) = 1 + 16 from rfl, M2]
        obtain ⟨μ', a1, a2, a3⟩ := z_shift (d := mg v (mRv v (ev A e 0) (ev A e 4)) 3) (d' := -(mg v (mRv v (ev A e 0) (ev A e 4)) 3)) hn.1 hn.2 hm hE.1 hmm.2.2.2.1 (f0 _ _ hE.1.1 hE.1.2 hmm.2.2.2.1.1 hmm.2.2.2.1.2) (by have := hmm.2.2.2.2.1; omega) (t0 _) (by have := hmm.2.2.2.2.1; omega)
        exact ⟨μ', by rw [z_ck (by have := hmm.2.2.2.2.1; omega) (by have := hmm.2.2.2.2.1; omega), a1, z_b], a2, a3⟩
theorem z_wouldBreak {N : Nat} {n c e K : Int} {S T R V : Int → Int} {v A : Int → Int} {f : Int → Int → Int} {tr : Int → Int} {μ : q_M} (hN : 1000 ≤ N) (hr : rr_C 1 n μ v) (hv : rv n v c) (hrA : rr_C 24 n μ A) (hA : rv n A c) (he : 0 ≤ e) (he' : e < A 36) (hB : ruB n K S T R V) (hRc : ruC K S T R V μ) (hst : stB n f tr) (hf : ∀ p s, 0 ≤ p → p < n → 0 ≤ s → s ≤ 1 → shA v A e p s = f p s) (ht : ∀ s, 0 ≤ s → s ≤ 1 → shB v A e s = tr s) :
    ∃ μ', f_CR_wouldBreak N e μ = some (if nb (brk (fun r => kpb R V r (vl n (nF v) (nT v) (S r) (T r))) K.toNat 0 0) (brk (fun r => kpb R V r (vl n f tr (S r) (T r))) K.toNat 0 0) = 0 then 0 else 1, μ') ∧ ∀ k, k < 56 ∨ 58 < k → q_g μ' k = q_g μ k := by
  obtain ⟨μ1, a1, a2, a3⟩ := z_readPresent (N := N) (oa := 1) hN (by omega) hr hv
  have a3' : stM μ1 n (nF v) (nT v) := a3
  obtain ⟨μ2, b1, b2, b3⟩ := z_shiftStanding (N := N) hN (rr_frame hr (fun k k0 k1 => a2 k (by omega))) hv (rr_frame hrA (fun k k0 k1 => a2 k (by omega))) hA he he' a3'
  have m2 : stM μ2 n f tr := ⟨b3.1, fun p s p0 p1 s0 s1 => by rw [b3.2.1 p s p0 p1 s0 s1]; exact hf p s p0 p1 s0 s1, fun s s0 s1 => by rw [b3.2.2 s s0 s1]; exact ht s s0 s1⟩
  have fr : ∀ k, k < 56 ∨ 58 < k → q_g μ2 k = q_g μ k := fun k hk => by rw [b2 k (by omega) (by omega), a2 k hk]
  have s1 : stB n (nF v) (nT v) := stB_now hv
  unfold f_CR_wouldBreak
  rw [a1, z_b, z_brokenIn hN a3' s1 hB (ruC_fr hRc (fun k k0 k1 => a2 k (by omega))), z_b, b1, z_b, z_brokenIn hN m2 hst hB (ruC_fr hRc (fun k k0 k1 => fr k (by omega))), z_b]
  unfold q_xo q_an
  dsimp only
  simp only [z_jn]
  refine ⟨μ2, ?_, fr⟩
  unfold nb
  by_cases g : (q_I (brk (fun r => kpb R V r (vl n f tr (S r) (T r))) K.toNat 0 0) &&& q_I (q_I (brk (fun r => kpb R V r (vl n (nF v) (nT v) (S r) (T r))) K.toNat 0 0) ^^^ q_I (-1)).toInt).toInt = 0
  · rw [if_pos g, if_pos g]
    rfl
  · rw [if_neg g, if_neg g]
    rfl
