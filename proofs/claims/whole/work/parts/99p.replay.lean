/-! apply: the replay, both sides in step -/
theorem brk_cg {k k' : Int → Bool} : ∀ {d : Nat} {i x : Int}, (∀ j, i ≤ j → j < i + d → k j = k' j) → brk k d i x = brk k' d i x
  | 0, _, _, _ => rfl
  | d + 1, i, x, h => by
    unfold brk
    rw [h i (by omega) (by omega)]
    exact brk_cg (fun j j0 j1 => h j (by omega) (by omega))
theorem vl_cg {n subj s : Int} {f f' : Int → Int → Int} {t t' : Int → Int} (hn : 0 ≤ n) (hs : 0 ≤ s ∧ s ≤ 1) (hj : (0 ≤ subj ∧ subj < n) ∨ subj = 8 ∨ subj = 9) (hf : ∀ p' s', 0 ≤ p' → p' < n → 0 ≤ s' → s' ≤ 1 → f p' s' = f' p' s') (ht : ∀ s', t s' = t' s') : vl n f t subj s = vl n f' t' subj s := by
  unfold vl
  rw [ht s, sm_cong (g := fun p => f' p s) (fun p p0 p1 => hf p s p0 (by omega) hs.1 hs.2)]
  by_cases a : subj = 9
  · rw [if_pos a, if_pos a]
  · by_cases b : subj = 8
    · rw [if_neg a, if_pos b, if_neg a, if_pos b]
    · rw [if_neg a, if_neg b, if_neg a, if_neg b]
      exact hf subj s (by omega) (by omega) hs.1 hs.2
theorem z_replay {N : Nat} {n c a0 : Int} {A : Int → Int} (hN : 1000 ≤ N) (hA : rv n A c) : ∀ (dd nfC nfM : Nat) (e : Int) (μC μM : q_M), e + dd = A 36 → 0 ≤ e → dd < nfC → dd < nfM → q_g μM 2 = A → q_g μM 0 0 = n → vU n μC μM → rr_C 1 n μC (q_g μM 1) → rv n (q_g μM 1) c → rr_C 24 n μC A → q_g μM 1 35 ≠ 1 → q_g μM 1 37 + sm (fun i => bi (uns A i)) e dd ≤ A 37 →
    ∃ μC' μM', f_CR_replay_L4 N a0 (fun x4 μ5 => some (x4, μ5)) nfC (q_g μM 1 36) e μC = some (q_g μM' 1 36, μC') ∧ f_M_apply_L279 N a0 (fun μ78 => q_ld μ78 1 5104 36 fun x107 => some (x107, μ78)) nfM e μM = some (q_g μM' 1 36, μM') ∧ (∀ k, k < 1 ∨ (23 < k ∧ k < 56) ∨ 58 < k → q_g μC' k = q_g μC k) ∧ (∀ k, k ≠ 1 → q_g μM' k = q_g μM k) ∧ rr_C 1 n μC' (q_g μM' 1) ∧ rv n (q_g μM' 1) c := by
  have hl := hA.2.2.1
  intro dd
  induction dd with
  | zero =>
    intro nfC nfM e μC μM h1 h2 h3 h4 hA2 hn hU hr hv hrA h35 hcap
    obtain ⟨nfC, rfl⟩ : ∃ m, nfC = m + 1 := ⟨nfC - 1, by omega⟩
    obtain ⟨nfM, rfl⟩ : ∃ m, nfM = m + 1 := ⟨nfM - 1, by omega⟩
    have h28 : q_g μC 28 0 = A 36 := hrA.2.2.2.2.2.2.2.1
    refine ⟨μC, μM, ?_, ?_, fun _ _ => rfl, fun _ _ => rfl, hr, hv⟩
    · rw [f_CR_replay_L4, z_fl, Int.cast_ofNat_Int, h28, if_pos (by omega)]
    · rw [f_M_apply_L279, z_ld (by omega) (by omega), hA2, if_pos (by omega), z_ld (by omega) (by omega)]
  | succ dd ih =>
    intro nfC nfM e μC μM h1 h2 h3 h4 hA2 hn hU hr hv hrA h35 hcap
    obtain ⟨nfC, rfl⟩ : ∃ m, nfC = m + 1 := ⟨nfC - 1, by omega⟩
    obtain ⟨nfM, rfl⟩ : ∃ m, nfM = m + 1 := ⟨nfM - 1, by omega⟩
    have h28 : q_g μC 28 0 = A 36 := hrA.2.2.2.2.2.2.2.1
    have hE := hA.2.2.2.2.2.2.2.2.2.2.2.1 e h2 (by omega)
    have hn5 := hv.1
    have hE0 := hE.1
    have hB := (ru_of hU).1
    have hRc := (ru_of hU).2
    have hcap' : q_g μM 1 37 + (bi (uns A e) + sm (fun i => bi (uns A i)) (e + 1) dd) ≤ A 37 := hcap
    have hsm := (sm_bd (f := fun i => bi (uns A i)) (a := 0) (b := 1) (d := dd) (i := e + 1) (fun j _ _ => bi_bd _)).1
    have hbi := bi_bd (uns A e)
    have fin : ∀ (μC2 μM2 : q_M) (x2 : Int), x2 = q_g μM2 1 36 → (∀ k, k < 1 ∨ (23 < k ∧ k < 56) ∨ 58 < k → q_g μC2 k = q_g μC k) → (∀ k, k ≠ 1 → q_g μM2 k = q_g μM k) → rr_C 1 n μC2 (q_g μM2 1) → rv n (q_g μM2 1) c → q_g μM2 1 35 ≠ 1 → q_g μM2 1 37 + sm (fun i => bi (uns A i)) (e + 1) dd ≤ A 37 →
        ∃ μC' μM', (q_ck (e + 1) fun x11 => f_CR_replay_L4 N a0 (fun x4 μ5 => some (x4, μ5)) nfC x2 x11 μC2) = some (q_g μM' 1 36, μC') ∧ (q_ck (e + 1) fun x91 => f_M_apply_L279 N a0 (fun μ78 => q_ld μ78 1 5104 36 fun x107 => some (x107, μ78)) nfM x91 μM2) = some (q_g μM' 1 36, μM') ∧ (∀ k, k < 1 ∨ (23 < k ∧ k < 56) ∨ 58 < k → q_g μC' k = q_g μC k) ∧ (∀ k, k ≠ 1 → q_g μM' k = q_g μM k) ∧ rr_C 1 n μC' (q_g μM' 1) ∧ rv n (q_g μM' 1) c := by
      intro μC2 μM2 x2 hx fC fM hr2 hv2 h352 hcap2
      rw [z_ck (by omega) (by omega), z_ck (by omega) (by omega), hx]
      obtain ⟨μC', μM', b1, b2, b3, b4, b5, b6⟩ := ih nfC nfM (e + 1) μC2 μM2 (by omega) (by omega) (by omega) (by omega) (by rw [fM 2 (by omega)]; exact hA2) (by rw [fM 0 (by omega)]; exact hn) (vU_out hU (fun k k0 k1 => fC k (by omega)) (by rw [fM 0 (by omega)]) (fun k k0 k1 => fM k (by omega))) hr2 hv2 (rr_frame hrA (fun k k0 k1 => fC k (by omega))) h352 hcap2
      exact ⟨μC', μM', b1, b2, fun k hk => by rw [b3 k hk, fC k hk], fun k hk => by rw [b4 k hk, fM k hk], b5, b6⟩
    have eM : ∀ j, q_g μM 2 (64 + 12 * e + j) = ev A e j := fun j => by rw [hA2]; rfl
    have eM0 : q_g μM 2 (64 + 12 * e) = ev A e 0 := by
      have := eM 0
      rwa [show 64 + 12 * e + 0 = 64 + 12 * e by omega] at this
    have ecut : (decide (0 ≤ e) && decide (e < A 36) && cutE A e) = cutE A e := by
      rw [decide_eq_true h2, decide_eq_true (show e < A 36 by omega)]
      rfl
    rw [f_CR_replay_L4, f_M_apply_L279, z_fl, Int.cast_ofNat_Int, h28, if_neg (by omega), z_inCut hrA hA, z_b, ecut, z_ld (by omega) (by omega), hA2, if_neg (by omega), z_ck (by omega) (by omega), z_ck (by omega) (by omega), z_brokenNow hN hv hn hB, z_b, z_ck (by omega) (by omega), z_ld (by omega) (by omega), z_ld (by omega) (by omega), eM0, eM, z_ck (by omega) (by omega), z_ld (by omega) (by omega), hA2]
    simp only [z_jn, z_bib]
    cases g : cutE A e with
    | true =>
      have g' := g
      unfold cutE at g'
      rw [decide_eq_true_eq] at g'
      rw [if_neg (by decide), if_neg (show ¬ A (20 + ev A e 0) ≤ ev A e 6 by omega), if_neg (show ¬ (1 : Int) = 0 by decide)]
      exact fin μC μM _ rfl (fun _ _ => rfl) (fun _ _ => rfl) hr hv h35 (by omega)
    | false =>
      have g' := g
      unfold cutE at g'
      rw [decide_eq_false_iff_not] at g'
      rw [if_pos rfl, if_pos (show A (20 + ev A e 0) ≤ ev A e 6 by omega), if_pos trivial]
      have hsend : ev A e 1 = 1 → bi (uns A e) = 1 := fun q => by
        unfold uns
        rw [q, g]
        rfl
      have hns : ev A e 1 ≠ 1 → bi (uns A e) = 0 := fun q => by
        unfold uns
        rw [decide_eq_false q]
        rfl
      have hc1 : ev A e 1 = 1 → q_g μM 1 37 < A 37 := fun q => by
        have := hsend q
        omega
      have okc : ∀ v', okA n (q_g μM 1) A e v' → v' 37 + sm (fun i => bi (uns A i)) (e + 1) dd ≤ A 37 ∧ v' 35 ≠ 1 ∧ v' 36 = q_g μM 1 36 + 1 := fun v' ho => by
        obtain ⟨-, o36, o37, o35, -⟩ := ho
        refine ⟨?_, by rw [o35]; exact h35, o36⟩
        rw [o37]
        by_cases q : ev A e 1 = 1
        · rw [if_pos q]
          have := hsend q
          omega
        · rw [if_neg q]
          omega
      by_cases ga : a0 = 0
      · rw [if_pos ga]
        obtain ⟨r, v', μ1, μ2, a1, a2, f1, f2, w2, r2, rv2, hx⟩ := z_again hN rfl hA2 hr hv hrA hA h2 (by omega) h35 hc1
        rw [a1, a2, z_b2, z_b2]
        rcases hx with ⟨hr0, rfl⟩ | ⟨hr0, ho⟩
        · rw [if_pos hr0, if_pos hr0, if_pos rfl]
          exact fin μ1 μ2 _ (by rw [w2]) (fun k hk => f1 k (by omega)) f2 (by rw [w2]; exact r2) (by rw [w2]; exact rv2) (by rw [w2]; exact h35) (by rw [w2]; omega)
        · obtain ⟨o1, o2, o3⟩ := okc v' ho
          have hv2 := hv.2.2.1
          rw [if_neg (by omega), if_neg (by omega), if_pos ga, z_ck (by omega) (by omega)]
          exact fin μ1 μ2 _ (by rw [w2, o3]) (fun k hk => f1 k (by omega)) f2 (by rw [w2]; exact r2) (by rw [w2]; exact rv2) (by rw [w2]; exact o2) (by rw [w2]; exact o1)
      · rw [if_neg ga]
        have hst := stB_sh (n := n) (c := c) (e := e) hv hA h2 (by omega) (fun q => by
          have := hc1 q
          have := hA.2.2.2.1
          omega)
        obtain ⟨μ0, w1, wf⟩ := z_wouldBreak (N := N) hN hr hv hrA hA h2 (by omega) hB hRc hst (fun _ _ _ _ _ _ => rfl) (fun _ _ _ => rfl)
        obtain ⟨r, v', μ1, μ2, a1, a2, f1, f2, w2, r2, rv2, hx⟩ := z_again (μC := μ0) hN rfl hA2 (rr_frame hr (fun k k0 k1 => wf k (by omega))) hv (rr_frame hrA (fun k k0 k1 => wf k (by omega))) hA h2 (by omega) h35 hc1
        have e1 : fM (q_g μM 1) 0 = nF (q_g μM 1) := by funext p s; exact if_pos rfl
        have e2 : tM (q_g μM 1) 0 = nT (q_g μM 1) := by unfold tM; rw [if_pos rfl]; rfl
        rw [w1, a2, z_b2, z_b2, e1, e2]
        by_cases gw : nb (brk (fun r => kpb (q_g μM 6) (q_g μM 7) r (vl n (nF (q_g μM 1)) (nT (q_g μM 1)) (q_g μM 4 r) (q_g μM 5 r))) (q_g μM 0 6).toNat 0 0) (brk (fun r => kpb (q_g μM 6) (q_g μM 7) r (vl n (shA (q_g μM 1) A e) (shB (q_g μM 1) A e) (q_g μM 4 r) (q_g μM 5 r))) (q_g μM 0 6).toNat 0 0) = 0
        · rw [if_pos gw, if_pos rfl, a1, z_b2]
          rcases hx with ⟨hr0, rfl⟩ | ⟨hr0, ho⟩
          · rw [if_pos hr0, if_pos hr0, if_pos rfl]
            exact fin μ1 μ2 _ (by rw [w2]) (fun k hk => by rw [f1 k (by omega), wf k (by omega)]) f2 (by rw [w2]; exact r2) (by rw [w2]; exact rv2) (by rw [w2]; exact h35) (by rw [w2]; omega)
          · obtain ⟨o1, o2, o3⟩ := okc v' ho
            have hv2 := hv.2.2.1
            have hb2 := z_brokenNow (N := N) (μ := μ2) (b := 0) hN (by rw [w2]; exact rv2) (by rw [f2 0 (by omega)]; exact hn) (by rw [f2 0 (by omega), f2 4 (by omega), f2 5 (by omega), f2 6 (by omega), f2 7 (by omega)]; exact hB)
            rw [f2 0 (by omega), f2 4 (by omega), f2 5 (by omega), f2 6 (by omega), f2 7 (by omega), w2, brk_cg (k' := fun r => kpb (q_g μM 6) (q_g μM 7) r (vl n (shA (q_g μM 1) A e) (shB (q_g μM 1) A e) (q_g μM 4 r) (q_g μM 5 r))) (fun j j0 j1 => by
              have hj := hB.2 j j0 (by have := hB.1; omega)
              rw [vl_cg (by omega) hj.2.1 hj.1 (fun p' s' p0 p1 s0 s1 => (ho.2.2.2.2.1 p' s' p0 p1 s0 s1).symm) (fun s' => (ho.2.2.2.2.2 s').symm)])] at hb2
            rw [if_neg (by omega), if_neg (by omega), if_neg ga, z_ck (by omega) (by omega), hb2, z_b]
            unfold q_xo q_an
            dsimp only
            have gw' := gw
            unfold nb at gw'
            rw [if_pos gw']
            exact fin μ1 μ2 _ (by rw [w2, o3]) (fun k hk => by rw [f1 k (by omega), wf k (by omega)]) f2 (by rw [w2]; exact r2) (by rw [w2]; exact rv2) (by rw [w2]; exact o2) (by rw [w2]; exact o1)
        · rw [if_neg gw, if_neg (by decide)]
          have hr0' : rr_C 1 n μ0 (q_g μM 1) := rr_frame hr (fun k k0 k1 => wf k (by omega))
          rcases hx with ⟨hr0, rfl⟩ | ⟨hr0, ho⟩
          · rw [if_pos hr0, if_pos rfl]
            exact fin μ0 μ2 _ (by rw [w2]) (fun k hk => wf k (by omega)) f2 (by rw [w2]; exact hr0') (by rw [w2]; exact rv2) (by rw [w2]; exact h35) (by rw [w2]; omega)
          · have hb2 := z_brokenNow (N := N) (μ := μ2) (b := 0) hN (by rw [w2]; exact rv2) (by rw [f2 0 (by omega)]; exact hn) (by rw [f2 0 (by omega), f2 4 (by omega), f2 5 (by omega), f2 6 (by omega), f2 7 (by omega)]; exact hB)
            rw [f2 0 (by omega), f2 4 (by omega), f2 5 (by omega), f2 6 (by omega), f2 7 (by omega), w2, brk_cg (k' := fun r => kpb (q_g μM 6) (q_g μM 7) r (vl n (shA (q_g μM 1) A e) (shB (q_g μM 1) A e) (q_g μM 4 r) (q_g μM 5 r))) (fun j j0 j1 => by
              have hj := hB.2 j j0 (by have := hB.1; omega)
              rw [vl_cg (by omega) hj.2.1 hj.1 (fun p' s' p0 p1 s0 s1 => (ho.2.2.2.2.1 p' s' p0 p1 s0 s1).symm) (fun s' => (ho.2.2.2.2.2 s').symm)])] at hb2
            obtain ⟨⟨p, kind, s, a, oth, msg, ck, o36, op, os, oa, oE, oR, oK, ost, o5⟩, -⟩ := ho
            obtain ⟨μ3, t1, t2, t3⟩ := z_takeBack w2 hv o36 ⟨op.1, by omega⟩ os oa oE oR oK ost o5
            rw [if_neg (by omega), if_neg ga, hb2, z_b]
            unfold q_xo q_an
            dsimp only
            have gw' := gw
            unfold nb at gw'
            rw [if_neg gw', t1, z_b]
            have q36 := t3.1 36 (by decide) (by decide)
            have q37 := t3.1 37 (by decide) (by decide)
            have q35 := t3.1 35 (by decide) (by decide)
            exact fin μ0 μ3 _ q36.symm (fun k hk => wf k (by omega)) (fun k hk => by rw [t2 k hk, f2 k hk]) (rr_rq t3 hr0') (rv_rq t3 hv) (by rw [q35]; exact h35) (by rw [q37]; omega)
