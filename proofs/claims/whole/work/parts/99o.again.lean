/-! apply: an event happens again -/
theorem ok_mk {n c p kind s a oth msg : Int} {v v' : Int → Int} {ck : Int → Int} (hv : rv n v c) (hp : 0 ≤ p ∧ p < n) (hs : 0 ≤ s ∧ s ≤ 1) (hE : apE v v' p kind s a oth msg ck) (hR : apR v v' p kind msg) (hK : apK n v v' p kind s a oth msg) (hst : ∀ j, 0 ≤ j → j < 10 → v' j = q_u v (2 * p + s) (v (2 * p + s) + (if kind = 1 then -a else a)) j) (h5 : kind = 2 → mg v msg 5 = -1) (h23 : kind = 2 → mg v msg 2 = s ∧ mg v msg 3 = a) : (∀ p' s', 0 ≤ p' → p' < n → 0 ≤ s' → s' ≤ 1 → shF (nF v) p s (if kind = 1 then -a else a) p' s' = fM v' 0 p' s') ∧ ∀ s', shT (nT v) s (if kind = 0 then 0 else if kind = 1 then a else -a) s' = tM v' 0 s' := by
  have hn := hv.1
  have v3 := hv.2.2.2.1
  obtain ⟨R36, Rp, Rq, Rl, Re, Rm, Rm5⟩ := hR
  refine ⟨fun p' s' p0 p1 s0 s1 => ?_, fun s' => ?_⟩
  · unfold shF fM nF
    rw [if_pos rfl, hst _ (by omega) (by omega)]
    by_cases e : p' = p ∧ s' = s
    · rw [if_pos e, e.1, e.2, u_s]
    · rw [if_neg e, u_n (by omega)]
  · have lowk : kind ≠ 2 → ∀ m, 0 ≤ m → m < v 37 → trS (prs v') v' s' m = trS (prs v) v s' m := fun hk m m0 m1 => by
      have e5 : mg v' m 5 = mg v m 5 := by rw [Rm5 m m0 m1, if_neg (fun q => hk q.1)]
      unfold trS prs
      rw [Rm m 2 m0 m1 (by decide) (by decide), Rm m 3 m0 m1 (by decide) (by decide), e5]
    have et : tM v' 0 s' = sm (trS (prs v') v' s') 0 (v' 37).toNat := by
      unfold tM
      rw [if_pos rfl]
      rfl
    have e0 : nT v s' = sm (trS (prs v) v s') 0 (v 37).toNat := rfl
    rw [et]
    rcases hK with ⟨rfl, -, -, k37⟩ | ⟨rfl, -, rfl, -, k37, -, -, k2, k3, -, k5⟩ | ⟨rfl, -, hmsg, -, k37⟩
    · rw [if_pos rfl, k37, sm_cong (g := trS (prs v) v s') (fun m m0 m1 => lowk (by decide) m m0 (by omega))]
      unfold shT
      by_cases e : s' = s
      · rw [if_pos e, ← e, ← e0]; omega
      · rw [if_neg e]; rfl
    · rw [if_neg (by decide), if_pos rfl, k37, show (v 37 + 1).toNat = (v 37).toNat + 1 by omega, sm_last, sm_cong (g := trS (prs v) v s') (fun m m0 m1 => lowk (by decide) m m0 (by omega)), ← e0, show (0 : Int) + ((v 37).toNat : Int) = v 37 by omega]
      unfold shT trS prs
      rw [k2, k3, k5]
      by_cases e : s' = s
      · rw [if_pos e, if_pos ⟨by decide, e.symm⟩, e]
      · rw [if_neg e, if_neg (fun q => e q.2.symm)]; omega
    · obtain ⟨h2, h3⟩ := h23 rfl
      have h5 := h5 rfl
      rw [if_neg (by decide), if_neg (by decide), k37, sm_upd (f := trS (prs v) v s') (p := msg) hmsg.1 (by omega) (fun m m0 m1 m2 => by
        have e5 : mg v' m 5 = mg v m 5 := by rw [Rm5 m m0 (by omega), if_neg (fun q => m2 q.2)]
        unfold trS prs
        rw [Rm m 2 m0 (by omega) (by decide) (by decide), Rm m 3 m0 (by omega) (by decide) (by decide), e5]), ← e0]
      have y : trS (prs v') v' s' msg = 0 := by
        have e5 : mg v' msg 5 = v 36 := by rw [Rm5 msg hmsg.1 hmsg.2, if_pos ⟨rfl, rfl⟩]
        unfold trS prs
        rw [e5]
        exact if_neg (fun q => absurd q.1 (by have := hv.2.2.1.1; simp; omega))
      rw [y]
      unfold shT trS prs
      rw [h2, h3, h5]
      by_cases e : s' = s
      · rw [if_pos e, if_pos ⟨by decide, e.symm⟩, e]; omega
      · rw [if_neg e, if_neg (fun q => e q.2.symm)]; omega
def okA (n : Int) (v A : Int → Int) (e : Int) (v' : Int → Int) : Prop := (∃ (p kind s a oth msg : Int) (ck : Int → Int), v 36 < 100 ∧ (0 ≤ p ∧ p < n) ∧ (0 ≤ s ∧ s ≤ 1) ∧ (-100 ≤ a ∧ a ≤ 100) ∧ apE v v' p kind s a oth msg ck ∧ apR v v' p kind msg ∧ apK n v v' p kind s a oth msg ∧ (∀ j, 0 ≤ j → j < 10 → v' j = q_u v (2 * p + s) (v (2 * p + s) + (if kind = 1 then -a else a)) j) ∧ (kind = 2 → mg v msg 5 = -1)) ∧ v' 36 = v 36 + 1 ∧ v' 37 = v 37 + (if ev A e 1 = 1 then 1 else 0) ∧ v' 35 = v 35 ∧ (∀ p' s', 0 ≤ p' → p' < n → 0 ≤ s' → s' ≤ 1 → shA v A e p' s' = fM v' 0 p' s') ∧ ∀ s', shB v A e s' = tM v' 0 s'
theorem ok_ch {n c e : Int} {v A : Int → Int} (hv : rv n v c) (hA : rv n A c) (he : 0 ≤ e) (he' : e < A 36) (k0 : ev A e 1 = 0) (h36 : v 36 < 100) : okA n v A e (wCh v (ev A e 0) (ev A e 2) (ev A e 3)) := by
  have hE := hA.2.2.2.2.2.2.2.2.2.2.2.1 e he he'
  have hn := hv.1
  have v2 := hv.2.2.1
  have v3 := hv.2.2.2.1
  obtain ⟨aE, aR, a37⟩ := ap_ch (a := ev A e 3) hv hE.1.1 hE.1.2 hE.2.2.1 h36
  have aK : apK n v (wCh v (ev A e 0) (ev A e 2) (ev A e 3)) (ev A e 0) 0 (ev A e 2) (ev A e 3) (-100006) (-1) := Or.inl ⟨rfl, rfl, rfl, a37⟩
  have st : ∀ j, 0 ≤ j → j < 10 → wCh v (ev A e 0) (ev A e 2) (ev A e 3) j = q_u v (2 * (ev A e 0) + (ev A e 2)) (v (2 * (ev A e 0) + (ev A e 2)) + (if (0 : Int) = 1 then -(ev A e 3) else ev A e 3)) j := fun j j0 j1 => by
    rw [wCh_st v2.1 hE.1.1 (by have := hE.1; omega) hE.2.2.1 j0 j1, if_neg (by decide)]
  obtain ⟨o1, o2⟩ := ok_mk hv hE.1 hE.2.2.1 aE aR aK st (fun q => absurd q (by decide)) (fun q => absurd q (by decide))
  rw [if_neg (by decide)] at o1
  rw [if_pos rfl] at o2
  refine ⟨⟨_, _, _, _, _, _, _, h36, hE.1, hE.2.2.1, hE.2.2.2.1, aE, aR, aK, st, fun q => absurd q (by decide)⟩, aR.1, by rw [a37, if_neg (by omega)]; omega, aR.2.2.2.1 35 (by decide) (by decide) (by decide), fun p' s' p0 p1 s0 s1 => ?_, fun s' => ?_⟩
  · unfold shA
    rw [if_pos k0]
    exact o1 p' s' p0 p1 s0 s1
  · unfold shB
    rw [if_pos k0]
    exact o2 s'
theorem ok_sn {n c e : Int} {v A : Int → Int} (hv : rv n v c) (hA : rv n A c) (he : 0 ≤ e) (he' : e < A 36) (k1 : ev A e 1 = 1) (h36 : v 36 < 100) : okA n v A e (wSn v (ev A e 0) (ev A e 4) (ev A e 2) (ev A e 3)) := by
  have hE := hA.2.2.2.2.2.2.2.2.2.2.2.1 e he he'
  have hn := hv.1
  have v2 := hv.2.2.1
  have v3 := hv.2.2.2.1
  have h7 := hE.2.2.2.2.2.2.1 (by omega)
  obtain ⟨aE, aR, aK⟩ := ap_sn (t := ev A e 4) (s := ev A e 2) (a := ev A e 3) hv hE.1.1 hE.1.2 ⟨h7.1.1, h7.1.2.1⟩ (fun q => h7.1.2.2 q.symm) hE.2.2.1 h7.2.2 h36
  have a37 : wSn v (ev A e 0) (ev A e 4) (ev A e 2) (ev A e 3) 37 = v 37 + 1 := by
    rcases aK with ⟨q, -⟩ | ⟨-, -, -, -, q, -⟩ | ⟨q, -⟩
    · exact absurd q (by decide)
    · exact q
    · exact absurd q (by decide)
  have st : ∀ j, 0 ≤ j → j < 10 → wSn v (ev A e 0) (ev A e 4) (ev A e 2) (ev A e 3) j = q_u v (2 * (ev A e 0) + (ev A e 2)) (v (2 * (ev A e 0) + (ev A e 2)) + (if (1 : Int) = 1 then -(ev A e 3) else ev A e 3)) j := fun j j0 j1 => by
    rw [wSn_st v2.1 v3.1 hE.1.1 (by have := hE.1; omega) hE.2.2.1 j0 j1, if_pos rfl]
    rfl
  obtain ⟨o1, o2⟩ := ok_mk hv hE.1 hE.2.2.1 aE aR aK st (fun q => absurd q (by decide)) (fun q => absurd q (by decide))
  rw [if_pos rfl] at o1
  rw [if_neg (by decide), if_pos rfl] at o2
  refine ⟨⟨_, _, _, _, _, _, _, h36, hE.1, hE.2.2.1, hE.2.2.2.1, aE, aR, aK, st, fun q => absurd q (by decide)⟩, aR.1, by rw [a37, if_pos k1], aR.2.2.2.1 35 (by decide) (by decide) (by decide), fun p' s' p0 p1 s0 s1 => ?_, fun s' => ?_⟩
  · unfold shA
    rw [if_neg (by omega), if_pos k1]
    exact o1 p' s' p0 p1 s0 s1
  · unfold shB
    rw [if_neg (by omega), if_pos k1]
    exact o2 s'
theorem ok_rc {n c e : Int} {v A : Int → Int} (hv : rv n v c) (hA : rv n A c) (he : 0 ≤ e) (he' : e < A 36) (k0 : ev A e 1 ≠ 0) (k1 : ev A e 1 ≠ 1) (h36 : v 36 < 100) (g : mRv v (ev A e 0) (ev A e 4) ≠ v 37) : okA n v A e (wRc v (ev A e 0) (ev A e 4) (mRv v (ev A e 0) (ev A e 4))) := by
  have hE := hA.2.2.2.2.2.2.2.2.2.2.2.1 e he he'
  have hn := hv.1
  have v2 := hv.2.2.1
  have v3 := hv.2.2.2.1
  have h7 := hE.2.2.2.2.2.2.1 (by omega)
  have hin := mRv_in (v := v) (p := ev A e 0) (f := ev A e 4) v3.1
  have hm := hv.2.2.2.2.2.2.2.2.2.2.2.2.1 (mRv v (ev A e 0) (ev A e 4)) hin.1 (by omega)
  have hw := hin.2.2 g
  unfold wait at hw
  simp only [Bool.and_eq_true, decide_eq_true_eq] at hw
  obtain ⟨aE, aR, aK⟩ := ap_rc hv hE.1.1 hE.1.2 ⟨h7.1.1, h7.1.2.1⟩ h7.1.2.2 hin.1 (show mRv v (ev A e 0) (ev A e 4) < v 37 by omega) h36
  have a37 : wRc v (ev A e 0) (ev A e 4) (mRv v (ev A e 0) (ev A e 4)) 37 = v 37 := by
    rcases aK with ⟨q, -⟩ | ⟨q, -⟩ | ⟨-, -, -, -, q⟩
    · exact absurd q (by decide)
    · exact absurd q (by decide)
    · exact q
  have st : ∀ j, 0 ≤ j → j < 10 → wRc v (ev A e 0) (ev A e 4) (mRv v (ev A e 0) (ev A e 4)) j = q_u v (2 * (ev A e 0) + (mg v (mRv v (ev A e 0) (ev A e 4)) 2)) (v (2 * (ev A e 0) + (mg v (mRv v (ev A e 0) (ev A e 4)) 2)) + (if (2 : Int) = 1 then -(mg v (mRv v (ev A e 0) (ev A e 4)) 3) else mg v (mRv v (ev A e 0) (ev A e 4)) 3)) j := fun j j0 j1 => by
    rw [wRc_st v2.1 hin.1 (by have := hE.1; omega) hm.2.2.2.1 j0 j1, if_neg (by decide)]
  have h5 : mg v (mRv v (ev A e 0) (ev A e 4)) 5 = -1 := by
    have := hm.2.2.2.2.2.2
    omega
  obtain ⟨o1, o2⟩ := ok_mk hv hE.1 hm.2.2.2.1 aE aR aK st (fun _ => h5) (fun _ => ⟨rfl, rfl⟩)
  rw [if_neg (by decide)] at o1
  rw [if_neg (by decide), if_neg (by decide)] at o2
  refine ⟨⟨_, _, _, _, _, _, _, h36, hE.1, hm.2.2.2.1, by have := hm.2.2.2.2.1; omega, aE, aR, aK, st, fun _ => h5⟩, aR.1, by rw [a37, if_neg k1]; omega, aR.2.2.2.1 35 (by decide) (by decide) (by decide), fun p' s' p0 p1 s0 s1 => ?_, fun s' => ?_⟩
  · unfold shA
    rw [if_neg k0, if_neg k1, if_neg g]
    exact o1 p' s' p0 p1 s0 s1
  · unfold shB
    rw [if_neg k0, if_neg k1, if_neg g]
    exact o2 s'
theorem z_again {N : Nat} {n c e : Int} {v A : Int → Int} {μC μM : q_M} (hN : 1000 ≤ N) (hw : q_g μM 1 = v) (hA2 : q_g μM 2 = A) (hr : rr_C 1 n μC v) (hv : rv n v c) (hrA : rr_C 24 n μC A) (hA : rv n A c) (he : 0 ≤ e) (he' : e < A 36) (h35 : v 35 ≠ 1) (hcap : ev A e 1 = 1 → v 37 < A 37) :
    ∃ (r : Int) (v' : Int → Int) (μC' μM' : q_M), f_CR_tryAgain N e μC = some (r, μC') ∧ f_M_happensAgain N (64 + 12 * e) μM = some (if r < 0 then 0 else 1, μM') ∧ (∀ k, k < 1 ∨ 23 < k → q_g μC' k = q_g μC k) ∧ (∀ k, k ≠ 1 → q_g μM' k = q_g μM k) ∧ q_g μM' 1 = v' ∧ rr_C 1 n μC' v' ∧ rv n v' c ∧ ((r < 0 ∧ v' = v) ∨ (0 ≤ r ∧ okA n v A e v')) := by
  have hE := hA.2.2.2.2.2.2.2.2.2.2.2.1 e he he'
  have hl := hA.2.2.1
  have v2 := hv.2.2.1
  have v3 := hv.2.2.2.1
  have hn := hv.1
  have a3 := hA.2.2.2.1
  obtain ⟨E0, E1, E2, E3, E4, -⟩ := hrA.2.2.2.2.2.2.2.2.2.2.1 e he he'
  have hv1 : rv n (q_g μM 1) c := by rw [hw]; exact hv
  have eM : ∀ j, q_g μM 2 (64 + 12 * e + j) = ev A e j := fun j => by rw [hA2]; rfl
  have eM0 : q_g μM 2 (64 + 12 * e) = ev A e 0 := by
    have := eM 0
    rwa [show 64 + 12 * e + 0 = 64 + 12 * e by omega] at this
  unfold f_CR_tryAgain f_M_happensAgain
  rw [z_ld he (by omega), z_ld he (by omega), show (29 : Nat) = 24 + 5 from rfl, E0, show (30 : Nat) = 24 + 6 from rfl, E1, z_ld (μ := μM) (by omega) (by omega), z_ck (by omega) (by omega), z_ld (μ := μM) (by omega) (by omega), z_ck (by omega) (by omega), z_ld (μ := μM) (by omega) (by omega), eM0, eM, eM]
  simp only [z_jn]
  by_cases k0 : ev A e 1 = 0
  · rw [if_pos k0, if_neg (by omega), if_pos k0, z_ld he (by omega), z_ld he (by omega), show (31 : Nat) = 24 + 7 from rfl, E2, show (32 : Nat) = 24 + 8 from rfl, E3, z_ck (by omega) (by omega), z_ld (by omega) (by omega), z_ck (by omega) (by omega), z_ld (by omega) (by omega), eM, eM]
    obtain ⟨μ1, b1, b2, b3⟩ := z_tryChange (N := N) hN hr hv hE.1.1 hE.1.2 hE.2.2.1 hE.2.2.2.1
    obtain ⟨μ2, d1, d2, d3⟩ := z_changeNow (N := N) hN hv1 hE.1.1 hE.1.2 hE.2.2.1 hE.2.2.2.1
    have rvi := rv_chi hv hE.1.1 hE.1.2 hE.2.2.1 hE.2.2.2.1
    rw [hw] at d1 d3
    rw [b1, d1, z_b2, z_b2]
    refine ⟨_, _, μ1, μ2, rfl, ?_, fun k hk => b2 k (by omega), d2, d3, b3, rvi, ?_⟩
    · by_cases g : rCh v (ev A e 0) (ev A e 2) (ev A e 3) < 0
      · rw [if_pos g, if_pos g, z_rz0]
      · rw [if_neg g, if_neg g, z_rz1]
    · by_cases g : 0 ≤ rCh v (ev A e 0) (ev A e 2) (ev A e 3)
      · rw [if_pos g]
        refine Or.inr ⟨g, ok_ch hv hA he he' k0 ?_⟩
        unfold rCh at g
        by_cases g1 : ¬ (0 ≤ v (2 * ev A e 0 + ev A e 2) + ev A e 3 ∧ v (2 * ev A e 0 + ev A e 2) + ev A e 3 ≤ 1000)
        · rw [if_pos g1] at g; omega
        · rw [if_neg g1] at g
          by_cases g2 : v 36 = 100
          · rw [if_pos g2] at g; omega
          · omega
      · rw [if_neg g]
        exact Or.inl ⟨by omega, rfl⟩
  · have h7 := hE.2.2.2.2.2.2.1 k0
    by_cases k1 : ev A e 1 = 1
    · rw [if_neg k0, if_pos k1, if_neg (by omega), if_neg k0, if_pos k1, z_ld he (by omega), z_ld he (by omega), z_ld he (by omega), show (33 : Nat) = 24 + 9 from rfl, E4, show (31 : Nat) = 24 + 7 from rfl, E2, show (32 : Nat) = 24 + 8 from rfl, E3, z_ck (by omega) (by omega), z_ld (by omega) (by omega), z_ck (by omega) (by omega), z_ld (by omega) (by omega), eM, eM]
      have ha : 1 ≤ ev A e 3 ∧ ev A e 3 ≤ 100 := ⟨h7.2.2, hE.2.2.2.1.2⟩
      have hcap := hcap k1
      obtain ⟨μ1, b1, b2, b3⟩ := z_trySend (N := N) hN hr hv (by omega) hE.1.1 hE.1.2 ⟨h7.1.1, h7.1.2.1⟩ (fun q => h7.1.2.2 q.symm) hE.2.2.1 ha
      obtain ⟨μ2, d1, d2, d3⟩ := z_sendNow (N := N) (t := ev A e 4) hN hv1 hE.1.1 hE.1.2 hE.2.2.1 ha
      have rvi := rv_sni (c' := c) hv (by omega) (by omega) hE.1.1 hE.1.2 ⟨h7.1.1, h7.1.2.1⟩ (fun q => h7.1.2.2 q.symm) hE.2.2.1 ha
      rw [hw] at d1 d3
      rw [b1, d1, z_b2, z_b2]
      refine ⟨_, _, μ1, μ2, rfl, ?_, fun k hk => b2 k (by omega), d2, d3, b3, rvi, ?_⟩
      · by_cases g : rSn v (ev A e 0) (ev A e 4) (ev A e 2) (ev A e 3) < 0
        · rw [if_pos g, if_pos g, z_rz0]
        · rw [if_neg g, if_neg g, z_rz1]
      · by_cases g : 0 ≤ rSn v (ev A e 0) (ev A e 4) (ev A e 2) (ev A e 3)
        · rw [if_pos g]
          refine Or.inr ⟨g, ok_sn hv hA he he' k1 ?_⟩
          unfold rSn at g
          by_cases g1 : v (2 * ev A e 0 + ev A e 2) < ev A e 3
          · rw [if_pos g1] at g; omega
          · rw [if_neg g1] at g
            by_cases g2 : v 36 = 100 ∨ 6 ≤ cnt (wait v (ev A e 0) (ev A e 4)) 0 (v 37).toNat
            · rw [if_pos g2] at g; omega
            · omega
        · rw [if_neg g]
          exact Or.inl ⟨by omega, rfl⟩
    · have k2 : ev A e 1 = 2 := by have := hE.2.1; omega
      have hp : 0 ≤ ev A e 0 ∧ ev A e 0 < n := hE.1
      have hf : 0 ≤ ev A e 4 ∧ ev A e 4 < n := ⟨h7.1.1, h7.1.2.1⟩
      have hin := mRv_in (v := v) (p := ev A e 0) (f := ev A e 4) v3.1
      have st9 := hv.2.2.2.2.2.2.2.2.2.1 h35 (ev A e 4 * 5 + ev A e 0) (by omega) (by omega)
      rw [show 38 + (ev A e 4 * 5 + ev A e 0) = 38 + 5 * ev A e 4 + ev A e 0 by omega] at st9
      obtain ⟨μ1, b1, b2, b3⟩ := z_tryReceive (N := N) (o := 1) hN hr hv hp hf h7.1.2.2
      have rvi := rv_rvi hv hp hf h7.1.2.2
      rw [if_neg k0, if_neg k1, if_pos k2, z_ld he (by omega), show (33 : Nat) = 24 + 9 from rfl, E4, b1, z_b2, z_waitingFrom hN hv1 (by omega) (by rw [hw]; exact v3.1), z_b, Int.sub_zero, if_neg k0, if_neg k1, z_ld (by omega) (by omega), hw]
      have hm : fi (wait v (ev A e 4) (ev A e 0)) 0 (v 37).toNat = mRv v (ev A e 0) (ev A e 4) := rfl
      rw [hm]
      unfold rRv
      unfold wRv at b3 rvi
      rw [if_neg (by omega)] at b3 rvi ⊢
      by_cases g : mRv v (ev A e 0) (ev A e 4) = v 37
      · rw [if_pos g] at b3 rvi ⊢
        rw [if_pos g, if_pos (by decide), z_rz0]
        exact ⟨_, v, μ1, μM, rfl, by rw [if_pos (by decide)], fun k hk => b2 k (by omega), fun _ _ => rfl, hw, b3, hv, Or.inl ⟨by decide, rfl⟩⟩
      · rw [if_neg g] at b3 rvi ⊢
        obtain ⟨μ2, d1, d2, d3⟩ := z_receiveNow (N := N) (f := ev A e 4) hN hv1 hp.1 hp.2 hin.1 (show mRv v (ev A e 0) (ev A e 4) < q_g μM 1 37 by rw [hw]; omega)
        rw [hw] at d1 d3
        rw [if_neg g, d1, z_b2]
        refine ⟨_, _, μ1, μ2, rfl, ?_, fun k hk => b2 k (by omega), d2, d3, b3, rvi, ?_⟩
        · by_cases g1 : rRc v (ev A e 0) (mRv v (ev A e 0) (ev A e 4)) < 0
          · rw [if_pos g1, if_pos g1, z_rz0]
          · rw [if_neg g1, if_neg g1, z_rz1]
        · by_cases g1 : 0 ≤ rRc v (ev A e 0) (mRv v (ev A e 0) (ev A e 4))
          · rw [if_pos g1]
            refine Or.inr ⟨g1, ok_rc hv hA he he' k0 k1 ?_ g⟩
            unfold rRc at g1
            by_cases q1 : 1000 < v (2 * ev A e 0 + mg v (mRv v (ev A e 0) (ev A e 4)) 2) + mg v (mRv v (ev A e 0) (ev A e 4)) 3
            · rw [if_pos q1] at g1; omega
            · rw [if_neg q1] at g1
              by_cases q2 : v 36 = 100
              · rw [if_pos q2] at g1; omega
              · omega
          · rw [if_neg g1]
            exact Or.inl ⟨by omega, rfl⟩
