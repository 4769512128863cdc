/-! what stands in a channel -/
def chP (p : Int → Bool) (mark i : Int) : Int := if 0 ≤ mark then cnt p i (mark - i).toNat else -1
def chR {α : Type} (p : Int → Bool) (mark j i : Int) (d : Nat) (A : α) (B : Int → α) (C : α) : α :=
  if chP p mark i = j then A else if nth p (if chP p mark i ≠ -1 ∧ chP p mark i < j then j - 1 else j) i d = -1 then C else B (nth p (if chP p mark i ≠ -1 ∧ chP p mark i < j then j - 1 else j) i d)
theorem z_inCh {α : Type} {N : Nat} {n c f t k : Int} {μ : q_M} (hN : 1000 ≤ N) (hv : rv n (q_g μ 1) c) {A : Option Int} {B : Int → Option Int} {C : Option Int} : ∀ (d nf : Nat) (mark x i : Int), 0 ≤ i → i + d = q_g μ 1 37 → d + 1 < nf → 0 ≤ x → x ≤ 2 * i + 2 → 0 ≤ k - x → -1 ≤ mark → mark ≤ q_g μ 1 37 → f_M_inChannel_L59 N f t k μ A B C nf mark x (fi (wait (q_g μ 1) f t) i d) 1 = chR (wait (q_g μ 1) f t) mark (k - x) i d A B C := by
  have v3 := hv.2.2.2.1
  intro d
  induction d with
  | zero =>
    intro nf mark x i h0 h1 h2 h3 h4 h5 h6 h7
    obtain ⟨nf, rfl⟩ : ∃ m, nf = m + 2 := ⟨nf - 2, by omega⟩
    have hL : i = q_g μ 1 37 := by omega
    rw [fi, f_M_inChannel_L59, if_neg (by decide)]
    simp (disch := omega) only [z_ld, z_jn, z_ck]
    unfold chR chP
    rw [show (mark - i).toNat = 0 by omega]
    simp only [cnt, sm, nth, if_true]
    by_cases g : mark < 0
    · rw [if_pos g, if_pos (show q_g μ 1 37 ≤ i by omega), if_neg (show ¬ 0 ≤ mark by omega), if_neg (show ¬ -1 = k - x by omega)]
      rw [f_M_inChannel_L59, if_pos rfl]
    · rw [if_neg g, if_neg (show ¬ i < mark by omega), if_pos (show 0 ≤ mark by omega)]
      by_cases e : x = k
      · rw [if_pos e, if_pos (show 0 = k - x by omega)]
      · rw [if_neg e, if_neg (show ¬ 0 = k - x by omega), if_pos (show q_g μ 1 37 ≤ i by omega)]
        rw [f_M_inChannel_L59, if_pos rfl]
  | succ d ih =>
    intro nf mark x i h0 h1 h2 h3 h4 h5 h6 h7
    by_cases hp : wait (q_g μ 1) f t i = true
    · obtain ⟨nf, rfl⟩ : ∃ m, nf = m + 1 := ⟨nf - 1, by omega⟩
      rw [fi, if_pos hp, f_M_inChannel_L59, if_neg (by decide)]
      simp (disch := omega) only [z_ld, z_jn, z_ck, z_waitingFrom hN hv, z_b]
      rw [if_neg (show ¬ q_g μ 1 37 ≤ i by omega), if_neg (show ¬ q_g μ 1 37 ≤ i by omega)]
      simp only [show ¬ (1 : Int) = 0 by decide, if_false, show (q_g μ 1 37 - (i + 1)).toNat = d by omega]
      unfold chR
      by_cases g : mark < 0
      · rw [if_pos g]
        have p0 : chP (wait (q_g μ 1) f t) mark i = -1 := if_neg (by omega)
        rw [p0, if_neg (show ¬ -1 = k - x by omega), if_neg (show ¬ ((-1 : Int) ≠ -1 ∧ -1 < k - x) from fun h => h.1 rfl), nth, if_pos hp]
        by_cases e : x = k
        · rw [if_pos e, if_pos (show k - x = 0 by omega), if_neg (show ¬ i = -1 by omega)]
        · rw [if_neg e, if_neg (show ¬ k - x = 0 by omega), ih nf mark (x + 1) (i + 1) (by omega) (by omega) (by omega) (by omega) (by omega) (by omega) h6 h7]
          unfold chR
          have p1 : chP (wait (q_g μ 1) f t) mark (i + 1) = -1 := if_neg (by omega)
          rw [p1, if_neg (show ¬ -1 = k - (x + 1) by omega), if_neg (show ¬ ((-1 : Int) ≠ -1 ∧ -1 < k - (x + 1)) from fun h => h.1 rfl), show k - (x + 1) = k - x - 1 by omega]
      · rw [if_neg g]
        by_cases l : i < mark
        · rw [if_pos l]
          have p0 : chP (wait (q_g μ 1) f t) mark i = 1 + cnt (wait (q_g μ 1) f t) (i + 1) (mark - (i + 1)).toNat := by
            unfold chP
            rw [if_pos (by omega), show (mark - i).toNat = (mark - (i + 1)).toNat + 1 by omega, cnt_s, hp]
            rfl
          have p1 : chP (wait (q_g μ 1) f t) mark (i + 1) = cnt (wait (q_g μ 1) f t) (i + 1) (mark - (i + 1)).toNat := if_pos (by omega)
          have pb := cnt_bd (p := wait (q_g μ 1) f t) (i := i + 1) (d := (mark - (i + 1)).toNat)
          rw [p0]
          by_cases e : x = k
          · rw [if_pos e, if_neg (show ¬ 1 + cnt (wait (q_g μ 1) f t) (i + 1) (mark - (i + 1)).toNat = k - x by omega), if_neg (show ¬ (1 + cnt (wait (q_g μ 1) f t) (i + 1) (mark - (i + 1)).toNat ≠ -1 ∧ 1 + cnt (wait (q_g μ 1) f t) (i + 1) (mark - (i + 1)).toNat < k - x) by omega), nth, if_pos hp, if_pos (show k - x = 0 by omega), if_neg (show ¬ i = -1 by omega)]
          · rw [if_neg e, ih nf mark (x + 1) (i + 1) (by omega) (by omega) (by omega) (by omega) (by omega) (by omega) h6 h7]
            unfold chR
            rw [p1]
            by_cases a : cnt (wait (q_g μ 1) f t) (i + 1) (mark - (i + 1)).toNat = k - (x + 1)
            · rw [if_pos a, if_pos (by omega)]
            · rw [if_neg a, if_neg (show ¬ 1 + cnt (wait (q_g μ 1) f t) (i + 1) (mark - (i + 1)).toNat = k - x by omega)]
              by_cases b : cnt (wait (q_g μ 1) f t) (i + 1) (mark - (i + 1)).toNat < k - (x + 1)
              · rw [if_pos (show cnt (wait (q_g μ 1) f t) (i + 1) (mark - (i + 1)).toNat ≠ -1 ∧ cnt (wait (q_g μ 1) f t) (i + 1) (mark - (i + 1)).toNat < k - (x + 1) by omega), if_pos (show 1 + cnt (wait (q_g μ 1) f t) (i + 1) (mark - (i + 1)).toNat ≠ -1 ∧ 1 + cnt (wait (q_g μ 1) f t) (i + 1) (mark - (i + 1)).toNat < k - x by omega), nth, if_pos hp, if_neg (show ¬ k - x - 1 = 0 by omega), show k - (x + 1) - 1 = k - x - 1 - 1 by omega]
              · rw [if_neg (show ¬ (cnt (wait (q_g μ 1) f t) (i + 1) (mark - (i + 1)).toNat ≠ -1 ∧ cnt (wait (q_g μ 1) f t) (i + 1) (mark - (i + 1)).toNat < k - (x + 1)) by omega), if_neg (show ¬ (1 + cnt (wait (q_g μ 1) f t) (i + 1) (mark - (i + 1)).toNat ≠ -1 ∧ 1 + cnt (wait (q_g μ 1) f t) (i + 1) (mark - (i + 1)).toNat < k - x) by omega), nth, if_pos hp, if_neg (show ¬ k - x = 0 by omega), show k - (x + 1) = k - x - 1 by omega]
        · rw [if_neg l]
          have p0 : chP (wait (q_g μ 1) f t) mark i = 0 := by
            unfold chP
            rw [if_pos (by omega), show (mark - i).toNat = 0 by omega]
            rfl
          rw [p0]
          by_cases e : x = k
          · rw [if_pos e, if_pos (show 0 = k - x by omega)]
          · rw [if_neg e, if_neg (show ¬ 0 = k - x by omega), if_pos (show (0 : Int) ≠ -1 ∧ 0 < k - x by omega), nth, if_pos hp]
            by_cases e2 : x + 1 = k
            · rw [if_pos e2, if_pos (show k - x - 1 = 0 by omega), if_neg (show ¬ i = -1 by omega)]
            · rw [if_neg e2, if_neg (show ¬ k - x - 1 = 0 by omega), ih nf (-1) (x + 1 + 1) (i + 1) (by omega) (by omega) (by omega) (by omega) (by omega) (by omega) (by omega) (by omega)]
              unfold chR
              have p1 : chP (wait (q_g μ 1) f t) (-1) (i + 1) = -1 := if_neg (by omega)
              rw [p1, if_neg (show ¬ -1 = k - (x + 1 + 1) by omega), if_neg (show ¬ ((-1 : Int) ≠ -1 ∧ -1 < k - (x + 1 + 1)) from fun h => h.1 rfl), show k - (x + 1 + 1) = k - x - 1 - 1 by omega]
    · rw [fi, if_neg hp, ih nf mark x (i + 1) (by omega) (by omega) (by omega) h3 (by omega) h5 h6 h7]
      have p0 : chP (wait (q_g μ 1) f t) mark (i + 1) = chP (wait (q_g μ 1) f t) mark i := by
        unfold chP
        by_cases g : 0 ≤ mark
        · rw [if_pos g, if_pos g]
          by_cases l : i < mark
          · rw [show (mark - i).toNat = (mark - (i + 1)).toNat + 1 by omega, cnt_s, Bool.eq_false_iff.mpr hp]
            simp [bi]
          · rw [show (mark - i).toNat = 0 by omega, show (mark - (i + 1)).toNat = 0 by omega]
            rfl
        · rw [if_neg g, if_neg g]
      have pn : ∀ j, nth (wait (q_g μ 1) f t) j i (d + 1) = nth (wait (q_g μ 1) f t) j (i + 1) d := fun j => by rw [nth, if_neg hp]
      unfold chR
      rw [p0, pn]
theorem s_inChannel {N : Nat} (hN : 1000 ≤ N) : q_st_inChannel N vI := by
  intro c μC μM hc hI a0 h0 a1 h1 a2 h2 a3 h3
  refine (fun (x : ∃ r, f_CR_inChannel N a0 a1 a2 a3 μC = some r ∧ f_M_inChannel N a0 a1 a2 a3 μM = some r) => x.elim fun r h => ⟨r, h.1, h.2, vI_up hc hI⟩) ?_
  have h2' : a2 < 2147483648 := h2.2
  obtain ⟨n, hr, hv, hn, hA, hT, hU, hK⟩ := hI
  have hr' := hr
  obtain ⟨e0, -, -, -, -, -, e6, -, e8, -, rE, rM⟩ := hr'
  have hv' := hv
  obtain ⟨v0, -, v2, v3, -, -, -, v7, -, -, -, vE, vM, -⟩ := hv'
  simp only [f_CR_inChannel, f_M_inChannel, z_isPair e0 v0.1 v0.2, z_noChannel hn v0.1 v0.2, z_b, z_bz, z_zb, z_within, z_in, z_jn]
  by_cases g : (0 ≤ a0 ∧ a0 ≤ n - 1) ∧ (0 ≤ a1 ∧ a1 ≤ n - 1) ∧ a0 ≠ a1
  · rw [if_neg (not_not_intro g), if_pos g]
    by_cases g1 : a2 < 0
    · rw [if_pos g1, if_pos g1]
      exact ⟨_, rfl, rfl⟩
    · rw [if_neg g1, if_neg g1]
      by_cases g3 : 0 ≤ a3 ∧ a3 ≤ 2
      · rw [if_neg (not_not_intro g3), if_neg (not_not_intro g3)]
        simp (disch := omega) only [z_channelOf, z_b, z_ck, z_ld, z_waitingFrom hN hv, Int.sub_zero]
        have hm := v7 (5 * a0 + a1) (by omega) (by omega)
        have em : q_g μC 21 (a0 * 5 + a1) = q_g μM 1 (38 + 5 * a0 + a1) := by
          have := e6 (a0 * 5 + a1) (by omega) (by omega)
          rw [show 38 + (a0 * 5 + a1) = 38 + 5 * a0 + a1 by omega] at this
          exact this
        rw [show 38 + (5 * a0 + a1) = 38 + 5 * a0 + a1 by omega] at hm
        obtain ⟨mark, hk⟩ : ∃ mark, q_g μM 1 (38 + 5 * a0 + a1) = mark := ⟨_, rfl⟩
        rw [hk] at hm em ⊢
        rw [z_inCh (α := Int) hN hv (q_g μM 1 37).toNat N mark 0 0 (by omega) (by omega) (by omega) (by omega) (by omega) (by omega) hm.1 hm.2, Int.sub_zero]
        obtain ⟨p, hp⟩ : ∃ p, p = wait (q_g μM 1) a0 a1 := ⟨_, rfl⟩
        have hpl : f_Ch_markerPlace N 15 (a0 * 5 + a1) μC = some (chP p mark 0) := by
          unfold f_Ch_markerPlace chP
          rw [z_ld (by omega) (by omega), show 15 + 6 = 21 from rfl, em, z_jn]
          by_cases l : mark = -1
          · rw [if_pos l, if_neg (by omega)]
          · rw [if_neg l, if_pos (by omega), show (15 : Nat) = 1 + 14 from rfl, z_waitingAhead hN hr hv (by omega) (by omega) (by omega) hm.2, z_b, hp, Int.sub_zero]
        have hma : ∀ k, f_Ch_messageAt N 15 (a0 * 5 + a1) k μC = some (nth p k 0 (q_g μM 1 37).toNat) := fun k => by rw [hp]; exact z_messageAt (o := 1) hN hr hv (by omega) (by omega)
        have hcb : chP p mark 0 ≤ 512 := by
          unfold chP
          have := cnt_bd (p := p) (i := 0) (d := (mark - 0).toNat)
          split <;> omega
        unfold f_Ch_propertyAt chR
        rw [hpl, z_b, ← hp]
        by_cases l : chP p mark 0 = a2
        · rw [if_pos l, if_pos l]
          simp only [z_jn]
          by_cases k0 : a3 = 0
          · rw [if_pos k0]
            exact ⟨_, rfl, rfl⟩
          · rw [if_neg k0]
            by_cases k1 : a3 = 1
            · rw [if_pos k1]
              exact ⟨_, rfl, rfl⟩
            · rw [if_neg k1]
              exact ⟨_, rfl, rfl⟩
        · rw [if_neg l, if_neg l]
          simp only [z_jn, hma, z_b]
          have fin : ∀ j, ∃ r, (q_b (if nth p j 0 (q_g μM 1 37).toNat = -1 then some (-100006) else if a3 = 0 then q_ld μC (15 + 2) 512 (nth p j 0 (q_g μM 1 37).toNat) fun x13 => some x13 else if a3 = 1 then q_ld μC (15 + 3) 512 (nth p j 0 (q_g μM 1 37).toNat) fun x11 => some x11 else q_ld μC (15 + 4) 512 (nth p j 0 (q_g μM 1 37).toNat) fun x7 => if x7 = -1 then some (-100006) else q_ld μC (15 + 4) 512 (nth p j 0 (q_g μM 1 37).toNat) fun x9 => some x9) fun x8 => some x8) = some r ∧ (if nth p j 0 (q_g μM 1 37).toNat = -1 then some (-100006) else if 2 ≤ a3 then q_b (f_M_ofMessage (nth p j 0 (q_g μM 1 37).toNat) 4 μM) fun x39 => if 0 ≤ x39 then q_b (f_M_ofMessage (nth p j 0 (q_g μM 1 37).toNat) 4 μM) fun x41 => some x41 else some (-100006) else q_b (f_M_ofMessage (nth p j 0 (q_g μM 1 37).toNat) (2 + a3) μM) fun x45 => some x45) = some r := by
            intro j
            rcases nth_in (p := p) (d := (q_g μM 1 37).toNat) (k := j) (i := 0) with e | e
            · rw [if_pos e, if_pos e]
              exact ⟨_, rfl, rfl⟩
            · rw [if_neg (show ¬ nth p j 0 (q_g μM 1 37).toNat = -1 by omega), if_neg (show ¬ nth p j 0 (q_g μM 1 37).toNat = -1 by omega)]
              obtain ⟨m, hmm⟩ : ∃ m, nth p j 0 (q_g μM 1 37).toNat = m := ⟨_, rfl⟩
              rw [hmm] at e ⊢
              obtain ⟨-, r2, r3, r4, -⟩ := rM m (by omega) (by omega)
              obtain ⟨-, -, -, -, -, m4, -⟩ := vM m (by omega) (by omega)
              have r2' : q_g μC 17 m = _ := r2
              have r3' : q_g μC 18 m = _ := r3
              have r4' : q_g μC 19 m = _ := r4
              simp (disch := omega) only [z_ld, z_ofMessage, z_b, r2', r3', r4']
              by_cases k0 : a3 = 0
              · rw [if_pos k0, k0, if_neg (by omega)]
                exact ⟨_, rfl, rfl⟩
              · rw [if_neg k0]
                by_cases k1 : a3 = 1
                · rw [if_pos k1, k1, if_neg (by omega)]
                  exact ⟨_, rfl, rfl⟩
                · rw [if_neg k1, if_pos (show 2 ≤ a3 by omega)]
                  by_cases k4 : mg (q_g μM 1) m 4 = -1
                  · rw [if_pos k4, if_neg (by omega)]
                    exact ⟨_, rfl, rfl⟩
                  · rw [if_neg k4, if_pos (by omega)]
                    exact ⟨_, rfl, rfl⟩
          by_cases b : chP p mark 0 ≠ -1 ∧ chP p mark 0 < a2
          · rw [if_pos b, if_neg b.1, if_neg (by omega)]
            simp (disch := omega) only [show ¬ (1 : Int) = 0 by decide, if_false, z_ck]
            exact fin (a2 - 1)
          · rw [if_neg b]
            by_cases b1 : chP p mark 0 = -1
            · rw [if_pos b1]
              simp only [if_true]
              exact fin a2
            · rw [if_neg b1, if_pos (by omega)]
              simp only [if_true]
              exact fin a2
      · rw [if_pos g3, if_pos g3]
        exact ⟨_, rfl, rfl⟩
  · rw [if_pos g, if_neg g]
    exact ⟨_, rfl, rfl⟩
