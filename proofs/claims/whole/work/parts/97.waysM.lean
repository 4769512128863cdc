/-! the model's search for ways, and a push -/
def exMM (μ : q_M) (ex : Int → Int) : Prop := ∀ v, nd v → q_g μ 16 (sw v) = ex v
theorem roundsM {N : Nat} {n B : Int} {st : Int → Int} {CO LO HI X : Int → Int → Int} {src : Int → Prop} {K : q_M → Option q_M} {pi : Int → Int} (hN : 1000 ≤ N) (hn : ni n) (hBB : 2000000 ≤ B) (hB : eB n st CO LO HI X) (hp : po (okM n LO HI X) wfM wtM (wpM (PMt B n CO)) pi) : ∀ (dd nf : Nat) (r : Int) (μ : q_M) (V : Int → Nat → Int) (rc : Int → Bool) (pa : Int → Int) (ln : Int → Nat), r + dd = 6 → 0 ≤ r → dd + 2 < nf → eM n st CO LO HI μ X → SM n LO HI X (PMt B n CO) B (r * 82000) src μ V rc pa ln → fk (okM n LO HI X) wfM wtM (wpM (PMt B n CO)) src r.toNat (dV B V) rc →
    ∃ μ' V' rc' pa' ln', f_M_findWays_L65 N K nf 1 μ = K μ' ∧ (∀ k, k ≠ 17 → k ≠ 18 → k ≠ 19 → q_g μ' k = q_g μ k) ∧ SM n LO HI X (PMt B n CO) B 600000 src μ' V' rc' pa' ln' ∧ stb (okM n LO HI X) wfM wtM (wpM (PMt B n CO)) (dV B V') rc' ∧ (∀ v, rc v = true → rc' v = true) := by
  have hq := q_rng hn
  intro dd
  induction dd with
  | zero =>
    intro nf r μ V rc pa ln h1 h2 h3 hE hS hf
    obtain ⟨nf, rfl⟩ : ∃ m, nf = m + 1 := ⟨nf - 1, by omega⟩
    obtain ⟨nf, rfl⟩ : ∃ m, nf = m + 1 := ⟨nf - 1, by omega⟩
    obtain rfl : r = 6 := by omega
    have hst := fk_stb wN_M hS.2.2.2 hp hf
    obtain ⟨x', μ1, V1, rc1, pa1, ln1, a1, a2, a3, a4, a5, a6, a7, a8⟩ := passM (K := fun x23 μ24 => f_M_findWays_L65 N K (nf + 1) x23 μ24) hN hn hBB hB (n * (n - 1) + 4 * n + 1).toNat N 0 0 (6 * 82000) μ V rc pa ln (by omega) (by omega) (by omega) (Or.inl rfl) (by omega) hE hS
    obtain ⟨b1, b2, b3⟩ := a8 hst
    rw [f_M_findWays_L65, if_neg (by decide), a1, b1, f_M_findWays_L65, if_pos rfl]
    exact ⟨μ1, V1, rc1, pa1, ln1, rfl, a3, SM_up a4 (by omega), by rw [b2, b3]; exact hst, fun v h => (a5 v h).1⟩
  | succ dd ih =>
    intro nf r μ V rc pa ln h1 h2 h3 hE hS hf
    obtain ⟨nf, rfl⟩ : ∃ m, nf = m + 1 := ⟨nf - 1, by omega⟩
    obtain ⟨x', μ1, V1, rc1, pa1, ln1, a1, a2, a3, a4, a5, a6, a7, a8⟩ := passM (K := fun x23 μ24 => f_M_findWays_L65 N K nf x23 μ24) hN hn hBB hB (n * (n - 1) + 4 * n + 1).toNat N 0 0 (r * 82000) μ V rc pa ln (by omega) (by omega) (by omega) (Or.inl rfl) (by omega) hE hS
    have a6' : ∀ w, okM n LO HI X w → rc (wfM w) = true → rc1 (wtM w) = true ∧ dV B V1 (wtM w) ≤ dV B V (wfM w) + wpM (PMt B n CO) w := fun w hw hr => a6 w hw (by
      obtain ⟨u', v', hu', hv', huv', hc⟩ := wM_on hw
      have hb1 := hB.1 u' v' hu' hv'
      have he0 : 0 ≤ ei n u' v' := by
        refine Classical.byContradiction fun g => ?_
        have := hb1.2.2 (by omega)
        omega
      rcases hc with ⟨rfl, -⟩ | ⟨rfl, -⟩
      · rw [(eI_f hu' hv').1]; exact he0
      · rw [(eI_f hu' hv').2]; exact he0) hr
    rw [f_M_findWays_L65, if_neg (by decide), a1]
    rcases a2 with rfl | rfl
    · obtain ⟨-, b2, b3⟩ := a7 rfl
      obtain ⟨nf, rfl⟩ : ∃ m, nf = m + 1 := ⟨nf - 1, by omega⟩
      rw [f_M_findWays_L65, if_pos rfl]
      exact ⟨μ1, V1, rc1, pa1, ln1, rfl, a3, SM_up a4 (by omega), by rw [b2, b3] at a6' ⊢; exact a6', fun v h => (a5 v h).1⟩
    · obtain ⟨μ', V', rc', pa', ln', c1, c2, c3, c4, c5⟩ := ih nf (r + 1) μ1 V1 rc1 pa1 ln1 (by omega) (by omega) (by omega) (eM_fr hE (by rw [a3 _ (by omega) (by omega) (by omega)]) (fun k k1 k2 => a3 k (by omega) (by omega) (by omega))) (SM_up a4 (by omega)) (by
        rw [show (r + 1).toNat = r.toNat + 1 by omega]
        exact fk_pass hf a5 a6')
      exact ⟨μ', V', rc', pa', ln', c1, fun k k1 k2 k3 => by rw [c2 k k1 k2 k3, a3 k k1 k2 k3], c3, c4, fun v h => c5 v (a5 v h).1⟩
theorem initM {ex : Int → Int} {K : q_M → Option q_M} : ∀ (dd nf : Nat) (i : Int) (μ : q_M), i + dd = 7 → 0 ≤ i → dd < nf → (∀ v, nd v → q_g μ 16 v = ex (sw v)) → (∀ v, nd v → v < i → q_g μ 17 v = bi (decide (0 < ex (sw v))) ∧ q_g μ 19 v = -1) → ∃ μ', f_M_findWays_L2 K nf i μ = K μ' ∧ (∀ k, k ≠ 17 → k ≠ 19 → q_g μ' k = q_g μ k) ∧ ∀ v, nd v → q_g μ' 17 v = bi (decide (0 < ex (sw v))) ∧ q_g μ' 19 v = -1 := by
  intro dd
  induction dd with
  | zero =>
    intro nf i μ h1 h2 h3 hx hd
    obtain ⟨nf, rfl⟩ : ∃ m, nf = m + 1 := ⟨nf - 1, by omega⟩
    exact ⟨μ, by rw [f_M_findWays_L2, if_pos (by omega)], fun _ _ _ => rfl, fun v hv => hd v hv (by have := hv.2; omega)⟩
  | succ dd ih =>
    intro nf i μ h1 h2 h3 hx hd
    obtain ⟨nf, rfl⟩ : ∃ m, nf = m + 1 := ⟨nf - 1, by omega⟩
    have hi : nd i := ⟨h2, by omega⟩
    have go : ∀ y, y = bi (decide (0 < ex (sw i))) → ∃ μ', f_M_findWays_L2 K nf (i + 1) (q_x (q_x μ 17 i y) 19 i (-1)) = K μ' ∧ (∀ k, k ≠ 17 → k ≠ 19 → q_g μ' k = q_g μ k) ∧ ∀ v, nd v → q_g μ' 17 v = bi (decide (0 < ex (sw v))) ∧ q_g μ' 19 v = -1 := by
      intro y hy
      obtain ⟨μ', a, b, c⟩ := ih nf (i + 1) (q_x (q_x μ 17 i y) 19 i (-1)) (by omega) (by omega) (by omega) (fun v hv => by rw [g_sn (by omega), g_sn (by omega)]; exact hx v hv) (fun v hv hvi => by
        rw [g_sn (show 17 ≠ 19 by omega), g_s h2, g_s h2, g_sn (show 19 ≠ 17 by omega)]
        by_cases q : v = i
        · rw [q, u_s, u_s]
          exact ⟨hy, rfl⟩
        · rw [u_n q, u_n q]
          exact hd v hv (by omega))
      exact ⟨μ', a, fun k k1 k2 => by rw [b k k1 k2, g_sn k2, g_sn k1], c⟩
    rw [f_M_findWays_L2, if_neg (by omega), z_ld (by omega) (by omega), hx i hi]
    simp only [z_jn]
    by_cases g : ex (sw i) ≤ 0
    · rw [if_pos g, z_stz (by omega) (by omega) (Or.inl rfl), z_st (by omega) (by omega), z_ck (by omega) (by omega)]
      exact go 0 (by rw [decide_eq_false (by omega)]; rfl)
    · rw [if_neg g, z_stz (by omega) (by omega) (Or.inr rfl), z_st (by omega) (by omega), z_ck (by omega) (by omega)]
      exact go 1 (by rw [decide_eq_true (by omega)]; rfl)
theorem z_findWaysM {N : Nat} {n B : Int} {st : Int → Int} {CO LO HI X : Int → Int → Int} {ex pi : Int → Int} {μ : q_M} (hN : 1000 ≤ N) (hn : ni n) (hBB : 2000000 ≤ B) (hB : eB n st CO LO HI X) (hp : po (okM n LO HI X) wfM wtM (wpM (PMt B n CO)) pi) (hE : eM n st CO LO HI μ X) (hx : exMM μ ex) :
    ∃ μ' V' rc' pa' ln', f_M_findWays N μ = some μ' ∧ (∀ k, k ≠ 17 → k ≠ 18 → k ≠ 19 → q_g μ' k = q_g μ k) ∧ SM n LO HI X (PMt B n CO) B 600000 (fun v => 0 < ex v) μ' V' rc' pa' ln' ∧ stb (okM n LO HI X) wfM wtM (wpM (PMt B n CO)) (dV B V') rc' ∧ (∀ v, nd v → 0 < ex v → rc' v = true) := by
  unfold f_M_findWays
  obtain ⟨μ1, a1, a2, a3⟩ := initM (ex := ex) (K := fun μ3 => f_M_findWays_L43 (fun μ13 => f_M_findWays_L65 N (fun μ19 => some μ19) N 1 μ13) N 0 μ3) 7 N 0 μ (by omega) (by omega) (by omega) (fun v hv => by rw [← hx (sw v) (sw_nd hv), sw_sw]) (fun v hv h => absurd h (by have := hv.1; omega))
  rw [a1]
  obtain ⟨μ2, b1, b2, b3⟩ := lp_fill (F := fun nf i μ => f_M_findWays_L43 (fun μ13 => f_M_findWays_L65 N (fun μ19 => some μ19) N 1 μ13) nf i μ) (E := fun μ13 => f_M_findWays_L65 N (fun μ19 => some μ19) N 1 μ13) (k := 18) (b := 217) (off := 0) (v := 0) (by decide) (fun nf μ => by
    show f_M_findWays_L43 _ (nf + 1) 217 μ = _
    rw [f_M_findWays_L43, if_pos (by decide)]) (fun nf i μ h0 h1 => by
    show f_M_findWays_L43 _ (nf + 1) i μ = f_M_findWays_L43 _ nf (i + 1) (q_x μ 18 (0 + i) 0)
    rw [f_M_findWays_L43, if_neg (by omega), z_st (by omega) (by omega), z_ck (by omega) (by omega), Int.zero_add]) 217 N 0 μ1 (by decide) (by decide) (by omega)
  rw [b1]
  have hd0 : dV B (fun _ _ => 0) = fun _ => 0 := by
    funext v
    unfold dV
    exact hx_zero
  obtain ⟨μ', V', rc', pa', ln', c1, c2, c3, c4, c5⟩ := roundsM (src := fun v => 0 < ex v) (K := fun μ19 => some μ19) hN hn hBB hB hp 6 N 0 μ2 (fun _ _ => 0) (fun v => decide (0 < ex v)) (fun _ => -1) (fun _ => 0) (by omega) (by omega) (by omega) (eM_fr hE (by rw [b2 _ (by omega), a2 _ (by omega) (by omega)]) (fun k k1 k2 => by rw [b2 k (by omega), a2 k (by omega) (by omega)])) (by
    refine ⟨fun v hv k hk => ?_, fun v hv k hk => (show -((0 : Int) * 82000) ≤ 0 ∧ (0 : Int) ≤ 0 * 82000 from by omega), fun v hv => ?_, fun v hv hr => ?_⟩
    · have h1 := (sw_nd hv).1
      have h2 := (sw_nd hv).2
      rw [b3, if_pos (by omega)]
    · have := a3 (sw v) (sw_nd hv)
      rw [sw_sw] at this
      rw [b2 _ (by omega), b2 _ (by omega)]
      exact this
    · left
      simp only [decide_eq_true_eq] at hr
      rw [hd0]
      exact ⟨rfl, hr, rfl⟩) (by
    intro v x h
    obtain ⟨h0, h1, h2⟩ := h
    rw [hd0]
    simp only [decide_eq_true_eq]
    exact ⟨h1, by omega⟩)
  exact ⟨μ', V', rc', pa', ln', c1, fun k k1 k2 k3 => by rw [c2 k k1 k2 k3, b2 k k2, a2 k k1 k3], c3, c4, fun v hv h => c5 v (by simpa using h)⟩
theorem cheapM {N : Nat} {a b : Int} {μ : q_M} (hN : 1000 ≤ N) (ha : nd a) (hb : nd b) : ∃ z, f_M_isCheaper N a b μ = some z := by
  have a1 := ha.1
  have a2 := ha.2
  have b1 := hb.1
  have b2 := hb.2
  have lp : ∀ (d nf : Nat) (i : Int), i + d = 31 → 0 ≤ i → d < nf → ∃ z, f_M_isCheaper_L2 a b μ (fun x2 => q_ck (31 * a) fun x12 => q_ck (x12 + x2) fun x13 => q_ld μ 18 217 x13 fun x14 => q_ck (31 * b) fun x15 => q_ck (x15 + x2) fun x16 => q_ld μ 18 217 x16 fun x17 => q_jn (fun (x18 : Int) => q_rz x18 (some x18)) fun (j63 : Int → Option Int) => if x17 ≤ x14 then j63 0 else j63 1) (some 0) nf i = some z := by
    intro d
    induction d with
    | zero =>
      intro nf i h1 h2 h3
      obtain ⟨nf, rfl⟩ : ∃ m, nf = m + 1 := ⟨nf - 1, by omega⟩
      exact ⟨0, by rw [f_M_isCheaper_L2, if_pos (by omega)]⟩
    | succ d ih =>
      intro nf i h1 h2 h3
      obtain ⟨nf, rfl⟩ : ∃ m, nf = m + 1 := ⟨nf - 1, by omega⟩
      rw [f_M_isCheaper_L2, if_neg (by omega), z_ck (by omega) (by omega), z_ck (by omega) (by omega), z_ld (by omega) (by omega), z_ck (by omega) (by omega), z_ck (by omega) (by omega), z_ld (by omega) (by omega)]
      by_cases g : q_g μ 18 (31 * a + i) = q_g μ 18 (31 * b + i)
      · rw [if_pos g, z_ck (by omega) (by omega)]
        exact ih nf (i + 1) (by omega) (by omega) (by omega)
      · rw [if_neg g, z_ck (by omega) (by omega), z_ck (by omega) (by omega), z_ld (by omega) (by omega), z_ck (by omega) (by omega), z_ck (by omega) (by omega), z_ld (by omega) (by omega)]
        simp only [z_jn, z_rz0, z_rz1]
        by_cases q : q_g μ 18 (31 * b + i) ≤ q_g μ 18 (31 * a + i)
        · rw [if_pos q]; exact ⟨0, rfl⟩
        · rw [if_neg q]; exact ⟨1, rfl⟩
  unfold f_M_isCheaper
  exact lp 31 N 0 (by omega) (by omega) (by omega)
/-- the node that lacks something and is reached -/
theorem endM {N : Nat} {n : Int} {μ : q_M} {ex : Int → Int} {rc : Int → Bool} {pa : Int → Int} {K : Int → Option (Int × q_M)} (hN : 1000 ≤ N) (hx : exMM μ ex) (hR : rRM n μ rc pa) : ∀ (dd nf : Nat) (i x : Int), i + dd = 7 → 0 ≤ i → dd < nf → ((x = -1 ∧ ∀ v, nd v → v < i → ex (sw v) < 0 → rc (sw v) = false) ∨ (nd x ∧ ex (sw x) < 0 ∧ rc (sw x) = true)) → ∃ t, f_M_sendOn_L8 N μ K nf x i = K t ∧ ((t = -1 ∧ ∀ v, nd v → ex v < 0 → rc v = false) ∨ (nd t ∧ ex (sw t) < 0 ∧ rc (sw t) = true)) := by
  intro dd
  induction dd with
  | zero =>
    intro nf i x h1 h2 h3 hi
    obtain ⟨nf, rfl⟩ : ∃ m, nf = m + 1 := ⟨nf - 1, by omega⟩
    refine ⟨x, by rw [f_M_sendOn_L8, if_pos (by omega)], ?_⟩
    rcases hi with hi | hi
    · refine Or.inl ⟨hi.1, fun v hv h => ?_⟩
      have := hi.2 (sw v) (sw_nd hv) (by have := (sw_nd hv).2; omega)
      rw [sw_sw] at this
      exact this h
    · exact Or.inr hi
  | succ dd ih =>
    intro nf i x h1 h2 h3 hi
    obtain ⟨nf, rfl⟩ : ∃ m, nf = m + 1 := ⟨nf - 1, by omega⟩
    have hni : nd i := ⟨h2, by omega⟩
    have e1 := hx (sw i) (sw_nd hni)
    have e2 := (hR (sw i) (sw_nd hni)).1
    rw [sw_sw] at e1 e2
    have skip : (ex (sw i) < 0 → rc (sw i) = false) → ∃ t, f_M_sendOn_L8 N μ K nf x (i + 1) = K t ∧ ((t = -1 ∧ ∀ v, nd v → ex v < 0 → rc v = false) ∨ (nd t ∧ ex (sw t) < 0 ∧ rc (sw t) = true)) := by
      intro hs
      refine ih nf (i + 1) x (by omega) (by omega) (by omega) ?_
      rcases hi with hi | hi
      · refine Or.inl ⟨hi.1, fun v hv hvi => ?_⟩
        by_cases q : v = i
        · rw [q]; exact hs
        · exact hi.2 v hv (by omega)
      · exact Or.inr hi
    rw [f_M_sendOn_L8, if_neg (by omega), z_ld (by omega) (by omega), e1]
    simp only [z_jn]
    by_cases g : 0 ≤ ex (sw i)
    · rw [if_pos g, z_ck (by omega) (by omega)]
      exact skip (fun h => absurd h (by omega))
    · rw [if_neg g, z_ld (by omega) (by omega), e2]
      simp only [z_bib]
      by_cases q : rc (sw i) = true
      · have take := ih nf (i + 1) i (by omega) (by omega) (by omega) (Or.inr ⟨hni, by omega, q⟩)
        rw [if_neg (by rw [q]; decide)]
        by_cases gx : x < 0
        · rw [if_pos gx, z_ck (by omega) (by omega)]
          exact take
        · have hx' : nd x ∧ ex (sw x) < 0 ∧ rc (sw x) = true := by
            rcases hi with hi | hi
            · omega
            · exact hi
          obtain ⟨z, hz⟩ := cheapM (N := N) (μ := μ) hN hni hx'.1
          rw [if_neg gx, hz, z_b, z_ck (by omega) (by omega), z_ck (by omega) (by omega)]
          by_cases gz : z = 0
          · rw [if_pos gz]
            exact ih nf (i + 1) x (by omega) (by omega) (by omega) (Or.inr hx')
          · rw [if_neg gz]
            exact take
      · rw [if_pos (by simpa using q), z_ck (by omega) (by omega)]
        exact skip (fun _ => by simpa using q)
