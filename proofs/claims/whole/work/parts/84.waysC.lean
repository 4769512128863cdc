/-! the class's flow: all rounds of the search -/
theorem z_shortenFrom {N o : Nat} {LO HI PR X : Int → Int → Int} {src : Int → Prop} {u C : Int} {μ : q_M} {d : Int → Int} {rc : Int → Bool} {pa : Int → Int} {ln : Int → Nat} (hN : 1000 ≤ N) (hB : cB LO HI PR X) (hu : nd u) (hC : 0 ≤ C ∧ C ≤ 562949953421312) (hM : cM o μ LO HI PR X) (hR : wR o μ d rc pa) (hI : wI (okC LO HI X) wfC wtC (wpC LO PR X) src d rc pa ln) (hb : bdW C d rc) (hr : rc u = true) :
    ∃ x' μ' d' rc' pa' ln', f_Fl_shortenFrom N o u μ = some (x', μ') ∧ (x' = 0 ∨ x' = 1) ∧ (∀ k, k ≠ o + 6 → k ≠ o + 7 → q_g μ' k = q_g μ k) ∧ wR o μ' d' rc' pa' ∧ wI (okC LO HI X) wfC wtC (wpC LO PR X) src d' rc' pa' ln' ∧ bdW (C + 2199023255552) d' rc' ∧ (∀ v, rc v = true → rc' v = true ∧ d' v ≤ d v) ∧ (∀ v, nd v → okC LO HI X (u * 7 + v) → rc' v = true ∧ d' v ≤ d u + prC LO PR X u v) ∧ (x' = 0 → d' = d ∧ rc' = rc) ∧ ((∀ v, nd v → okC LO HI X (u * 7 + v) → rc v = true ∧ d v ≤ d u + prC LO PR X u v) → x' = 0) := by
  obtain ⟨x', μ', d', rc', pa', ln', e1, e2, e3, e4, e5, e6, e7, e8, e9, e10, e11⟩ := rowC (K := fun x4 μ5 => q_rz x4 (some (x4, μ5))) hB hu hC 7 N 0 0 μ d rc pa ln (by omega) (by omega) (by omega) (Or.inl rfl) hM hR hI (hb u hu hr) (fun v hv h => by have := hb v hv h; omega) hr
  refine ⟨x', μ', d', rc', pa', ln', ?_, e2, e3, e4, e5, e6, e7, fun v hv => e9 v hv hv.1, fun h => (e10 h).2, fun h => e11 (fun v hv _ => h v hv)⟩
  unfold f_Fl_shortenFrom
  rw [e1]
  unfold q_rz
  rw [if_pos e2]
theorem passC {N o : Nat} {LO HI PR X : Int → Int → Int} {src : Int → Prop} {K : Int → q_M → Option q_M} {C : Int} (hN : 1000 ≤ N) (hB : cB LO HI PR X) (hC : 0 ≤ C ∧ C ≤ 281474976710656) : ∀ (dd nf : Nat) (i x : Int) (μ : q_M) (d : Int → Int) (rc : Int → Bool) (pa : Int → Int) (ln : Int → Nat), i + dd = 7 → 0 ≤ i → dd < nf → (x = 0 ∨ x = 1) → cM o μ LO HI PR X → wR o μ d rc pa → wI (okC LO HI X) wfC wtC (wpC LO PR X) src d rc pa ln → bdW (C + i * 2199023255552) d rc →
    ∃ x' μ' d' rc' pa' ln', f_Fl_findWays_L61 N o K nf x i μ = K x' μ' ∧ (x' = 0 ∨ x' = 1) ∧ (∀ k, k ≠ o + 6 → k ≠ o + 7 → q_g μ' k = q_g μ k) ∧ wR o μ' d' rc' pa' ∧ wI (okC LO HI X) wfC wtC (wpC LO PR X) src d' rc' pa' ln' ∧ bdW (C + 7 * 2199023255552) d' rc' ∧ (∀ v, rc v = true → rc' v = true ∧ d' v ≤ d v) ∧ (∀ w, okC LO HI X w → i ≤ wfC w → rc (wfC w) = true → rc' (wtC w) = true ∧ d' (wtC w) ≤ d (wfC w) + wpC LO PR X w) ∧ (x' = 0 → x = 0 ∧ d' = d ∧ rc' = rc) ∧ (stb (okC LO HI X) wfC wtC (wpC LO PR X) d rc → x' = x) := by
  intro dd
  induction dd with
  | zero =>
    intro nf i x μ d rc pa ln h1 h2 h3 hx hM hR hI hb
    obtain ⟨nf, rfl⟩ : ∃ m, nf = m + 1 := ⟨nf - 1, by omega⟩
    obtain rfl : i = 7 := by omega
    refine ⟨x, μ, d, rc, pa, ln, ?_, hx, fun _ _ _ => rfl, hR, hI, hb, fun v hv => ⟨hv, Int.le_refl _⟩, fun w hw hiw _ => ?_, fun e => ⟨e, rfl, rfl⟩, fun _ => rfl⟩
    · rw [f_Fl_findWays_L61, if_pos (by omega)]
    · have := (wN_C w hw).2.1.2
      omega
  | succ dd ih =>
    intro nf i x μ d rc pa ln h1 h2 h3 hx hM hR hI hb
    obtain ⟨nf, rfl⟩ : ∃ m, nf = m + 1 := ⟨nf - 1, by omega⟩
    have hi : nd i := ⟨h2, by omega⟩
    have hRi := (hR i hi).1
    rw [f_Fl_findWays_L61, if_neg (by omega), z_ld (by omega) (by omega), hRi]
    simp only [z_jn]
    rw [lc_lt]
    cases q : rc i with
    | false =>
      rw [if_neg (show ¬ (if false = true then d i else 1152921504606846976) < 1152921504606846976 by rw [if_neg Bool.false_ne_true]; omega)]
      obtain ⟨x', μ', d', rc', pa', ln', e1, e2, e3, e4, e5, e6, e7, e8, e9, e10⟩ := ih nf (i + 1) x μ d rc pa ln (by omega) (by omega) (by omega) hx hM hR hI (fun v hv h => by have := hb v hv h; omega)
      refine ⟨x', μ', d', rc', pa', ln', by rw [z_ck (by omega) (by omega)]; exact e1, e2, e3, e4, e5, e6, e7, fun w hw hiw hr => ?_, e9, e10⟩
      by_cases g : wfC w = i
      · rw [g, q] at hr; cases hr
      · exact e8 w hw (by omega) hr
    | true =>
      have hbi := hb i hi q
      rw [if_pos (show (if true = true then d i else 1152921504606846976) < 1152921504606846976 by rw [if_pos rfl]; omega)]
      obtain ⟨y, μ1, d1, rc1, pa1, ln1, a1, a2, a3, a4, a5, a6, a7, a8, a9, a10⟩ := z_shortenFrom (C := C + i * 2199023255552) (src := src) hN hB hi (by omega) hM hR hI hb q
      rw [a1, z_b2]
      have hb1 : bdW (C + (i + 1) * 2199023255552) d1 rc1 := fun v hv h => by have := a6 v hv h; omega
      have row : ∀ w, okC LO HI X w → wfC w = i → ∃ v, nd v ∧ wtC w = v ∧ w = i * 7 + v ∧ wpC LO PR X w = prC LO PR X i v := fun w hw g => by
        have hh := (wN_C w hw)
        refine ⟨wtC w, hh.2.2.1, rfl, ?_, ?_⟩
        · unfold wfC at g
          unfold wtC
          omega
        · unfold wpC
          rw [show w / 7 = i from g]
          rfl
      have fin : ∀ x2, (x2 = 0 ∨ x2 = 1) → (x2 = 0 → x = 0 ∧ y = 0) → (y = 0 → x2 = x) → ∃ x' μ' d' rc' pa' ln', f_Fl_findWays_L61 N o K nf x2 (i + 1) μ1 = K x' μ' ∧ (x' = 0 ∨ x' = 1) ∧ (∀ k, k ≠ o + 6 → k ≠ o + 7 → q_g μ' k = q_g μ k) ∧ wR o μ' d' rc' pa' ∧ wI (okC LO HI X) wfC wtC (wpC LO PR X) src d' rc' pa' ln' ∧ bdW (C + 7 * 2199023255552) d' rc' ∧ (∀ v, rc v = true → rc' v = true ∧ d' v ≤ d v) ∧ (∀ w, okC LO HI X w → i ≤ wfC w → rc (wfC w) = true → rc' (wtC w) = true ∧ d' (wtC w) ≤ d (wfC w) + wpC LO PR X w) ∧ (x' = 0 → x = 0 ∧ d' = d ∧ rc' = rc) ∧ (stb (okC LO HI X) wfC wtC (wpC LO PR X) d rc → x' = x) := by
        intro x2 hx2 hz hy
        obtain ⟨x', μ', d', rc', pa', ln', e1, e2, e3, e4, e5, e6, e7, e8, e9, e10⟩ := ih nf (i + 1) x2 μ1 d1 rc1 pa1 ln1 (by omega) (by omega) (by omega) hx2 (cM_fr hM a3) a4 a5 hb1
        refine ⟨x', μ', d', rc', pa', ln', e1, e2, fun k k1 k2 => by rw [e3 k k1 k2, a3 k k1 k2], e4, e5, e6, fun v hv => ?_, fun w hw hiw hr => ?_, fun h => ?_, fun h => ?_⟩
        · have g1 := a7 v hv
          have g2 := e7 v g1.1
          exact ⟨g2.1, by omega⟩
        · by_cases g : wfC w = i
          · obtain ⟨v, v1, v2, v3, v4⟩ := row w hw g
            rw [v3] at hw
            have g1 := a8 v v1 hw
            have g2 := e7 v g1.1
            rw [v2, v4, g]
            exact ⟨g2.1, by omega⟩
          · have g1 := a7 _ hr
            have g2 := e8 w hw (by omega) g1.1
            exact ⟨g2.1, by omega⟩
        · have g1 := e9 h
          have g2 := hz g1.1
          have g3 := a9 g2.2
          exact ⟨g2.1, by rw [g1.2.1, g3.1], by rw [g1.2.2, g3.2]⟩
        · have y0 : y = 0 := a10 (fun v hv hok => by
            have := h (i * 7 + v) hok
            have hw : wfC (i * 7 + v) = i ∧ wtC (i * 7 + v) = v ∧ wpC LO PR X (i * 7 + v) = prC LO PR X i v := by
              have := hv.1
              have := hv.2
              unfold wfC wtC wpC
              rw [show (i * 7 + v) / 7 = i by omega, show (i * 7 + v) % 7 = v by omega]
              exact ⟨rfl, rfl, rfl⟩
            rw [hw.1, hw.2.1, hw.2.2] at this
            exact this q)
          have g3 := a9 y0
          rw [e10 (by rw [g3.1, g3.2]; exact h)]
          exact hy y0
      by_cases g : y = 0
      · rw [if_pos g, z_ck (by omega) (by omega)]
        exact fin x hx (fun h => ⟨h, g⟩) (fun _ => rfl)
      · rw [if_neg g, z_ck (by omega) (by omega)]
        exact fin 1 (Or.inr rfl) (fun h => absurd h (by decide)) (fun h => absurd h g)
theorem roundsC {N o : Nat} {LO HI PR X : Int → Int → Int} {src : Int → Prop} {K : q_M → Option q_M} {pi : Int → Int} (hN : 1000 ≤ N) (hB : cB LO HI PR X) (hp : po (okC LO HI X) wfC wtC (wpC LO PR X) pi) : ∀ (dd nf : Nat) (r x : Int) (μ : q_M) (d : Int → Int) (rc : Int → Bool) (pa : Int → Int) (ln : Int → Nat), r + dd = 7 → 0 ≤ r → dd < nf → (x = 0 ∨ x = 1) → cM o μ LO HI PR X → wR o μ d rc pa → wI (okC LO HI X) wfC wtC (wpC LO PR X) src d rc pa ln → bdW (r * 15393162788864) d rc → (x = 0 → stb (okC LO HI X) wfC wtC (wpC LO PR X) d rc) → fk (okC LO HI X) wfC wtC (wpC LO PR X) src r.toNat d rc →
    ∃ μ' d' rc' pa' ln', f_Fl_findWays_L47 N o K nf x r μ = K μ' ∧ (∀ k, k ≠ o + 6 → k ≠ o + 7 → q_g μ' k = q_g μ k) ∧ wR o μ' d' rc' pa' ∧ wI (okC LO HI X) wfC wtC (wpC LO PR X) src d' rc' pa' ln' ∧ bdW 281474976710656 d' rc' ∧ stb (okC LO HI X) wfC wtC (wpC LO PR X) d' rc' ∧ (∀ v, rc v = true → rc' v = true) := by
  intro dd
  induction dd with
  | zero =>
    intro nf r x μ d rc pa ln h1 h2 h3 hx hM hR hI hb hs hf
    obtain ⟨nf, rfl⟩ : ∃ m, nf = m + 1 := ⟨nf - 1, by omega⟩
    obtain rfl : r = 7 := by omega
    refine ⟨μ, d, rc, pa, ln, by rw [f_Fl_findWays_L47, if_pos (by omega)], fun _ _ _ => rfl, hR, hI, fun v hv h => by have := hb v hv h; omega, fk_stb wN_C hI hp (fun v x h => hf v x (wk_mono (by decide) h)), fun v h => h⟩
  | succ dd ih =>
    intro nf r x μ d rc pa ln h1 h2 h3 hx hM hR hI hb hs hf
    obtain ⟨nf, rfl⟩ : ∃ m, nf = m + 1 := ⟨nf - 1, by omega⟩
    rw [f_Fl_findWays_L47, if_neg (by omega)]
    by_cases g : x = 0
    · rw [if_pos g]
      exact ⟨μ, d, rc, pa, ln, rfl, fun _ _ _ => rfl, hR, hI, fun v hv h => by have := hb v hv h; omega, hs g, fun v h => h⟩
    · rw [if_neg g]
      obtain ⟨x', μ1, d1, rc1, pa1, ln1, e1, e2, e3, e4, e5, e6, e7, e8, e9, e10⟩ := passC (src := src) (C := r * 15393162788864) (K := fun x18 μ19 => q_ck (r + 1) fun x31 => f_Fl_findWays_L47 N o K nf x18 x31 μ19) hN hB (by omega) 7 N 0 0 μ d rc pa ln (by omega) (by omega) (by omega) (Or.inl rfl) hM hR hI (fun v hv h => by have := hb v hv h; omega)
      rw [e1, z_ck (by omega) (by omega)]
      have e8' : ∀ w, okC LO HI X w → rc (wfC w) = true → rc1 (wtC w) = true ∧ d1 (wtC w) ≤ d (wfC w) + wpC LO PR X w := fun w hw hr => e8 w hw (wN_C w hw).2.1.1 hr
      obtain ⟨μ', d', rc', pa', ln', c1, c2, c3, c4, c5, c6, c7⟩ := ih nf (r + 1) x' μ1 d1 rc1 pa1 ln1 (by omega) (by omega) (by omega) e2 (cM_fr hM e3) e4 e5 (fun v hv h => by have := e6 v hv h; omega) (fun h => by
        have := e9 h
        rw [this.2.1, this.2.2] at e8' ⊢
        exact e8') (by
        rw [show (r + 1).toNat = r.toNat + 1 by omega]
        exact fk_pass hf e7 e8')
      exact ⟨μ', d', rc', pa', ln', c1, fun k k1 k2 => by rw [c2 k k1 k2, e3 k k1 k2], c3, c4, c5, c6, fun v h => c7 v (e7 v h).1⟩
theorem initC {o : Nat} {ex : Int → Int} {K : q_M → Option q_M} : ∀ (dd nf : Nat) (i : Int) (μ : q_M), i + dd = 7 → 0 ≤ i → dd < nf → (∀ v, nd v → q_g μ (o + 5) v = ex v) → (∀ v, nd v → v < i → q_g μ (o + 6) v = (if 0 < ex v then 0 else 1152921504606846976) ∧ q_g μ (o + 7) v = -1) → ∃ μ', f_Fl_findWays_L2 o K nf i μ = K μ' ∧ (∀ k, k ≠ o + 6 → k ≠ o + 7 → q_g μ' k = q_g μ k) ∧ ∀ v, nd v → q_g μ' (o + 6) v = (if 0 < ex v then 0 else 1152921504606846976) ∧ q_g μ' (o + 7) v = -1 := by
  intro dd
  induction dd with
  | zero =>
    intro nf i μ h1 h2 h3 hx hd
    obtain ⟨nf, rfl⟩ : ∃ m, nf = m + 1 := ⟨nf - 1, by omega⟩
    exact ⟨μ, by rw [f_Fl_findWays_L2, if_pos (by omega)], fun _ _ _ => rfl, fun v hv => hd v hv (by have := hv.2; omega)⟩
  | succ dd ih =>
    intro nf i μ h1 h2 h3 hx hd
    obtain ⟨nf, rfl⟩ : ∃ m, nf = m + 1 := ⟨nf - 1, by omega⟩
    have hi : nd i := ⟨h2, by omega⟩
    have go : ∀ y, y = (if 0 < ex i then 0 else 1152921504606846976) → ∃ μ', f_Fl_findWays_L2 o K nf (i + 1) (q_x (q_x μ (o + 6) i y) (o + 7) i (-1)) = K μ' ∧ (∀ k, k ≠ o + 6 → k ≠ o + 7 → q_g μ' k = q_g μ k) ∧ ∀ v, nd v → q_g μ' (o + 6) v = (if 0 < ex v then 0 else 1152921504606846976) ∧ q_g μ' (o + 7) v = -1 := by
      intro y hy
      obtain ⟨μ', a, b, c⟩ := ih nf (i + 1) (q_x (q_x μ (o + 6) i y) (o + 7) i (-1)) (by omega) (by omega) (by omega) (fun v hv => by rw [g_sn (by omega), g_sn (by omega)]; exact hx v hv) (fun v hv hvi => by
        rw [g_sn (show o + 6 ≠ o + 7 by omega), g_s h2, g_s h2, g_sn (show o + 7 ≠ o + 6 by omega)]
        by_cases q : v = i
        · rw [q, u_s, u_s]
          exact ⟨hy, rfl⟩
        · rw [u_n q, u_n q]
          exact hd v hv (by omega))
      exact ⟨μ', a, fun k k1 k2 => by rw [b k k1 k2, g_sn k2, g_sn k1], c⟩
    rw [f_Fl_findWays_L2, if_neg (by omega), z_ld (by omega) (by omega), hx i hi]
    simp only [z_jn]
    by_cases g : ex i ≤ 0
    · rw [if_pos g, z_st (by omega) (by omega), z_st (by omega) (by omega), z_ck (by omega) (by omega)]
      exact go _ (by rw [if_neg (by omega)])
    · rw [if_neg g, z_st (by omega) (by omega), z_st (by omega) (by omega), z_ck (by omega) (by omega)]
      exact go _ (by rw [if_pos (by omega)])
theorem z_findWays {N o : Nat} {LO HI PR X : Int → Int → Int} {ex pi : Int → Int} {μ : q_M} (hN : 1000 ≤ N) (hB : cB LO HI PR X) (hp : po (okC LO HI X) wfC wtC (wpC LO PR X) pi) (hM : cM o μ LO HI PR X) (hx : ∀ v, nd v → q_g μ (o + 5) v = ex v) :
    ∃ μ' d' rc' pa' ln', f_Fl_findWays N o μ = some μ' ∧ (∀ k, k ≠ o + 6 → k ≠ o + 7 → q_g μ' k = q_g μ k) ∧ wR o μ' d' rc' pa' ∧ wI (okC LO HI X) wfC wtC (wpC LO PR X) (fun v => 0 < ex v) d' rc' pa' ln' ∧ bdW 281474976710656 d' rc' ∧ stb (okC LO HI X) wfC wtC (wpC LO PR X) d' rc' ∧ (∀ v, nd v → 0 < ex v → rc' v = true) := by
  unfold f_Fl_findWays
  obtain ⟨μ1, a1, a2, a3⟩ := initC (o := o) (ex := ex) (K := fun μ3 => f_Fl_findWays_L47 N o (fun μ14 => some μ14) N 1 0 μ3) 7 N 0 μ (by omega) (by omega) (by omega) hx (fun v hv h => absurd h (by have := hv.1; omega))
  rw [a1]
  obtain ⟨μ', d', rc', pa', ln', e1, e2, e3, e4, e5, e6, e7⟩ := roundsC (src := fun v => 0 < ex v) (K := fun μ14 => some μ14) hN hB hp 7 N 0 1 μ1 (fun _ => 0) (fun v => decide (0 < ex v)) (fun _ => -1) (fun _ => 0) (by omega) (by omega) (by omega) (Or.inr rfl) (cM_fr hM a2) (by
    intro v hv
    obtain ⟨b1, b2⟩ := a3 v hv
    refine ⟨?_, b2⟩
    rw [b1]
    by_cases g : 0 < ex v
    · simp [g]
    · simp [g]) (by
    intro v hv hr
    left
    simp only [decide_eq_true_eq] at hr
    exact ⟨rfl, hr, rfl⟩) (fun v hv h => by simp) (fun h => absurd h (by decide)) (by
    intro v x h
    obtain ⟨h0, h1, h2⟩ := h
    simp only [decide_eq_true_eq]
    exact ⟨h1, by omega⟩)
  exact ⟨μ', d', rc', pa', ln', e1, fun k k1 k2 => by rw [e2 k k1 k2, a2 k k1 k2], e3, e4, e5, e6, fun v hv h => e7 v (by simpa using h)⟩
