/-! takeSnapshot; orphans taken out and put in -/
theorem sm_upd {f g : Int → Int} {p : Int} : ∀ {d : Nat} {i : Int}, i ≤ p → p < i + d → (∀ j, i ≤ j → j < i + d → j ≠ p → g j = f j) → sm g i d = sm f i d + (g p - f p)
  | 0, i, h1, h2, _ => absurd h2 (by simp; omega)
  | d + 1, i, h1, h2, h => by
    unfold sm
    by_cases e : i = p
    · have : sm g (i + 1) d = sm f (i + 1) d := sm_cong (fun j j1 j2 => h j (by omega) (by omega) (by omega))
      rw [this, e]
      omega
    · have := sm_upd (f := f) (g := g) (p := p) (d := d) (i := i + 1) (by omega) (by omega) (fun j j1 j2 j3 => h j (by omega) (by omega) j3)
      rw [this, h i (by omega) (by omega) e]
      omega
theorem sm_pos {f : Int → Int} : ∀ {d : Nat} {i : Int}, (∀ j, i ≤ j → j < i + d → 0 ≤ f j) → 0 < sm f i d → ∃ j, i ≤ j ∧ j < i + d ∧ 0 < f j
  | 0, _, _, h => absurd h (by simp [sm])
  | d + 1, i, h0, h => by
    unfold sm at h
    by_cases e : 0 < f i
    · exact ⟨i, by omega, by omega, e⟩
    · obtain ⟨j, h1, h2, h3⟩ := sm_pos (f := f) (d := d) (i := i + 1) (fun j j1 j2 => h0 j (by omega) (by omega)) (by have := h0 i (by omega) (by omega); omega)
      exact ⟨j, by omega, by omega, h3⟩
theorem nCut_bd {n c : Int} {w : Int → Int} (hv : rv n w c) : 0 ≤ nCut n w ∧ nCut n w ≤ 100 := by
  obtain ⟨v0, -, v2, -, v4, v5, -⟩ := hv
  have h0 := v4 0 (by omega) (by omega)
  have h1 := v4 1 (by omega) (by omega)
  have h2 := v4 2 (by omega) (by omega)
  have h3 := v4 3 (by omega) (by omega)
  have h4 := v4 4 (by omega) (by omega)
  unfold rv_p at h0 h1 h2 h3 h4
  unfold nCut
  obtain e | e | e | e : n = 2 ∨ n = 3 ∨ n = 4 ∨ n = 5 := by omega
  all_goals
    subst e
    simp only [sm, show (2 : Int).toNat = 2 from rfl, show (3 : Int).toNat = 3 from rfl, show (4 : Int).toNat = 4 from rfl, show (5 : Int).toNat = 5 from rfl, Int.reduceAdd] at *
    omega
theorem nCut_u {n p v : Int} {w : Int → Int} (h0 : 0 ≤ p) (h1 : p < n) : nCut n (q_u w (20 + p) v) = nCut n w + (v - w (20 + p)) := by
  unfold nCut
  rw [sm_upd (f := fun p => w (20 + p)) (g := fun q => q_u w (20 + p) v (20 + q)) (p := p) h0 (by omega) (fun j _ _ h => u_n (by omega))]
  simp only [u_s]
theorem rv_cutu {n c p v : Int} {w : Int → Int} (hv : rv n w c) (hp : 0 ≤ p) (hp' : p < 5) (h0 : 0 ≤ v) (h1 : v ≤ w (25 + p)) : rv n (q_u w (20 + p) v) c := by
  have hv' := hv
  obtain ⟨v0, v1, v2, v3, v4, v5, v6, v7, v8, v9, v10, -⟩ := hv'
  refine rv_low hv (fun i hi => u_n (by omega)) ?_ ?_ ?_ ?_ ?_ ?_ ?_
  · exact fun j j1 j2 => by rw [u_n (by omega)]; exact v1 j j1 j2
  · intro q p1 p2
    have := v4 q p1 p2
    rw [u_n (i := 20 + p) (j := 30 + q) (by omega)]
    by_cases k : q = p
    · rw [k, u_s]; rw [k] at this; exact ⟨⟨h0, h1⟩, this.2.2⟩
    · rw [u_n (by omega)]; exact ⟨this.1, this.2.2⟩
  · exact fun j j1 j2 => by rw [u_n (by omega)]; exact v7 j j1 j2
  · rw [u_n (by omega)]; exact v8
  · rw [u_n (by omega)]; exact fun x j j1 j2 => by rw [u_n (by omega)]; exact v9 x j j1 j2
  · rw [u_n (by omega)]; exact fun x j j1 j2 => by rw [u_n (by omega)]; exact v10 x j j1 j2
  · intro j j1 j2; rw [u_n (by omega)]; exact v6.2 j j1 j2
theorem rr_cutu {o : Nat} {n p v : Int} {μ : q_M} {w : Int → Int} (hr : rr_C o n μ w) (hp : 0 ≤ p) (hp' : p < 5) : rr_C o n (q_x μ (o + 3) p v) (q_u w (20 + p) v) := by
  have hr' := hr
  obtain ⟨e0, e1, e2, e3, e4, e5, e6, -, -, e9, -⟩ := hr'
  refine rr_low hr (u_n (by omega)) (u_n (by omega)) (fun i hi => u_n (by omega)) (fun k hk => g_sn (by omega)) ?_ ?_ ?_ ?_ ?_ ?_ ?_ ?_
  · rw [g_sn (by omega)]; exact e0
  · intro j j1 j2; rw [g_sn (by omega), u_n (by omega)]; exact e1 j j1 j2
  · intro j j1 j2; rw [g_sn (by omega), u_n (by omega)]; exact e2 j j1 j2
  · intro q p1 p2
    rw [g_s (by omega)]
    by_cases k : q = p
    · rw [k, u_s, u_s]
    · rw [u_n k, u_n (by omega)]; exact e3 q p1 p2
  · intro j j1 j2; rw [g_sn (by omega), u_n (by omega)]; exact e4 j j1 j2
  · intro j j1 j2; rw [g_sn (by omega), u_n (by omega)]; exact e5 j j1 j2
  · intro j j1 j2; rw [g_sn (by omega), u_n (by omega)]; exact e6 j j1 j2
  · rw [g_sn (by omega), u_n (by omega)]; exact e9
theorem orph_t {w : Int → Int} {m : Int} (h : orph w m = true) : 0 ≤ mg w m 4 ∧ 0 ≤ mg w m 5 ∧ ev w (mg w m 5) 6 < w (20 + ev w (mg w m 5) 0) ∧ w (20 + ev w (mg w m 4) 0) ≤ ev w (mg w m 4) 6 := by
  unfold orph cutE at h
  simp only [Bool.and_eq_true, Bool.not_eq_true', decide_eq_true_eq, decide_eq_false_iff_not] at h
  omega
def loSt (w : Int → Int) (m : Int) : Int → Int := if orph w m = true then q_u w (20 + ev w (mg w m 5) 0) (ev w (mg w m 5) 6) else w
def loP : Nat → Int → (Int → Int) → Int → Int
  | 0, _, w => w
  | d + 1, i, w => loP d (i + 1) (loSt w i)
theorem loSt_rv {n c m : Int} {w : Int → Int} (hv : rv n w c) (h0 : 0 ≤ m) (h1 : m < w 37) : rv n (loSt w m) c ∧ loSt w m 37 = w 37 ∧ nCut n (loSt w m) ≤ nCut n w ∧ (orph w m = true → nCut n (loSt w m) < nCut n w) := by
  have hv' := hv
  obtain ⟨v0, -, -, -, -, -, -, -, -, -, -, vE, vM, -⟩ := hv'
  unfold loSt
  by_cases g : orph w m = true
  · obtain ⟨g4, g5, gc, gd⟩ := orph_t g
    have hm := vM m h0 h1
    have he := vE (mg w m 5) (by omega) (by have := hm.2.2.2.2.2.1; have := hm.2.2.2.2.2.2; omega)
    have he1 := he.1
    have he4 := he.2.2.2.2.1
    rw [if_pos g, nCut_u he1.1 he1.2]
    exact ⟨rv_cutu hv he1.1 (by omega) (by omega) (by omega), u_n (by omega), by omega, fun _ => by omega⟩
  · rw [if_neg g]
    exact ⟨hv, rfl, Int.le_refl _, fun h => absurd h g⟩
theorem loP_rv {n c : Int} : ∀ (d : Nat) (i : Int) (w : Int → Int), rv n w c → 0 ≤ i → i + d = w 37 → rv n (loP d i w) c ∧ loP d i w 37 = w 37 ∧ nCut n (loP d i w) ≤ nCut n w ∧ ((∃ j, i ≤ j ∧ j < w 37 ∧ orph w j = true) → nCut n (loP d i w) < nCut n w) := by
  intro d
  induction d with
  | zero =>
    intro i w hv h0 h1
    exact ⟨hv, rfl, Int.le_refl _, fun ⟨j, j1, j2, _⟩ => absurd j2 (by omega)⟩
  | succ d ih =>
    intro i w hv h0 h1
    obtain ⟨a, b, e, f⟩ := loSt_rv hv h0 (by omega)
    obtain ⟨a', b', e', f'⟩ := ih (i + 1) (loSt w i) a (by omega) (by omega)
    unfold loP
    refine ⟨a', by omega, by omega, fun ⟨j, j1, j2, j3⟩ => ?_⟩
    by_cases g : orph w i = true
    · have := f g
      omega
    · have : loSt w i = w := if_neg g
      rw [this] at f' ⊢
      exact f' ⟨j, by by_cases x : j = i; (exact absurd (x ▸ j3) g); omega, j2, j3⟩
theorem loP_M {n c : Int} {k : q_M → Option (Int × q_M)} : ∀ (d nf : Nat) (i : Int) (μ : q_M), rv n (q_g μ 1) c → 0 ≤ i → i + d = q_g μ 1 37 → d < nf → ∃ μ', f_M_lowerCut_L14 k nf i μ = k μ' ∧ (∀ k, k ≠ 1 → q_g μ' k = q_g μ k) ∧ q_g μ' 1 = loP d i (q_g μ 1) := by
  intro d
  induction d with
  | zero =>
    intro nf i μ hv h0 h1 h2
    obtain ⟨nf, rfl⟩ : ∃ m, nf = m + 1 := ⟨nf - 1, by omega⟩
    exact ⟨μ, by rw [f_M_lowerCut_L14, z_ld (by omega) (by omega), if_pos (by omega)], fun _ _ => rfl, rfl⟩
  | succ d ih =>
    intro nf i μ hv h0 h1 h2
    obtain ⟨nf, rfl⟩ : ∃ m, nf = m + 1 := ⟨nf - 1, by omega⟩
    obtain ⟨a, b, -, -⟩ := loSt_rv hv h0 (by omega)
    have hv' := hv
    obtain ⟨v0, -, v2, v3, -, -, -, -, -, -, -, vE, vM, -⟩ := hv'
    have hm := vM i h0 (by omega)
    rw [f_M_lowerCut_L14, z_ld (by omega) (by omega), if_neg (by omega), z_isOrphanM hv h0 (by omega)]
    simp only [z_b, z_jn, z_bib]
    unfold loP
    by_cases g : orph (q_g μ 1) i = true
    · obtain ⟨g4, g5, gc, gd⟩ := orph_t g
      have he := vE (mg (q_g μ 1) i 5) (by omega) (by have := hm.2.2.2.2.2.1; have := hm.2.2.2.2.2.2; omega)
      have he1 := he.1
      have he4 := he.2.2.2.2.1
      have hp := hv.2.2.2.2.1 _ he1.1 (show _ < (5 : Int) by omega)
      have hp2 := hp.2.1
      have hm4 := hm.2.2.2.2.2.1
      have hm5 := hm.2.2.2.2.2.2
      rw [g, if_neg (by simp)]
      have es : loSt (q_g μ 1) i = q_u (q_g μ 1) (20 + ev (q_g μ 1) (mg (q_g μ 1) i 5) 0) (ev (q_g μ 1) (mg (q_g μ 1) i 5) 6) := if_pos g
      simp (disch := omega) only [z_ofMessage, z_ofEvent, z_b, z_ck, z_st]
      have eg : q_g (q_x μ 1 (20 + ev (q_g μ 1) (mg (q_g μ 1) i 5) 0) (ev (q_g μ 1) (mg (q_g μ 1) i 5) 6)) 1 = loSt (q_g μ 1) i := by rw [es, g_s (by omega)]
      obtain ⟨μ', c1, c2, c3⟩ := ih nf (i + 1) (q_x μ 1 (20 + ev (q_g μ 1) (mg (q_g μ 1) i 5) 0) (ev (q_g μ 1) (mg (q_g μ 1) i 5) 6)) (by rw [eg]; exact a) (by omega) (by rw [eg, b]; omega) (by omega)
      exact ⟨μ', c1, fun k hk => by rw [c2 k hk, g_sn hk], by rw [c3, eg]⟩
    · have es : loSt (q_g μ 1) i = q_g μ 1 := if_neg g
      rw [Bool.eq_false_iff.mpr g, if_pos rfl]
      simp (disch := omega) only [z_ck]
      obtain ⟨μ', c1, c2, c3⟩ := ih nf (i + 1) μ hv (by omega) (by omega) (by omega)
      exact ⟨μ', c1, c2, by rw [c3, es]⟩
theorem loP_C {o : Nat} {n c : Int} : ∀ (d nf : Nat) (i : Int) (μ : q_M) (w : Int → Int), rr_C o n μ w → rv n w c → 0 ≤ i → i + d = w 37 → d < nf → ∃ μ', f_Wo_dropOrphanReceives_L2 o (fun μ3 => some μ3) nf i μ = some μ' ∧ (∀ k, k ≠ o + 3 → q_g μ' k = q_g μ k) ∧ rr_C o n μ' (loP d i w) := by
  intro d
  induction d with
  | zero =>
    intro nf i μ w hr hv h0 h1 h2
    obtain ⟨nf, rfl⟩ : ∃ m, nf = m + 1 := ⟨nf - 1, by omega⟩
    exact ⟨μ, by rw [f_Wo_dropOrphanReceives_L2, z_fl, Int.cast_ofNat_Int, hr.2.2.2.2.2.2.2.2.1, if_pos (by omega)], fun _ _ => rfl, hr⟩
  | succ d ih =>
    intro nf i μ w hr hv h0 h1 h2
    obtain ⟨nf, rfl⟩ : ∃ m, nf = m + 1 := ⟨nf - 1, by omega⟩
    obtain ⟨a, b, -, -⟩ := loSt_rv hv h0 (by omega)
    have hv' := hv
    obtain ⟨v0, -, v2, v3, -, -, -, -, -, -, -, vE, vM, -⟩ := hv'
    have hm := vM i h0 (by omega)
    have hr' := hr
    obtain ⟨-, -, -, -, -, -, -, -, -, -, rE, rM⟩ := hr'
    rw [f_Wo_dropOrphanReceives_L2, z_fl, Int.cast_ofNat_Int, hr.2.2.2.2.2.2.2.2.1, if_neg (by omega), z_isOrphan hr hv h0 (by omega)]
    simp only [z_b, z_jn, z_bib]
    unfold loP
    by_cases g : orph w i = true
    · obtain ⟨g4, g5, gc, gd⟩ := orph_t g
      have hm4 := hm.2.2.2.2.2.1
      have hm5 := hm.2.2.2.2.2.2
      have he := vE (mg w i 5) (by omega) (by omega)
      have he1 := he.1
      have he4 := he.2.2.2.2.1
      have hp := hv.2.2.2.2.1 _ he1.1 (show _ < (5 : Int) by omega)
      have hp2 := hp.2.1
      obtain ⟨-, -, -, r4, r5⟩ := rM i h0 (by omega)
      obtain ⟨s0, -, -, -, -, -, s6, -⟩ := rE (mg w i 5) (by omega) (by omega)
      rw [g, if_neg (by simp)]
      have es : loSt w i = q_u w (20 + ev w (mg w i 5) 0) (ev w (mg w i 5) 6) := if_pos g
      simp (disch := omega) only [z_ld, r4, r5, s0, s6, z_ck, z_st]
      obtain ⟨μ', c1, c2, c3⟩ := ih nf (i + 1) (q_x μ (o + 3) (ev w (mg w i 5) 0) (ev w (mg w i 5) 6)) (loSt w i) (by rw [es]; exact rr_cutu hr he1.1 (by omega)) a (by omega) (by omega) (by omega)
      exact ⟨μ', c1, fun k hk => by rw [c2 k hk, g_sn hk], c3⟩
    · have es : loSt w i = w := if_neg g
      rw [Bool.eq_false_iff.mpr g, if_pos rfl]
      simp (disch := omega) only [z_ck]
      obtain ⟨μ', c1, c2, c3⟩ := ih nf (i + 1) μ w hr hv (by omega) (by omega) (by omega)
      exact ⟨μ', c1, c2, by rw [es]; exact c3⟩
theorem lo_both {N : Nat} {n c : Int} (hN : 1000 ≤ N) {kC kM : q_M → Option (Int × q_M)} : ∀ (d nf nf' : Nat) (x : Int) (μC μM : q_M), rr_C 1 n μC (q_g μM 1) → rv n (q_g μM 1) c → nCut n (q_g μM 1) ≤ d → 0 ≤ x → x + d ≤ 100 → d < nf → d < nf' → ∃ μ1 μ2, f_CR_lowerCut_L10 N kC nf x μC = kC μ1 ∧ f_M_lowerCut_L5 N kM nf' μM = kM μ2 ∧ (∀ k, k ≠ 4 → q_g μ1 k = q_g μC k) ∧ (∀ k, k ≠ 1 → q_g μ2 k = q_g μM k) ∧ rr_C 1 n μ1 (q_g μ2 1) ∧ rv n (q_g μ2 1) c := by
  intro d
  induction d with
  | zero =>
    intro nf nf' x μC μM hr hv h0 h1 h2 h3 h4
    obtain ⟨nf, rfl⟩ : ∃ m, nf = m + 1 := ⟨nf - 1, by omega⟩
    obtain ⟨nf', rfl⟩ : ∃ m, nf' = m + 1 := ⟨nf' - 1, by omega⟩
    have g : nOrph (q_g μM 1) ≤ 0 := by
      refine Int.not_lt.mp fun g => ?_
      have v3 := hv.2.2.2.1
      obtain ⟨j, j1, j2, j3⟩ := sm_pos (fun j _ _ => (bi_bd _).1) g
      have jo : orph (q_g μM 1) j = true := by
        cases h : orph (q_g μM 1) j
        · rw [h] at j3; exact absurd j3 (by decide)
        · rfl
      obtain ⟨p1, p2, p3, p4⟩ := loP_rv (n := n) (c := c) (q_g μM 1 37).toNat 0 (q_g μM 1) hv (by omega) (by omega)
      have := p4 ⟨j, j1, by omega, jo⟩
      have := nCut_bd p1
      omega
    refine ⟨μC, μM, ?_, ?_, fun _ _ => rfl, fun _ _ => rfl, hr, hv⟩
    · rw [f_CR_lowerCut_L10, if_neg (by omega), z_countOrphans hN hr hv, z_b, if_pos g]
    · rw [f_M_lowerCut_L5, z_orphansNow hN hv, z_b, if_pos g]
  | succ d ih =>
    intro nf nf' x μC μM hr hv h0 h1 h2 h3 h4
    obtain ⟨nf, rfl⟩ : ∃ m, nf = m + 1 := ⟨nf - 1, by omega⟩
    obtain ⟨nf', rfl⟩ : ∃ m, nf' = m + 1 := ⟨nf' - 1, by omega⟩
    rw [f_CR_lowerCut_L10, if_neg (by omega), z_countOrphans hN hr hv, z_b, f_M_lowerCut_L5, z_orphansNow hN hv, z_b]
    by_cases g : nOrph (q_g μM 1) ≤ 0
    · rw [if_pos g, if_pos g]
      exact ⟨μC, μM, rfl, rfl, fun _ _ => rfl, fun _ _ => rfl, hr, hv⟩
    · rw [if_neg g, if_neg g]
      have v3 := hv.2.2.2.1
      obtain ⟨j, j1, j2, j3⟩ := sm_pos (fun j _ _ => (bi_bd _).1) (show 0 < sm (fun m => bi (orph (q_g μM 1) m)) 0 (q_g μM 1 37).toNat from Int.not_le.mp g)
      have jo : orph (q_g μM 1) j = true := by
        cases h : orph (q_g μM 1) j
        · rw [h] at j3; exact absurd j3 (by decide)
        · rfl
      obtain ⟨p1, p2, p3, p4⟩ := loP_rv (n := n) (c := c) (q_g μM 1 37).toNat 0 (q_g μM 1) hv (by omega) (by omega)
      have p5 := p4 ⟨j, j1, by omega, jo⟩
      obtain ⟨μ3, c1, c2, c3⟩ := loP_C (o := 1) (q_g μM 1 37).toNat N 0 μC (q_g μM 1) hr hv (by omega) (by omega) (by omega)
      obtain ⟨μ4, m1, m2, m3⟩ := loP_M (n := n) (c := c) (k := fun μ9 => f_M_lowerCut_L5 N kM nf' μ9) (q_g μM 1 37).toNat N 0 μM hv (by omega) (by omega) (by omega)
      rw [m1]
      unfold f_Wo_dropOrphanReceives
      rw [c1, z_b, z_ck (by omega) (by omega)]
      obtain ⟨μ5, μ6, r1, r2, r3, r4, r5, r6⟩ := ih nf nf' (x + 1) μ3 μ4 (by rw [m3]; exact c3) (by rw [m3]; exact p1) (by rw [m3]; omega) (by omega) (by omega) (by omega) (by omega)
      exact ⟨μ5, μ6, r1, r2, fun k hk => by rw [r3 k hk, c2 k hk], fun k hk => by rw [r4 k hk, m2 k hk], r5, r6⟩
theorem s_lowerCut {N : Nat} (hN : 6000 ≤ N) : q_st_lowerCut N vI := by
  intro c μC μM hc hI
  obtain ⟨n, hr, hv, hn, hA, hT, hU, hK⟩ := hI
  have b0 := nCut_bd hv
  unfold f_CR_lowerCut f_M_lowerCut
  rw [z_eventsInCut (by omega) hr hv, z_cutSize (by omega) hv hn, z_b, z_b]
  obtain ⟨μ1, μ2, r1, r2, r3, r4, r5, r6⟩ := lo_both (N := N) (by omega) (kC := fun μ5 => q_b (f_Wo_eventsInCut N 1 μ5) fun x14 => q_ck (nCut n (q_g μM 1) - x14) fun x15 => some (x15, μ5)) (kM := fun μ4 => q_b (f_M_cutSize N μ4) fun x14 => q_ck (nCut n (q_g μM 1) - x14) fun x15 => some (x15, μ4)) 100 N N 0 μC μM hr hv (by omega) (by omega) (by omega) (by omega) (by omega)
  have b1 := nCut_bd r6
  rw [z_eventsInCut (by omega) r5 r6, z_b, z_ck (by omega) (by omega)] at r1
  rw [z_cutSize (by omega) r6 (by rw [r4 0 (by omega)]; exact hn), z_b, z_ck (by omega) (by omega)] at r2
  exact ⟨_, μ1, μ2, r1, r2, vI_now hA hT hU hK hn hc (fun k hk => r3 k (by omega)) r4 r5 (rv_up r6 (by omega) (by omega))⟩
def raSt (w : Int → Int) (m : Int) : Int → Int := if orph w m = true then q_u w (20 + ev w (mg w m 4) 0) (ev w (mg w m 4) 6 + 1) else w
def raP : Nat → Int → (Int → Int) → Int → Int
  | 0, _, w => w
  | d + 1, i, w => raP d (i + 1) (raSt w i)
theorem raSt_rv {n c m : Int} {w : Int → Int} (hv : rv n w c) (h0 : 0 ≤ m) (h1 : m < w 37) : rv n (raSt w m) c ∧ raSt w m 37 = w 37 ∧ nCut n w ≤ nCut n (raSt w m) ∧ (orph w m = true → nCut n w < nCut n (raSt w m)) := by
  have hv' := hv
  obtain ⟨v0, -, -, -, -, -, -, -, -, -, -, vE, vM, -⟩ := hv'
  unfold raSt
  by_cases g : orph w m = true
  · obtain ⟨g4, g5, gc, gd⟩ := orph_t g
    have hm := vM m h0 h1
    have he := vE (mg w m 4) (by omega) (by have := hm.2.2.2.2.2.1; have := hm.2.2.2.2.2.2; omega)
    have he1 := he.1
    have he4 := he.2.2.2.2.1
    rw [if_pos g, nCut_u he1.1 he1.2]
    exact ⟨rv_cutu hv he1.1 (by omega) (by omega) (by omega), u_n (by omega), by omega, fun _ => by omega⟩
  · rw [if_neg g]
    exact ⟨hv, rfl, Int.le_refl _, fun h => absurd h g⟩
theorem raP_rv {n c : Int} : ∀ (d : Nat) (i : Int) (w : Int → Int), rv n w c → 0 ≤ i → i + d = w 37 → rv n (raP d i w) c ∧ raP d i w 37 = w 37 ∧ nCut n w ≤ nCut n (raP d i w) ∧ ((∃ j, i ≤ j ∧ j < w 37 ∧ orph w j = true) → nCut n w < nCut n (raP d i w)) := by
  intro d
  induction d with
  | zero =>
    intro i w hv h0 h1
    exact ⟨hv, rfl, Int.le_refl _, fun ⟨j, j1, j2, _⟩ => absurd j2 (by omega)⟩
  | succ d ih =>
    intro i w hv h0 h1
    obtain ⟨a, b, e, f⟩ := raSt_rv hv h0 (by omega)
    obtain ⟨a', b', e', f'⟩ := ih (i + 1) (raSt w i) a (by omega) (by omega)
    unfold raP
    refine ⟨a', by omega, by omega, fun ⟨j, j1, j2, j3⟩ => ?_⟩
    by_cases g : orph w i = true
    · have := f g
      omega
    · have : raSt w i = w := if_neg g
      rw [this] at f' ⊢
      exact f' ⟨j, by by_cases x : j = i; (exact absurd (x ▸ j3) g); omega, j2, j3⟩
theorem raP_M {n c : Int} {k : q_M → Option (Int × q_M)} : ∀ (d nf : Nat) (i : Int) (μ : q_M), rv n (q_g μ 1) c → 0 ≤ i → i + d = q_g μ 1 37 → d < nf → ∃ μ', f_M_raiseCut_L14 k nf i μ = k μ' ∧ (∀ k, k ≠ 1 → q_g μ' k = q_g μ k) ∧ q_g μ' 1 = raP d i (q_g μ 1) := by
  intro d
  induction d with
  | zero =>
    intro nf i μ hv h0 h1 h2
    obtain ⟨nf, rfl⟩ : ∃ m, nf = m + 1 := ⟨nf - 1, by omega⟩
    exact ⟨μ, by rw [f_M_raiseCut_L14, z_ld (by omega) (by omega), if_pos (by omega)], fun _ _ => rfl, rfl⟩
  | succ d ih =>
    intro nf i μ hv h0 h1 h2
    obtain ⟨nf, rfl⟩ : ∃ m, nf = m + 1 := ⟨nf - 1, by omega⟩
    obtain ⟨a, b, -, -⟩ := raSt_rv hv h0 (by omega)
    have hv' := hv
    obtain ⟨v0, -, v2, v3, -, -, -, -, -, -, -, vE, vM, -⟩ := hv'
    have hm := vM i h0 (by omega)
    rw [f_M_raiseCut_L14, z_ld (by omega) (by omega), if_neg (by omega), z_isOrphanM hv h0 (by omega)]
    simp only [z_b, z_jn, z_bib]
    unfold raP
    by_cases g : orph (q_g μ 1) i = true
    · obtain ⟨g4, g5, gc, gd⟩ := orph_t g
      have he := vE (mg (q_g μ 1) i 4) (by omega) (by have := hm.2.2.2.2.2.1; have := hm.2.2.2.2.2.2; omega)
      have he1 := he.1
      have he4 := he.2.2.2.2.1
      have hp := hv.2.2.2.2.1 _ he1.1 (show _ < (5 : Int) by omega)
      have hp2 := hp.2.1
      have hm4 := hm.2.2.2.2.2.1
      have hm5 := hm.2.2.2.2.2.2
      rw [g, if_neg (by simp)]
      have es : raSt (q_g μ 1) i = q_u (q_g μ 1) (20 + ev (q_g μ 1) (mg (q_g μ 1) i 4) 0) (ev (q_g μ 1) (mg (q_g μ 1) i 4) 6 + 1) := if_pos g
      simp (disch := omega) only [z_ofMessage, z_ofEvent, z_b, z_ck, z_st]
      have eg : q_g (q_x μ 1 (20 + ev (q_g μ 1) (mg (q_g μ 1) i 4) 0) (ev (q_g μ 1) (mg (q_g μ 1) i 4) 6 + 1)) 1 = raSt (q_g μ 1) i := by rw [es, g_s (by omega)]
      obtain ⟨μ', c1, c2, c3⟩ := ih nf (i + 1) (q_x μ 1 (20 + ev (q_g μ 1) (mg (q_g μ 1) i 4) 0) (ev (q_g μ 1) (mg (q_g μ 1) i 4) 6 + 1)) (by rw [eg]; exact a) (by omega) (by rw [eg, b]; omega) (by omega)
      exact ⟨μ', c1, fun k hk => by rw [c2 k hk, g_sn hk], by rw [c3, eg]⟩
    · have es : raSt (q_g μ 1) i = q_g μ 1 := if_neg g
      rw [Bool.eq_false_iff.mpr g, if_pos rfl]
      simp (disch := omega) only [z_ck]
      obtain ⟨μ', c1, c2, c3⟩ := ih nf (i + 1) μ hv (by omega) (by omega) (by omega)
      exact ⟨μ', c1, c2, by rw [c3, es]⟩
theorem raP_C {o : Nat} {n c : Int} : ∀ (d nf : Nat) (i : Int) (μ : q_M) (w : Int → Int), rr_C o n μ w → rv n w c → 0 ≤ i → i + d = w 37 → d < nf → ∃ μ', f_Wo_includeOrphanSends_L2 o (fun μ3 => some μ3) nf i μ = some μ' ∧ (∀ k, k ≠ o + 3 → q_g μ' k = q_g μ k) ∧ rr_C o n μ' (raP d i w) := by
  intro d
  induction d with
  | zero =>
    intro nf i μ w hr hv h0 h1 h2
    obtain ⟨nf, rfl⟩ : ∃ m, nf = m + 1 := ⟨nf - 1, by omega⟩
    exact ⟨μ, by rw [f_Wo_includeOrphanSends_L2, z_fl, Int.cast_ofNat_Int, hr.2.2.2.2.2.2.2.2.1, if_pos (by omega)], fun _ _ => rfl, hr⟩
  | succ d ih =>
    intro nf i μ w hr hv h0 h1 h2
    obtain ⟨nf, rfl⟩ : ∃ m, nf = m + 1 := ⟨nf - 1, by omega⟩
    obtain ⟨a, b, -, -⟩ := raSt_rv hv h0 (by omega)
    have hv' := hv
    obtain ⟨v0, -, v2, v3, -, -, -, -, -, -, -, vE, vM, -⟩ := hv'
    have hm := vM i h0 (by omega)
    have hr' := hr
    obtain ⟨-, -, -, -, -, -, -, -, -, -, rE, rM⟩ := hr'
    rw [f_Wo_includeOrphanSends_L2, z_fl, Int.cast_ofNat_Int, hr.2.2.2.2.2.2.2.2.1, if_neg (by omega), z_isOrphan hr hv h0 (by omega)]
    simp only [z_b, z_jn, z_bib]
    unfold raP
    by_cases g : orph w i = true
    · obtain ⟨g4, g5, gc, gd⟩ := orph_t g
      have hm4 := hm.2.2.2.2.2.1
      have hm5 := hm.2.2.2.2.2.2
      have he := vE (mg w i 4) (by omega) (by omega)
      have he1 := he.1
      have he4 := he.2.2.2.2.1
      have hp := hv.2.2.2.2.1 _ he1.1 (show _ < (5 : Int) by omega)
      have hp2 := hp.2.1
      obtain ⟨-, -, -, r4, r5⟩ := rM i h0 (by omega)
      obtain ⟨s0, -, -, -, -, -, s6, -⟩ := rE (mg w i 4) (by omega) (by omega)
      rw [g, if_neg (by simp)]
      have es : raSt w i = q_u w (20 + ev w (mg w i 4) 0) (ev w (mg w i 4) 6 + 1) := if_pos g
      simp (disch := omega) only [z_ld, r4, r5, s0, s6, z_ck, z_st]
      obtain ⟨μ', c1, c2, c3⟩ := ih nf (i + 1) (q_x μ (o + 3) (ev w (mg w i 4) 0) (ev w (mg w i 4) 6 + 1)) (raSt w i) (by rw [es]; exact rr_cutu hr he1.1 (by omega)) a (by omega) (by omega) (by omega)
      exact ⟨μ', c1, fun k hk => by rw [c2 k hk, g_sn hk], c3⟩
    · have es : raSt w i = w := if_neg g
      rw [Bool.eq_false_iff.mpr g, if_pos rfl]
      simp (disch := omega) only [z_ck]
      obtain ⟨μ', c1, c2, c3⟩ := ih nf (i + 1) μ w hr hv (by omega) (by omega) (by omega)
      exact ⟨μ', c1, c2, by rw [es]; exact c3⟩
theorem ra_both {N : Nat} {n c : Int} (hN : 1000 ≤ N) {kC kM : q_M → Option (Int × q_M)} : ∀ (d nf nf' : Nat) (x : Int) (μC μM : q_M), rr_C 1 n μC (q_g μM 1) → rv n (q_g μM 1) c → 100 - nCut n (q_g μM 1) ≤ d → 0 ≤ x → x + d ≤ 100 → d < nf → d < nf' → ∃ μ1 μ2, f_CR_raiseCut_L10 N kC nf x μC = kC μ1 ∧ f_M_raiseCut_L5 N kM nf' μM = kM μ2 ∧ (∀ k, k ≠ 4 → q_g μ1 k = q_g μC k) ∧ (∀ k, k ≠ 1 → q_g μ2 k = q_g μM k) ∧ rr_C 1 n μ1 (q_g μ2 1) ∧ rv n (q_g μ2 1) c := by
  intro d
  induction d with
  | zero =>
    intro nf nf' x μC μM hr hv h0 h1 h2 h3 h4
    obtain ⟨nf, rfl⟩ : ∃ m, nf = m + 1 := ⟨nf - 1, by omega⟩
    obtain ⟨nf', rfl⟩ : ∃ m, nf' = m + 1 := ⟨nf' - 1, by omega⟩
    have g : nOrph (q_g μM 1) ≤ 0 := by
      refine Int.not_lt.mp fun g => ?_
      have v3 := hv.2.2.2.1
      obtain ⟨j, j1, j2, j3⟩ := sm_pos (fun j _ _ => (bi_bd _).1) g
      have jo : orph (q_g μM 1) j = true := by
        cases h : orph (q_g μM 1) j
        · rw [h] at j3; exact absurd j3 (by decide)
        · rfl
      obtain ⟨p1, p2, p3, p4⟩ := raP_rv (n := n) (c := c) (q_g μM 1 37).toNat 0 (q_g μM 1) hv (by omega) (by omega)
      have := p4 ⟨j, j1, by omega, jo⟩
      have := nCut_bd p1
      omega
    refine ⟨μC, μM, ?_, ?_, fun _ _ => rfl, fun _ _ => rfl, hr, hv⟩
    · rw [f_CR_raiseCut_L10, if_neg (by omega), z_countOrphans hN hr hv, z_b, if_pos g]
    · rw [f_M_raiseCut_L5, z_orphansNow hN hv, z_b, if_pos g]
  | succ d ih =>
    intro nf nf' x μC μM hr hv h0 h1 h2 h3 h4
    obtain ⟨nf, rfl⟩ : ∃ m, nf = m + 1 := ⟨nf - 1, by omega⟩
    obtain ⟨nf', rfl⟩ : ∃ m, nf' = m + 1 := ⟨nf' - 1, by omega⟩
    rw [f_CR_raiseCut_L10, if_neg (by omega), z_countOrphans hN hr hv, z_b, f_M_raiseCut_L5, z_orphansNow hN hv, z_b]
    by_cases g : nOrph (q_g μM 1) ≤ 0
    · rw [if_pos g, if_pos g]
      exact ⟨μC, μM, rfl, rfl, fun _ _ => rfl, fun _ _ => rfl, hr, hv⟩
    · rw [if_neg g, if_neg g]
      have v3 := hv.2.2.2.1
      obtain ⟨j, j1, j2, j3⟩ := sm_pos (fun j _ _ => (bi_bd _).1) (show 0 < sm (fun m => bi (orph (q_g μM 1) m)) 0 (q_g μM 1 37).toNat from Int.not_le.mp g)
      have jo : orph (q_g μM 1) j = true := by
        cases h : orph (q_g μM 1) j
        · rw [h] at j3; exact absurd j3 (by decide)
        · rfl
      obtain ⟨p1, p2, p3, p4⟩ := raP_rv (n := n) (c := c) (q_g μM 1 37).toNat 0 (q_g μM 1) hv (by omega) (by omega)
      have p5 := p4 ⟨j, j1, by omega, jo⟩
      obtain ⟨μ3, c1, c2, c3⟩ := raP_C (o := 1) (q_g μM 1 37).toNat N 0 μC (q_g μM 1) hr hv (by omega) (by omega) (by omega)
      obtain ⟨μ4, m1, m2, m3⟩ := raP_M (n := n) (c := c) (k := fun μ9 => f_M_raiseCut_L5 N kM nf' μ9) (q_g μM 1 37).toNat N 0 μM hv (by omega) (by omega) (by omega)
      rw [m1]
      unfold f_Wo_includeOrphanSends
      rw [c1, z_b, z_ck (by omega) (by omega)]
      obtain ⟨μ5, μ6, r1, r2, r3, r4, r5, r6⟩ := ih nf nf' (x + 1) μ3 μ4 (by rw [m3]; exact c3) (by rw [m3]; exact p1) (by rw [m3]; omega) (by omega) (by omega) (by omega) (by omega)
      exact ⟨μ5, μ6, r1, r2, fun k hk => by rw [r3 k hk, c2 k hk], fun k hk => by rw [r4 k hk, m2 k hk], r5, r6⟩
theorem s_raiseCut {N : Nat} (hN : 6000 ≤ N) : q_st_raiseCut N vI := by
  intro c μC μM hc hI
  obtain ⟨n, hr, hv, hn, hA, hT, hU, hK⟩ := hI
  have b0 := nCut_bd hv
  unfold f_CR_raiseCut f_M_raiseCut
  rw [z_eventsInCut (by omega) hr hv, z_cutSize (by omega) hv hn, z_b, z_b]
  obtain ⟨μ1, μ2, r1, r2, r3, r4, r5, r6⟩ := ra_both (N := N) (by omega) (kC := fun μ5 => q_b (f_Wo_eventsInCut N 1 μ5) fun x14 => q_ck (x14 - nCut n (q_g μM 1)) fun x15 => some (x15, μ5)) (kM := fun μ4 => q_b (f_M_cutSize N μ4) fun x14 => q_ck (x14 - nCut n (q_g μM 1)) fun x15 => some (x15, μ4)) 100 N N 0 μC μM hr hv (by omega) (by omega) (by omega) (by omega) (by omega)
  have b1 := nCut_bd r6
  rw [z_eventsInCut (by omega) r5 r6, z_b, z_ck (by omega) (by omega)] at r1
  rw [z_cutSize (by omega) r6 (by rw [r4 0 (by omega)]; exact hn), z_b, z_ck (by omega) (by omega)] at r2
  exact ⟨_, μ1, μ2, r1, r2, vI_now hA hT hU hK hn hc (fun k hk => r3 k (by omega)) r4 r5 (rv_up r6 (by omega) (by omega))⟩
def wTake (w : Int → Int) (n : Int) : Int → Int := fun i => if 20 ≤ i ∧ i < 20 + n then w (i + 10) else w i
theorem wTake_i {w : Int → Int} {n i : Int} : wTake w n i = if 20 ≤ i ∧ i < 20 + n then w (i + 10) else w i := rfl
theorem s_takeSnapshot {N : Nat} (hN : 6000 ≤ N) : q_st_takeSnapshot N vI := by
  intro c μC μM hc hI
  have hI' := hI
  obtain ⟨n, hr, hv, hn, hA, hT, hU, hK⟩ := hI
  have hr' := hr
  have hv' := hv
  obtain ⟨e0, e1, e2, e3, e4, e5, e6, e7, e8, e9, -⟩ := hr'
  obtain ⟨v0, v1, v2, v3, v4, v5, v6, v7, v8, v9, v10, -⟩ := hv'
  have e9' : q_g μC 22 0 = q_g μM 1 35 := e9
  simp (disch := omega) only [f_CR_takeSnapshot, f_M_takeSnapshot, z_fl, Int.cast_ofNat_Int, e9', z_ld]
  by_cases g1 : q_g μM 1 35 = 2
  · rw [if_pos g1, if_pos g1]
    obtain ⟨μ1, a1, aP, a2, a3⟩ := lp_wr (F := f_CR_takeSnapshot_L19 fun μ4 => q_b (f_Wo_eventsInCut N 1 μ4) fun x11 => some (x11, μ4)) (E := fun μ4 => q_b (f_Wo_eventsInCut N 1 μ4) fun x11 => some (x11, μ4)) (k := 4) (b := n) (off := 0) (fun i => q_g μM 1 (30 + i)) (fun μ => q_g μ 1 0 = n ∧ q_g μ 23 = q_g μC 23) (by omega) (fun nf μ h => by rw [f_CR_takeSnapshot_L19, z_fl, Int.cast_ofNat_Int, h.1, if_pos (Int.le_refl _)]) (fun nf i μ h h1 h2 => by
      refine ⟨?_, by rw [g_sn (by omega)]; exact h.1, by rw [g_sn (by omega)]; exact h.2⟩
      rw [f_CR_takeSnapshot_L19, z_fl, Int.cast_ofNat_Int, h.1, if_neg (by omega)]
      simp (disch := omega) only [z_ld, z_ck, z_st, h.2, Int.zero_add]
      rw [show (23 : Nat) = 1 + 22 from rfl, e5 i h1 (by omega)]) n.toNat N 0 μC (by omega) (by omega) (by omega) ⟨e0, rfl⟩
    obtain ⟨μ2, b1, bP, b2, b3⟩ := lp_wr (F := f_M_takeSnapshot_L16 fun μ4 => q_b (f_M_cutSize N μ4) fun x13 => some (x13, μ4)) (E := fun μ4 => q_b (f_M_cutSize N μ4) fun x13 => some (x13, μ4)) (k := 1) (b := n) (off := 20) (fun i => q_g μM 1 (30 + i)) (fun μ => q_g μ 0 0 = n ∧ ∀ j, 30 ≤ j → j < 35 → q_g μ 1 j = q_g μM 1 j) (by omega) (fun nf μ h => by rw [f_M_takeSnapshot_L16, z_fl, Int.cast_ofNat_Int, h.1, if_pos (Int.le_refl _)]) (fun nf i μ h h1 h2 => by
      refine ⟨?_, by rw [g_sn (by omega)]; exact h.1, fun j j1 j2 => by rw [g_s (by omega), u_n (by omega)]; exact h.2 j j1 j2⟩
      rw [f_M_takeSnapshot_L16, z_fl, Int.cast_ofNat_Int, h.1, if_neg (by omega)]
      simp (disch := omega) only [z_ld, z_ck, z_st, h.2]) n.toNat N 0 μM (by omega) (by omega) (by omega) ⟨hn, fun _ _ _ => rfl⟩
    have hw : q_g μ2 1 = wTake (q_g μM 1) n := by
      funext i
      rw [b3, wTake_i]
      by_cases l : 20 ≤ i ∧ i < 20 + n
      · rw [if_pos (by omega), if_pos l, show 30 + (i - 20) = i + 10 by omega]
      · rw [if_neg (by omega), if_neg l]
    have hv1 : rv n (wTake (q_g μM 1) n) c := by
      refine rv_low hv (fun i hi => by rw [wTake_i, if_neg (by omega)]) ?_ ?_ ?_ ?_ ?_ ?_ ?_
      · intro j j1 j2; rw [wTake_i, if_neg (by omega)]; exact v1 j j1 j2
      · intro p p1 p2
        have x := v4 p p1 p2
        rw [wTake_i, wTake_i, if_neg (by omega : ¬ (20 ≤ 30 + p ∧ 30 + p < 20 + n))]
        refine ⟨?_, x.2.2⟩
        by_cases l : p < n
        · have y := v10 g1 p p1 l
          have z := x.2.2.2
          rw [if_pos (by omega), show 20 + p + 10 = 30 + p by omega]
          exact ⟨y, z⟩
        · rw [if_neg (by omega)]; exact x.1
      · intro j j1 j2; rw [wTake_i, if_neg (by omega)]; exact v7 j j1 j2
      · rw [wTake_i, if_neg (by omega)]; exact v8
      · rw [wTake_i, if_neg (by omega)]
        exact fun x j j1 j2 => by rw [wTake_i, if_neg (by omega)]; exact v9 x j j1 j2
      · rw [wTake_i, if_neg (by omega)]
        exact fun x j j1 j2 => by rw [wTake_i, if_neg (by omega)]; exact v10 x j j1 j2
      · intro j j1 j2; rw [wTake_i, if_neg (by omega)]; exact v6.2 j j1 j2
    have hr1 : rr_C 1 n μ1 (wTake (q_g μM 1) n) := by
      refine rr_low hr (by rw [wTake_i, if_neg (by omega)]) (by rw [wTake_i, if_neg (by omega)]) (fun i hi => by rw [wTake_i, if_neg (by omega)]) (fun k hk => a2 _ (by omega)) aP.1 ?_ ?_ ?_ ?_ ?_ ?_ ?_
      · intro j j1 j2; rw [wTake_i, if_neg (by omega), a2 _ (by omega)]; exact e1 j j1 j2
      · intro j j1 j2; rw [wTake_i, if_neg (by omega), a2 _ (by omega)]; exact e2 j j1 j2
      · intro j j1 j2
        rw [show 1 + 3 = 4 from rfl, a3, wTake_i]
        by_cases l : j < n
        · rw [if_pos (by omega), if_pos (by omega), show 30 + (j - 0) = 20 + j + 10 by omega]
        · rw [if_neg (by omega), if_neg (by omega)]
          exact e3 j j1 j2
      · intro j j1 j2; rw [wTake_i, if_neg (by omega), a2 _ (by omega)]; exact e4 j j1 j2
      · intro j j1 j2; rw [wTake_i, if_neg (by omega), a2 _ (by omega)]; exact e5 j j1 j2
      · intro j j1 j2; rw [wTake_i, if_neg (by omega), a2 _ (by omega)]; exact e6 j j1 j2
      · rw [wTake_i, if_neg (by omega), a2 _ (by omega)]; exact e9
    rw [z_eventsInCut (by omega) hr1 hv1, z_b] at a1
    rw [z_cutSize (by omega) (by rw [hw]; exact hv1) bP.1, z_b, hw] at b1
    exact ⟨_, μ1, μ2, a1, b1, vI_now hA hT hU hK hn hc (fun k hk => a2 k (by omega)) b2 (by rw [hw]; exact hr1) (by rw [hw]; exact rv_up hv1 (by omega) (by omega))⟩
  · rw [if_neg g1, if_neg g1]
    exact ⟨_, _, _, rfl, rfl, vI_up hc hI'⟩
