/-! the class's flow: rooms, prices, ways -/
def cB (LO HI PR X : Int → Int → Int) : Prop := ∀ u v, nd u → nd v → (0 ≤ LO u v ∧ LO u v ≤ X u v ∧ X u v ≤ HI u v ∧ HI u v ≤ 1000000) ∧ 0 ≤ PR u v ∧ PR u v < 2199023255552
def cM (o : Nat) (μ : q_M) (LO HI PR X : Int → Int → Int) : Prop := ∀ u v, nd u → nd v → q_g μ (o + 1) (u * 7 + v) = X u v ∧ q_g μ (o + 2) (u * 7 + v) = LO u v ∧ q_g μ (o + 3) (u * 7 + v) = HI u v ∧ q_g μ (o + 4) (u * 7 + v) = PR u v
def rmC (LO HI X : Int → Int → Int) (u v : Int) : Int := if LO v u < X v u then X v u - LO v u else HI u v - X u v
def prC (LO PR X : Int → Int → Int) (u v : Int) : Int := if LO v u < X v u then -PR v u else PR u v
def okC (LO HI X : Int → Int → Int) (w : Int) : Prop := (0 ≤ w ∧ w < 49) ∧ w / 7 ≠ w % 7 ∧ 0 < rmC LO HI X (w / 7) (w % 7)
def wfC (w : Int) : Int := w / 7
def wtC (w : Int) : Int := w % 7
def wpC (LO PR X : Int → Int → Int) (w : Int) : Int := prC LO PR X (w / 7) (w % 7)
theorem cM_fr {o : Nat} {μ μ' : q_M} {LO HI PR X : Int → Int → Int} (h : cM o μ LO HI PR X) (hf : ∀ k, k ≠ o + 6 → k ≠ o + 7 → q_g μ' k = q_g μ k) : cM o μ' LO HI PR X := by
  intro u v hu hv
  rw [hf _ (by omega) (by omega), hf _ (by omega) (by omega), hf _ (by omega) (by omega), hf _ (by omega) (by omega)]
  exact h u v hu hv
theorem wN_C {LO HI X : Int → Int → Int} : wN (okC LO HI X) wfC wtC := by
  intro w h
  obtain ⟨⟨a, b⟩, c, -⟩ := h
  exact ⟨a, ⟨by unfold wfC; omega, by unfold wfC; omega⟩, ⟨by unfold wtC; omega, by unfold wtC; omega⟩, c⟩
theorem okC_i {LO HI X : Int → Int → Int} {u v : Int} (hu : nd u) (hv : nd v) : okC LO HI X (u * 7 + v) ↔ (u ≠ v ∧ 0 < rmC LO HI X u v) := by
  have h1 := hu.1
  have h2 := hu.2
  have h3 := hv.1
  have h4 := hv.2
  unfold okC
  rw [show (u * 7 + v) / 7 = u by omega, show (u * 7 + v) % 7 = v by omega]
  exact ⟨fun h => h.2, fun h => ⟨by omega, h⟩⟩
theorem z_arc {u v : Int} {μ : q_M} (hu : nd u) (hv : nd v) : f_Fl_arc u v μ = some (u * 7 + v) := by
  have h1 := hu.1
  have h2 := hu.2
  have h3 := hv.1
  have h4 := hv.2
  simp (disch := omega) only [f_Fl_arc, z_ck]
theorem z_take {o : Nat} {u v : Int} {μ : q_M} {LO HI PR X : Int → Int → Int} (hM : cM o μ LO HI PR X) (hu : nd u) (hv : nd v) : f_Fl_canTakeBack o (u * 7 + v) μ = some (if LO u v < X u v then 1 else 0) := by
  have h1 := hu.1
  have h2 := hu.2
  have h3 := hv.1
  have h4 := hv.2
  obtain ⟨a, b, -⟩ := hM u v hu hv
  unfold f_Fl_canTakeBack
  simp (disch := omega) only [z_ld, z_jn, z_rz0, z_rz1, a, b]
  by_cases g : LO u v < X u v
  · rw [if_neg (by omega), if_pos g]
  · rw [if_pos (by omega), if_neg g]
theorem z_room {o : Nat} {u v : Int} {μ : q_M} {LO HI PR X : Int → Int → Int} (hM : cM o μ LO HI PR X) (hB : cB LO HI PR X) (hu : nd u) (hv : nd v) : f_Fl_room o u v μ = some (rmC LO HI X u v) := by
  have h1 := hu.1
  have h2 := hu.2
  have h3 := hv.1
  have h4 := hv.2
  obtain ⟨a, b, c, -⟩ := hM v u hv hu
  obtain ⟨a', b', c', -⟩ := hM u v hu hv
  have b1 := (hB u v hu hv).1
  have b2 := (hB v u hv hu).1
  unfold f_Fl_room rmC
  simp only [z_arc hu hv, z_arc hv hu, z_b, z_take hM hv hu, z_jn]
  by_cases g : LO v u < X v u
  · rw [if_pos g, if_pos g, if_neg (by decide), z_ld (by omega) (by omega), z_ld (by omega) (by omega), a, b, z_ck (by omega) (by omega)]
  · rw [if_neg g, if_neg g, if_pos rfl, z_ld (by omega) (by omega), z_ld (by omega) (by omega), a', c', z_ck (by omega) (by omega)]
theorem z_price {o : Nat} {u v : Int} {μ : q_M} {LO HI PR X : Int → Int → Int} (hM : cM o μ LO HI PR X) (hB : cB LO HI PR X) (hu : nd u) (hv : nd v) : f_Fl_price o u v μ = some (prC LO PR X u v) := by
  have h1 := hu.1
  have h2 := hu.2
  have h3 := hv.1
  have h4 := hv.2
  obtain ⟨-, -, -, c⟩ := hM v u hv hu
  obtain ⟨-, -, -, c'⟩ := hM u v hu hv
  have b1 := (hB u v hu hv).2
  have b2 := (hB v u hv hu).2
  unfold f_Fl_price prC
  simp only [z_arc hu hv, z_arc hv hu, z_b, z_take hM hv hu, z_jn]
  by_cases g : LO v u < X v u
  · rw [if_pos g, if_pos g, if_neg (by decide), z_ld (by omega) (by omega), c, z_cl (by omega) (by omega)]
  · rw [if_neg g, if_neg g, if_pos rfl, z_ld (by omega) (by omega), c']
theorem prC_bd {LO HI PR X : Int → Int → Int} {u v : Int} (hB : cB LO HI PR X) (hu : nd u) (hv : nd v) : -2199023255552 < prC LO PR X u v ∧ prC LO PR X u v < 2199023255552 := by
  have b1 := (hB u v hu hv).2
  have b2 := (hB v u hv hu).2
  unfold prC
  by_cases g : LO v u < X v u
  · rw [if_pos g]; omega
  · rw [if_neg g]; omega
def wR (o : Nat) (μ : q_M) (d : Int → Int) (rc : Int → Bool) (pa : Int → Int) : Prop := ∀ v, nd v → q_g μ (o + 6) v = (if rc v = true then d v else 1152921504606846976) ∧ q_g μ (o + 7) v = (if pa v = -1 then -1 else pa v / 7)
def bdW (C : Int) (d : Int → Int) (rc : Int → Bool) : Prop := ∀ v, nd v → rc v = true → -C ≤ d v ∧ d v ≤ C
theorem lc_lt {α : Type} {x y : Int} {a b : Option α} : q_lc x y (fun z => if 0 ≤ z then a else b) = if x < y then b else a := by
  unfold q_lc
  by_cases g : y < x
  · rw [if_pos g, if_neg (show ¬ x < y by omega)]; rfl
  · by_cases e : x = y
    · rw [if_neg g, if_pos e, if_neg (show ¬ x < y by omega)]; rfl
    · rw [if_neg g, if_neg e, if_pos (show x < y by omega)]; rfl
theorem rowC {o : Nat} {LO HI PR X : Int → Int → Int} {src : Int → Prop} {K : Int → q_M → Option (Int × q_M)} {u C : Int} (hB : cB LO HI PR X) (hu : nd u) (hC : 0 ≤ C ∧ C ≤ 562949953421312) : ∀ (dd nf : Nat) (i x : Int) (μ : q_M) (d : Int → Int) (rc : Int → Bool) (pa : Int → Int) (ln : Int → Nat), i + dd = 7 → 0 ≤ i → dd < nf → (x = 0 ∨ x = 1) → cM o μ LO HI PR X → wR o μ d rc pa → wI (okC LO HI X) wfC wtC (wpC LO PR X) src d rc pa ln → (-C ≤ d u ∧ d u ≤ C) → bdW (C + 2199023255552) d rc → rc u = true →
    ∃ x' μ' d' rc' pa' ln', f_Fl_shortenFrom_L4 o u K nf x i μ = K x' μ' ∧ (x' = 0 ∨ x' = 1) ∧ (∀ k, k ≠ o + 6 → k ≠ o + 7 → q_g μ' k = q_g μ k) ∧ wR o μ' d' rc' pa' ∧ wI (okC LO HI X) wfC wtC (wpC LO PR X) src d' rc' pa' ln' ∧ bdW (C + 2199023255552) d' rc' ∧ (∀ v, rc v = true → rc' v = true ∧ d' v ≤ d v) ∧ (d' u = d u ∧ rc' u = true) ∧ (∀ v, nd v → i ≤ v → okC LO HI X (u * 7 + v) → rc' v = true ∧ d' v ≤ d u + prC LO PR X u v) ∧ (x' = 0 → x = 0 ∧ d' = d ∧ rc' = rc) ∧ ((∀ v, nd v → i ≤ v → okC LO HI X (u * 7 + v) → rc v = true ∧ d v ≤ d u + prC LO PR X u v) → x' = x) := by
  intro dd
  have hu1 := hu.1
  have hu2 := hu.2
  induction dd with
  | zero =>
    intro nf i x μ d rc pa ln h1 h2 h3 hx hM hR hI hd hb hr
    obtain ⟨nf, rfl⟩ : ∃ m, nf = m + 1 := ⟨nf - 1, by omega⟩
    refine ⟨x, μ, d, rc, pa, ln, ?_, hx, fun _ _ _ => rfl, hR, hI, hb, fun v hv => ⟨hv, Int.le_refl _⟩, ⟨rfl, hr⟩, fun v hv hiv _ => ?_, fun e => ⟨e, rfl, rfl⟩, fun _ => rfl⟩
    · rw [f_Fl_shortenFrom_L4, if_pos (by omega)]
    · have := hv.2
      omega
  | succ dd ih =>
    intro nf i x μ d rc pa ln h1 h2 h3 hx hM hR hI hd hb hr
    obtain ⟨nf, rfl⟩ : ∃ m, nf = m + 1 := ⟨nf - 1, by omega⟩
    have hi : nd i := ⟨h2, by omega⟩
    rw [f_Fl_shortenFrom_L4, if_neg (by omega)]
    simp only [z_jn]
    -- the step that leaves everything
    have skip : (okC LO HI X (u * 7 + i) → rc i = true ∧ d i ≤ d u + prC LO PR X u i) → ∃ x' μ' d' rc' pa' ln', (q_ck (i + 1) fun x8 => f_Fl_shortenFrom_L4 o u K nf x x8 μ) = K x' μ' ∧ (x' = 0 ∨ x' = 1) ∧ (∀ k, k ≠ o + 6 → k ≠ o + 7 → q_g μ' k = q_g μ k) ∧ wR o μ' d' rc' pa' ∧ wI (okC LO HI X) wfC wtC (wpC LO PR X) src d' rc' pa' ln' ∧ bdW (C + 2199023255552) d' rc' ∧ (∀ v, rc v = true → rc' v = true ∧ d' v ≤ d v) ∧ (d' u = d u ∧ rc' u = true) ∧ (∀ v, nd v → i ≤ v → okC LO HI X (u * 7 + v) → rc' v = true ∧ d' v ≤ d u + prC LO PR X u v) ∧ (x' = 0 → x = 0 ∧ d' = d ∧ rc' = rc) ∧ ((∀ v, nd v → i ≤ v → okC LO HI X (u * 7 + v) → rc v = true ∧ d v ≤ d u + prC LO PR X u v) → x' = x) := by
      intro hs
      obtain ⟨x', μ', d', rc', pa', ln', e1, e2, e3, e4, e5, e6, e7, e8, e9, e10, e11⟩ := ih nf (i + 1) x μ d rc pa ln (by omega) (by omega) (by omega) hx hM hR hI hd hb hr
      refine ⟨x', μ', d', rc', pa', ln', by rw [z_ck (by omega) (by omega)]; exact e1, e2, e3, e4, e5, e6, e7, e8, fun v hv hiv hok => ?_, e10, fun h => e11 (fun v hv hiv hok => h v hv (by omega) hok)⟩
      by_cases g : v = i
      · rw [g] at hok ⊢
        have := hs hok
        have h7 := e7 i this.1
        exact ⟨h7.1, by omega⟩
      · exact e9 v hv (by omega) hok
    by_cases e : i = u
    · rw [if_pos e]
      refine skip (fun h => ?_)
      rw [okC_i hu hi] at h
      exact absurd e.symm h.1
    · rw [if_neg e, z_room hM hB hu hi, z_b]
      by_cases g : rmC LO HI X u i ≤ 0
      · rw [if_pos g]
        refine skip (fun h => ?_)
        rw [okC_i hu hi] at h
        omega
      · rw [if_neg g]
        have hok : okC LO HI X (u * 7 + i) := (okC_i hu hi).mpr ⟨fun q => e q.symm, by omega⟩
        have hp := prC_bd hB hu hi
        have hRu := (hR u hu).1
        have hRi := (hR i hi).1
        rw [if_pos hr] at hRu
        rw [z_ld (by omega) (by omega), hRu, z_price hM hB hu hi, z_b, z_cl (by omega) (by omega), z_ld (by omega) (by omega), hRi, lc_lt]
        by_cases g2 : d u + prC LO PR X u i < (if rc i = true then d i else 1152921504606846976)
        · rw [if_pos g2, z_ld (by omega) (by omega), hRu, z_b, z_cl (by omega) (by omega), z_st (by omega) (by omega), z_st (by omega) (by omega)]
          have hw : wfC (u * 7 + i) = u ∧ wtC (u * 7 + i) = i ∧ wpC LO PR X (u * 7 + i) = prC LO PR X u i := by
            have := hi.2
            unfold wfC wtC wpC
            rw [show (u * 7 + i) / 7 = u by omega, show (u * 7 + i) % 7 = i by omega]
            exact ⟨rfl, rfl, rfl⟩
          have hl : rc (wtC (u * 7 + i)) = false ∨ d (wfC (u * 7 + i)) + wpC LO PR X (u * 7 + i) < d (wtC (u * 7 + i)) := by
            rw [hw.1, hw.2.1, hw.2.2]
            cases q : rc i with
            | false => exact Or.inl rfl
            | true =>
              rw [if_pos q] at g2
              exact Or.inr g2
          have hI' := wI_step wN_C hI hok (by rw [hw.1]; exact hr) hl
          rw [hw.1, hw.2.1, hw.2.2] at hI'
          rw [hw.1, hw.2.1, hw.2.2] at hl
          obtain ⟨x', μ', d', rc', pa', ln', e1, e2, e3, e4, e5, e6, e7, e8, e9, e10, e11⟩ := ih nf (i + 1) 1 (q_x (q_x μ (o + 6) i (d u + prC LO PR X u i)) (o + 7) i u) (q_u d i (d u + prC LO PR X u i)) (rcu rc i) (q_u pa i (u * 7 + i)) _ (by omega) (by omega) (by omega) (Or.inr rfl) (cM_fr hM (fun k k1 k2 => by rw [g_sn k2, g_sn k1])) (by
            intro v hv
            rw [g_sn (show o + 6 ≠ o + 7 by omega), g_s h2, g_s h2, g_sn (show o + 7 ≠ o + 6 by omega)]
            by_cases q : v = i
            · rw [q, u_s, u_s, u_s, u_s, rcu_s, if_pos rfl, if_neg (by omega)]
              exact ⟨rfl, by have := hi.2; omega⟩
            · rw [u_n q, u_n q, u_n q, u_n q, rcu_n q]
              exact hR v hv) hI' (by rw [u_n (fun q => e q.symm)]; exact hd) (by
            intro v hv hv2
            by_cases q : v = i
            · rw [q, u_s]; omega
            · rw [u_n q]
              rw [rcu_n q] at hv2
              exact hb v hv hv2) (rcu_t hr)
          rw [u_n (fun q => e q.symm)] at e8 e9
          have e7' : ∀ v, rc v = true → rc' v = true ∧ d' v ≤ d v := by
            intro v hv
            have h7 := e7 v (rcu_t hv)
            refine ⟨h7.1, ?_⟩
            by_cases q : v = i
            · rw [q, u_s] at h7
              rw [q] at hv ⊢
              rcases hl with hl | hl
              · rw [hl] at hv; cases hv
              · omega
            · rw [u_n q] at h7
              exact h7.2
          refine ⟨x', μ', d', rc', pa', ln', by rw [z_ck (by omega) (by omega)]; exact e1, e2, fun k k1 k2 => by rw [e3 k k1 k2, g_sn k2, g_sn k1], e4, e5, e6, e7', e8, fun v hv hiv hok => ?_, fun q => absurd (e10 q).1 (by decide), fun h => ?_⟩
          · by_cases q : v = i
            · rw [q]
              have h7 := e7 i rcu_s
              rw [u_s] at h7
              exact h7
            · exact e9 v hv (by omega) hok
          · have := h i hi (Int.le_refl _) hok
            rcases hl with hl | hl
            · rw [hl] at this; cases this.1
            · omega
        · rw [if_neg g2]
          refine skip (fun _ => ?_)
          cases q : rc i with
          | false =>
            rw [if_neg (by rw [q]; decide)] at g2
            omega
          | true =>
            rw [if_pos q] at g2
            exact ⟨rfl, by omega⟩
