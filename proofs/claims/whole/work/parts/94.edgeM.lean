/-! the model's edges as pairs of nodes (numbers as in the class: 5 outside, 6 kept) -/
def sw (v : Int) : Int := if v = 5 then 6 else if v = 6 then 5 else v
theorem sw_sw {v : Int} : sw (sw v) = v := by
  unfold sw
  by_cases a : v = 5
  · rw [if_pos a, if_neg (by decide), if_pos rfl, a]
  · rw [if_neg a]
    by_cases b : v = 6
    · rw [if_pos b, if_pos rfl, b]
    · rw [if_neg b, if_neg a, if_neg b]
theorem sw_nd {v : Int} (h : nd v) : nd (sw v) := by
  have h1 := h.1
  have h2 := h.2
  unfold sw
  by_cases a : v = 5
  · rw [if_pos a]; exact ⟨by decide, by decide⟩
  · rw [if_neg a]
    by_cases b : v = 6
    · rw [if_pos b]; exact ⟨by decide, by decide⟩
    · rw [if_neg b]; exact h
theorem sw_lt {v : Int} (h : v < 5) : sw v = v := by
  unfold sw
  rw [if_neg (by omega), if_neg (by omega)]
theorem sw_inj {u v : Int} (h : sw u = sw v) : u = v := by rw [← sw_sw (v := u), h, sw_sw]
def ei (n u v : Int) : Int := if u < n ∧ v < n then (if u = v then -1 else (n - 1) * u + (if u < v then v - 1 else v)) else if u = 5 ∧ v < n then n * (n - 1) + 4 * v + 1 else if v = 5 ∧ u < n then n * (n - 1) + 4 * u + 2 else if v = 6 ∧ u < n then n * (n - 1) + 4 * u + 3 else if u = 6 ∧ v = 5 then n * (n - 1) + 4 * n else -1
theorem ei_sp {n u v : Int} (hn : ni n) (hu : nd u) (hv : nd v) : (ei n u v = -1 ∧ plc n u v < 0 ∧ ¬ (v = 6 ∧ u < n) ∧ ¬ (u = 6 ∧ v = 5)) ∨ (u < n ∧ v < n ∧ u ≠ v ∧ ei n u v = (n - 1) * u + (if u < v then v - 1 else v)) ∨ (u = 5 ∧ v < n ∧ ei n u v = n * (n - 1) + 4 * v + 1) ∨ (v = 5 ∧ u < n ∧ ei n u v = n * (n - 1) + 4 * u + 2) ∨ (v = 6 ∧ u < n ∧ ei n u v = n * (n - 1) + 4 * u + 3) ∨ (u = 6 ∧ v = 5 ∧ ei n u v = n * (n - 1) + 4 * n) := by
  have h5 : 2 ≤ n ∧ n ≤ 5 := by rcases hn with rfl | rfl | rfl | rfl <;> decide
  have u1 := hu.1
  have v1 := hv.1
  unfold ei
  by_cases h1 : u < n ∧ v < n
  · rw [if_pos h1]
    by_cases h2 : u = v
    · left
      rw [if_pos h2]
      refine ⟨rfl, ?_, by omega, by omega⟩
      unfold plc
      rw [if_pos h1, if_pos h2]
      decide
    · rw [if_neg h2]
      exact Or.inr (Or.inl ⟨h1.1, h1.2, h2, rfl⟩)
  · rw [if_neg h1]
    by_cases h2 : u = 5 ∧ v < n
    · rw [if_pos h2]
      exact Or.inr (Or.inr (Or.inl ⟨h2.1, h2.2, rfl⟩))
    · rw [if_neg h2]
      by_cases h3 : v = 5 ∧ u < n
      · rw [if_pos h3]
        exact Or.inr (Or.inr (Or.inr (Or.inl ⟨h3.1, h3.2, rfl⟩)))
      · rw [if_neg h3]
        by_cases h4 : v = 6 ∧ u < n
        · rw [if_pos h4]
          exact Or.inr (Or.inr (Or.inr (Or.inr (Or.inl ⟨h4.1, h4.2, rfl⟩))))
        · rw [if_neg h4]
          by_cases h6 : u = 6 ∧ v = 5
          · rw [if_pos h6]
            exact Or.inr (Or.inr (Or.inr (Or.inr (Or.inr ⟨h6.1, h6.2, rfl⟩))))
          · rw [if_neg h6]
            refine Or.inl ⟨rfl, ?_, h4, h6⟩
            unfold plc
            rw [if_neg h1, if_neg h2, if_neg h3]
            decide
theorem mv_rng {n u v : Int} (hn : ni n) (hu : 0 ≤ u) (hv : 0 ≤ v) (h1 : u < n) (h2 : v < n) (h3 : u ≠ v) : 0 ≤ (n - 1) * u + (if u < v then v - 1 else v) ∧ (n - 1) * u + (if u < v then v - 1 else v) < n * (n - 1) := by
  by_cases g : u < v
  · rw [if_pos g]
    rcases hn with rfl | rfl | rfl | rfl <;> omega
  · rw [if_neg g]
    rcases hn with rfl | rfl | rfl | rfl <;> omega
theorem mv_inj {n u v u' v' : Int} (hn : ni n) (hu : 0 ≤ u) (hv : 0 ≤ v) (h1 : u < n) (h2 : v < n) (h3 : u ≠ v) (hu' : 0 ≤ u') (hv' : 0 ≤ v') (h1' : u' < n) (h2' : v' < n) (h3' : u' ≠ v') (h : (n - 1) * u + (if u < v then v - 1 else v) = (n - 1) * u' + (if u' < v' then v' - 1 else v')) : u = u' ∧ v = v' := by
  by_cases g : u < v
  · rw [if_pos g] at h
    by_cases g' : u' < v'
    · rw [if_pos g'] at h
      rcases hn with rfl | rfl | rfl | rfl <;> omega
    · rw [if_neg g'] at h
      rcases hn with rfl | rfl | rfl | rfl <;> omega
  · rw [if_neg g] at h
    by_cases g' : u' < v'
    · rw [if_pos g'] at h
      rcases hn with rfl | rfl | rfl | rfl <;> omega
    · rw [if_neg g'] at h
      rcases hn with rfl | rfl | rfl | rfl <;> omega
theorem q_rng {n : Int} (hn : ni n) : 2 ≤ n ∧ n ≤ 5 ∧ 0 ≤ n * (n - 1) ∧ n * (n - 1) + 4 * n + 1 ≤ 41 := by rcases hn with rfl | rfl | rfl | rfl <;> decide
theorem ei_bd {n u v : Int} (hn : ni n) (hu : nd u) (hv : nd v) : -1 ≤ ei n u v ∧ ei n u v ≤ n * (n - 1) + 4 * n := by
  have hq := q_rng hn
  have u1 := hu.1
  have v1 := hv.1
  rcases ei_sp hn hu hv with ⟨h, -⟩ | ⟨a, b, c, h⟩ | ⟨a, b, h⟩ | ⟨a, b, h⟩ | ⟨a, b, h⟩ | ⟨a, b, h⟩ <;> rw [h]
  · omega
  · have := mv_rng hn u1 v1 a b c
    omega
  · omega
  · omega
  · omega
  · omega
theorem ei_inj {n u v u' v' : Int} (hn : ni n) (hu : nd u) (hv : nd v) (hu' : nd u') (hv' : nd v') (h0 : 0 ≤ ei n u v) (h : ei n u v = ei n u' v') : u = u' ∧ v = v' := by
  have hq := q_rng hn
  have u1 := hu.1
  have v1 := hv.1
  have u2 := hu'.1
  have v2 := hv'.1
  rcases ei_sp hn hu hv with ⟨e, -⟩ | ⟨a, b, c, e⟩ | ⟨a, b, e⟩ | ⟨a, b, e⟩ | ⟨a, b, e⟩ | ⟨a, b, e⟩
  · omega
  · have r1 := mv_rng hn u1 v1 a b c
    rcases ei_sp hn hu' hv' with ⟨e', -⟩ | ⟨a', b', c', e'⟩ | ⟨a', b', e'⟩ | ⟨a', b', e'⟩ | ⟨a', b', e'⟩ | ⟨a', b', e'⟩
    · omega
    · exact mv_inj hn u1 v1 a b c u2 v2 a' b' c' (by omega)
    all_goals omega
  all_goals
    rcases ei_sp hn hu' hv' with ⟨e', -⟩ | ⟨a', b', c', e'⟩ | ⟨a', b', e'⟩ | ⟨a', b', e'⟩ | ⟨a', b', e'⟩ | ⟨a', b', e'⟩
    · omega
    · have r1 := mv_rng hn u2 v2 a' b' c'
      omega
    all_goals omega
theorem ei_nf {n u v p : Int} (hn : ni n) (hu : nd u) (hv : nd v) (h0 : 0 ≤ p) (h1 : p < n) : ei n u v ≠ n * (n - 1) + 4 * p := by
  have hq := q_rng hn
  have u1 := hu.1
  have v1 := hv.1
  rcases ei_sp hn hu hv with ⟨h, -⟩ | ⟨a, b, c, h⟩ | ⟨a, b, h⟩ | ⟨a, b, h⟩ | ⟨a, b, h⟩ | ⟨a, b, h⟩ <;> rw [h]
  · omega
  · have := mv_rng hn u1 v1 a b c
    omega
  · omega
  · omega
  · omega
  · omega
theorem ei_on {n e : Int} (hn : ni n) (h0 : 0 ≤ e) (h1 : e < n * (n - 1) + 4 * n + 1) : (∃ u v, nd u ∧ nd v ∧ u ≠ v ∧ ei n u v = e) ∨ (∃ p, 0 ≤ p ∧ p < n ∧ e = n * (n - 1) + 4 * p) := by
  have hq := q_rng hn
  by_cases g : e < n * (n - 1)
  · left
    have hd : ∃ u r : Int, 0 ≤ u ∧ u < n ∧ 0 ≤ r ∧ r < n - 1 ∧ e = (n - 1) * u + r := by
      rcases hn with rfl | rfl | rfl | rfl
      · exact ⟨e / 1, e % 1, by omega, by omega, by omega, by omega, by omega⟩
      · exact ⟨e / 2, e % 2, by omega, by omega, by omega, by omega, by omega⟩
      · exact ⟨e / 3, e % 3, by omega, by omega, by omega, by omega, by omega⟩
      · exact ⟨e / 4, e % 4, by omega, by omega, by omega, by omega, by omega⟩
    obtain ⟨u, r, a, b, c, d, hh⟩ := hd
    by_cases k : r < u
    · refine ⟨u, r, ⟨a, by omega⟩, ⟨c, by omega⟩, by omega, ?_⟩
      unfold ei
      rw [if_pos ⟨b, by omega⟩, if_neg (by omega), if_neg (by omega), hh]
    · refine ⟨u, r + 1, ⟨a, by omega⟩, ⟨by omega, by omega⟩, by omega, ?_⟩
      unfold ei
      rw [if_pos ⟨b, by omega⟩, if_neg (by omega), if_pos (by omega), hh]
      omega
  · generalize hQ : n * (n - 1) = Q at *
    have hd : ∃ p j : Int, 0 ≤ p ∧ 0 ≤ j ∧ j < 4 ∧ e = Q + 4 * p + j := ⟨(e - Q) / 4, (e - Q) % 4, by omega, by omega, by omega, by omega⟩
    obtain ⟨p, j, a, b, c, d⟩ := hd
    by_cases hp : p < n
    · have : j = 0 ∨ j = 1 ∨ j = 2 ∨ j = 3 := by omega
      rcases this with rfl | rfl | rfl | rfl
      · exact Or.inr ⟨p, a, hp, by omega⟩
      · refine Or.inl ⟨5, p, ⟨by decide, by decide⟩, ⟨a, by omega⟩, by omega, ?_⟩
        unfold ei
        rw [if_neg (by omega), if_pos ⟨rfl, hp⟩, hQ, d]
      · refine Or.inl ⟨p, 5, ⟨a, by omega⟩, ⟨by decide, by decide⟩, by omega, ?_⟩
        unfold ei
        rw [if_neg (by omega), if_neg (by omega), if_pos ⟨rfl, hp⟩, hQ, d]
      · refine Or.inl ⟨p, 6, ⟨a, by omega⟩, ⟨by decide, by decide⟩, by omega, ?_⟩
        unfold ei
        rw [if_neg (by omega), if_neg (by omega), if_neg (by omega), if_pos ⟨rfl, hp⟩, hQ, d]
    · refine Or.inl ⟨6, 5, ⟨by decide, by decide⟩, ⟨by decide, by decide⟩, by decide, ?_⟩
      unfold ei
      rw [if_neg (by omega), if_neg (by omega), if_neg (by omega), if_neg (by omega), if_pos ⟨rfl, rfl⟩, hQ]
      omega
/-- the model's memory holds these edges -/
def eM (n : Int) (st : Int → Int) (CO LO HI : Int → Int → Int) (μ : q_M) (X : Int → Int → Int) : Prop := q_g μ 0 14 = n * (n - 1) + 4 * n + 1 ∧ (∀ u v, nd u → nd v → 0 ≤ ei n u v → q_g μ 9 (ei n u v) = sw u ∧ q_g μ 10 (ei n u v) = sw v ∧ q_g μ 11 (ei n u v) = HI u v ∧ q_g μ 12 (ei n u v) = LO u v ∧ q_g μ 13 (ei n u v) = CO u v ∧ q_g μ 14 (ei n u v) = plc n u v ∧ q_g μ 15 (ei n u v) = X u v) ∧ ∀ p, 0 ≤ p → p < n → q_g μ 9 (n * (n - 1) + 4 * p) = 6 ∧ q_g μ 10 (n * (n - 1) + 4 * p) = p ∧ q_g μ 11 (n * (n - 1) + 4 * p) = st p ∧ q_g μ 12 (n * (n - 1) + 4 * p) = st p ∧ q_g μ 13 (n * (n - 1) + 4 * p) = 0 ∧ q_g μ 14 (n * (n - 1) + 4 * p) = -1 ∧ q_g μ 15 (n * (n - 1) + 4 * p) = st p
def eB (n : Int) (st : Int → Int) (CO LO HI X : Int → Int → Int) : Prop := (∀ u v, nd u → nd v → (0 ≤ LO u v ∧ LO u v ≤ X u v ∧ X u v ≤ HI u v ∧ HI u v ≤ 100000) ∧ (0 ≤ CO u v ∧ CO u v ≤ 1000) ∧ (ei n u v < 0 → LO u v = HI u v)) ∧ ∀ p, 0 ≤ p → p < n → -20000 ≤ st p ∧ st p ≤ 20000
theorem eM_fr {n : Int} {st : Int → Int} {CO LO HI X : Int → Int → Int} {μ μ' : q_M} (h : eM n st CO LO HI μ X) (h0 : q_g μ' 0 14 = q_g μ 0 14) (hf : ∀ k, 9 ≤ k → k ≤ 15 → q_g μ' k = q_g μ k) : eM n st CO LO HI μ' X := by
  unfold eM
  rw [h0, hf 9 (by omega) (by omega), hf 10 (by omega) (by omega), hf 11 (by omega) (by omega), hf 12 (by omega) (by omega), hf 13 (by omega) (by omega), hf 14 (by omega) (by omega), hf 15 (by omega) (by omega)]
  exact h
/-- ways: forwards below 49, backwards above -/
def rmM (LO HI X : Int → Int → Int) (w : Int) : Int := if w < 49 then HI (w / 7) (w % 7) - X (w / 7) (w % 7) else X ((w - 49) / 7) ((w - 49) % 7) - LO ((w - 49) / 7) ((w - 49) % 7)
def wfM (w : Int) : Int := if w < 49 then w / 7 else (w - 49) % 7
def wtM (w : Int) : Int := if w < 49 then w % 7 else (w - 49) / 7
def wpM (PR : Int → Int → Int) (w : Int) : Int := if w < 49 then PR (w / 7) (w % 7) else -PR ((w - 49) / 7) ((w - 49) % 7)
def cwM (n w : Int) : Int := if w < 49 then ei n (w / 7) (w % 7) else ei n ((w - 49) / 7) ((w - 49) % 7) + 100
def okM (n : Int) (LO HI X : Int → Int → Int) (w : Int) : Prop := (0 ≤ w ∧ w < 98) ∧ wfM w ≠ wtM w ∧ 0 < rmM LO HI X w
theorem wN_M {n : Int} {LO HI X : Int → Int → Int} : wN (okM n LO HI X) wfM wtM := by
  intro w h
  obtain ⟨⟨a, b⟩, c, -⟩ := h
  refine ⟨a, ?_, ?_, c⟩
  · unfold wfM
    by_cases g : w < 49
    · rw [if_pos g]; exact ⟨by omega, by omega⟩
    · rw [if_neg g]; exact ⟨by omega, by omega⟩
  · unfold wtM
    by_cases g : w < 49
    · rw [if_pos g]; exact ⟨by omega, by omega⟩
    · rw [if_neg g]; exact ⟨by omega, by omega⟩
theorem wM_f {u v : Int} (hu : nd u) (hv : nd v) {PR LO HI X : Int → Int → Int} {n : Int} : wfM (u * 7 + v) = u ∧ wtM (u * 7 + v) = v ∧ wpM PR (u * 7 + v) = PR u v ∧ cwM n (u * 7 + v) = ei n u v ∧ rmM LO HI X (u * 7 + v) = HI u v - X u v := by
  have h1 := hu.1
  have h2 := hu.2
  have h3 := hv.1
  have h4 := hv.2
  unfold wfM wtM wpM cwM rmM
  rw [if_pos (by omega), if_pos (by omega), if_pos (by omega), if_pos (by omega), if_pos (by omega), show (u * 7 + v) / 7 = u by omega, show (u * 7 + v) % 7 = v by omega]
  exact ⟨rfl, rfl, rfl, rfl, rfl⟩
theorem wM_b {u v : Int} (hu : nd u) (hv : nd v) {PR LO HI X : Int → Int → Int} {n : Int} : wfM (49 + (u * 7 + v)) = v ∧ wtM (49 + (u * 7 + v)) = u ∧ wpM PR (49 + (u * 7 + v)) = -PR u v ∧ cwM n (49 + (u * 7 + v)) = ei n u v + 100 ∧ rmM LO HI X (49 + (u * 7 + v)) = X u v - LO u v := by
  have h1 := hu.1
  have h2 := hu.2
  have h3 := hv.1
  have h4 := hv.2
  unfold wfM wtM wpM cwM rmM
  rw [if_neg (by omega), if_neg (by omega), if_neg (by omega), if_neg (by omega), if_neg (by omega), show (49 + (u * 7 + v) - 49) / 7 = u by omega, show (49 + (u * 7 + v) - 49) % 7 = v by omega]
  exact ⟨rfl, rfl, rfl, rfl, rfl⟩
/-- each way is one of the two of a pair -/
theorem wM_on {n : Int} {LO HI X : Int → Int → Int} {w : Int} (h : okM n LO HI X w) : ∃ u v, nd u ∧ nd v ∧ u ≠ v ∧ ((w = u * 7 + v ∧ 0 < HI u v - X u v) ∨ (w = 49 + (u * 7 + v) ∧ 0 < X u v - LO u v)) := by
  obtain ⟨⟨a, b⟩, c, d⟩ := h
  by_cases g : w < 49
  · have hu : nd (w / 7) := ⟨by omega, by omega⟩
    have hv : nd (w % 7) := ⟨by omega, by omega⟩
    unfold wfM wtM at c
    rw [if_pos g, if_pos g] at c
    unfold rmM at d
    rw [if_pos g] at d
    exact ⟨w / 7, w % 7, hu, hv, c, Or.inl ⟨by omega, d⟩⟩
  · have hu : nd ((w - 49) / 7) := ⟨by omega, by omega⟩
    have hv : nd ((w - 49) % 7) := ⟨by omega, by omega⟩
    unfold wfM wtM at c
    rw [if_neg g, if_neg g] at c
    unfold rmM at d
    rw [if_neg g] at d
    exact ⟨(w - 49) / 7, (w - 49) % 7, hu, hv, fun q => c q.symm, Or.inr ⟨by omega, d⟩⟩
theorem okM_f {n : Int} {LO HI X : Int → Int → Int} {u v : Int} (hu : nd u) (hv : nd v) (h : u ≠ v) : okM n LO HI X (u * 7 + v) ↔ 0 < HI u v - X u v := by
  have h1 := hu.1
  have h2 := hu.2
  have h3 := hv.1
  have h4 := hv.2
  obtain ⟨a, b, -, -, c⟩ := wM_f (PR := X) (LO := LO) (HI := HI) (X := X) (n := n) hu hv
  unfold okM
  rw [a, b, c]
  exact ⟨fun q => q.2.2, fun q => ⟨by omega, h, q⟩⟩
theorem okM_b {n : Int} {LO HI X : Int → Int → Int} {u v : Int} (hu : nd u) (hv : nd v) (h : u ≠ v) : okM n LO HI X (49 + (u * 7 + v)) ↔ 0 < X u v - LO u v := by
  have h1 := hu.1
  have h2 := hu.2
  have h3 := hv.1
  have h4 := hv.2
  obtain ⟨a, b, -, -, c⟩ := wM_b (PR := X) (LO := LO) (HI := HI) (X := X) (n := n) hu hv
  unfold okM
  rw [a, b, c]
  exact ⟨fun q => q.2.2, fun q => ⟨by omega, fun e => h e.symm, q⟩⟩
theorem mp_poM {n : Int} {LO HI PR X : Int → Int → Int} {pi : Int → Int} (h : mp LO HI PR X pi) : po (okM n LO HI X) wfM wtM (wpM PR) pi := by
  intro w hw
  obtain ⟨u, v, hu, hv, e, ⟨rfl, g⟩ | ⟨rfl, g⟩⟩ := wM_on hw
  · obtain ⟨a, b, c, -⟩ := wM_f (PR := PR) (LO := LO) (HI := HI) (X := X) (n := n) hu hv
    rw [a, b, c]
    exact (h u v hu hv).1 (by omega)
  · obtain ⟨a, b, c, -⟩ := wM_b (PR := PR) (LO := LO) (HI := HI) (X := X) (n := n) hu hv
    rw [a, b, c]
    have := (h u v hu hv).2 (by omega)
    omega
theorem po_mpM {n : Int} {LO HI PR X : Int → Int → Int} {pi : Int → Int} (hX : ∀ u v, nd u → nd v → LO u v ≤ X u v ∧ X u v ≤ HI u v) (hd : ∀ u, nd u → LO u u = HI u u) (h : po (okM n LO HI X) wfM wtM (wpM PR) pi) : mp LO HI PR X pi := by
  intro u v hu hv
  have hx := hX u v hu hv
  by_cases e : u = v
  · subst e
    have := hd u hu
    exact ⟨fun g => absurd g (by omega), fun g => absurd g (by omega)⟩
  · refine ⟨fun g => ?_, fun g => ?_⟩
    · have := h _ ((okM_f hu hv e).mpr (by omega))
      obtain ⟨a, b, c, -⟩ := wM_f (PR := PR) (LO := LO) (HI := HI) (X := X) (n := n) hu hv
      rw [a, b, c] at this
      exact this
    · have := h _ ((okM_b hu hv e).mpr (by omega))
      obtain ⟨a, b, c, -⟩ := wM_b (PR := PR) (LO := LO) (HI := HI) (X := X) (n := n) hu hv
      rw [a, b, c] at this
      omega
