/-! the plan's amounts in their order; the class lays its arcs -/
def plc (n u v : Int) : Int := if u < n ∧ v < n then (if u = v then -1 else (n - 1) * u + (if u < v then v - 1 else v)) else if u = 5 ∧ v < n then n * (n - 1) + v else if v = 5 ∧ u < n then n * (n - 1) + n + u else -1
def cst (mv : Int → Int) (g b u v : Int) : Int := if u = 5 then g else if v = 5 then b else mv (u * 5 + v)
def ni (n : Int) : Prop := n = 2 ∨ n = 3 ∨ n = 4 ∨ n = 5
theorem ni_of {n : Int} (h : 2 ≤ n ∧ n ≤ 5) : ni n := by unfold ni; omega
theorem plc_mv {n u v : Int} (h1 : u < n) (h2 : v < n) (h3 : u ≠ v) : plc n u v = (n - 1) * u + (if u < v then v - 1 else v) := by
  unfold plc
  rw [if_pos ⟨h1, h2⟩, if_neg h3]
theorem plc_gr {n v : Int} (hn : ni n) (h2 : v < n) : plc n 5 v = n * (n - 1) + v := by
  unfold plc
  rcases hn with rfl | rfl | rfl | rfl <;> rw [if_neg (by omega), if_pos ⟨rfl, h2⟩]
theorem plc_bn {n u : Int} (hn : ni n) (h2 : u < n) : plc n u 5 = n * (n - 1) + n + u := by
  unfold plc
  rcases hn with rfl | rfl | rfl | rfl <;> rw [if_neg (by omega), if_neg (by omega), if_pos ⟨rfl, h2⟩]
theorem plc_sp {n u v : Int} (hn : ni n) (hu : nd u) (hv : nd v) : (plc n u v = -1) ∨ (u < n ∧ v < n ∧ u ≠ v ∧ plc n u v = (n - 1) * u + (if u < v then v - 1 else v)) ∨ (u = 5 ∧ v < n ∧ plc n u v = n * (n - 1) + v) ∨ (v = 5 ∧ u < n ∧ plc n u v = n * (n - 1) + n + u) := by
  by_cases h1 : u < n ∧ v < n
  · by_cases h2 : u = v
    · left
      unfold plc
      rw [if_pos h1, if_pos h2]
    · exact Or.inr (Or.inl ⟨h1.1, h1.2, h2, plc_mv h1.1 h1.2 h2⟩)
  · by_cases h2 : u = 5 ∧ v < n
    · right; right; left
      refine ⟨h2.1, h2.2, ?_⟩
      rw [h2.1]
      exact plc_gr hn h2.2
    · by_cases h3 : v = 5 ∧ u < n
      · right; right; right
        refine ⟨h3.1, h3.2, ?_⟩
        rw [h3.1]
        exact plc_bn hn h3.2
      · left
        unfold plc
        rw [if_neg h1, if_neg h2, if_neg h3]
theorem plc_bd {n u v : Int} (hn : ni n) (hu : nd u) (hv : nd v) : -1 ≤ plc n u v ∧ plc n u v < n * (n - 1) + n + n ∧ plc n u v < 30 := by
  have u1 := hu.1
  have v1 := hv.1
  rcases plc_sp hn hu hv with h | ⟨a, b, c, h⟩ | ⟨a, b, h⟩ | ⟨a, b, h⟩ <;> rw [h]
  · rcases hn with rfl | rfl | rfl | rfl <;> omega
  · by_cases g : u < v
    · rw [if_pos g]
      rcases hn with rfl | rfl | rfl | rfl <;> omega
    · rw [if_neg g]
      rcases hn with rfl | rfl | rfl | rfl <;> omega
  · rcases hn with rfl | rfl | rfl | rfl <;> omega
  · rcases hn with rfl | rfl | rfl | rfl <;> omega
theorem plc_inj {n u v u' v' : Int} (hn : ni n) (hu : nd u) (hv : nd v) (hu' : nd u') (hv' : nd v') (h0 : 0 ≤ plc n u v) (h : plc n u v = plc n u' v') : u = u' ∧ v = v' := by
  have u1 := hu.1
  have v1 := hv.1
  have u2 := hu'.1
  have v2 := hv'.1
  have s1 := plc_sp hn hu hv
  have s2 := plc_sp hn hu' hv'
  rw [← h] at s2
  generalize plc n u v = q at s1 s2 h0
  clear h hu hv hu' hv'
  rcases s1 with h | ⟨a, b, c, h⟩ | ⟨a, b, h⟩ | ⟨a, b, h⟩
  · omega
  · rcases s2 with h' | ⟨a', b', c', h'⟩ | ⟨a', b', h'⟩ | ⟨a', b', h'⟩
    · omega
    · by_cases g : u < v
      · rw [if_pos g] at h
        by_cases g' : u' < v'
        · rw [if_pos g'] at h'
          rcases hn with rfl | rfl | rfl | rfl <;> omega
        · rw [if_neg g'] at h'
          rcases hn with rfl | rfl | rfl | rfl <;> omega
      · rw [if_neg g] at h
        by_cases g' : u' < v'
        · rw [if_pos g'] at h'
          rcases hn with rfl | rfl | rfl | rfl <;> omega
        · rw [if_neg g'] at h'
          rcases hn with rfl | rfl | rfl | rfl <;> omega
    · by_cases g : u < v
      · rw [if_pos g] at h
        rcases hn with rfl | rfl | rfl | rfl <;> omega
      · rw [if_neg g] at h
        rcases hn with rfl | rfl | rfl | rfl <;> omega
    · by_cases g : u < v
      · rw [if_pos g] at h
        rcases hn with rfl | rfl | rfl | rfl <;> omega
      · rw [if_neg g] at h
        rcases hn with rfl | rfl | rfl | rfl <;> omega
  · rcases s2 with h' | ⟨a', b', c', h'⟩ | ⟨a', b', h'⟩ | ⟨a', b', h'⟩
    · omega
    · by_cases g' : u' < v'
      · rw [if_pos g'] at h'
        rcases hn with rfl | rfl | rfl | rfl <;> omega
      · rw [if_neg g'] at h'
        rcases hn with rfl | rfl | rfl | rfl <;> omega
    · omega
    · rcases hn with rfl | rfl | rfl | rfl <;> omega
  · rcases s2 with h' | ⟨a', b', c', h'⟩ | ⟨a', b', h'⟩ | ⟨a', b', h'⟩
    · omega
    · by_cases g' : u' < v'
      · rw [if_pos g'] at h'
        rcases hn with rfl | rfl | rfl | rfl <;> omega
      · rw [if_neg g'] at h'
        rcases hn with rfl | rfl | rfl | rfl <;> omega
    · rcases hn with rfl | rfl | rfl | rfl <;> omega
    · omega
theorem pw_bd : ∀ k : Nat, k < 31 → 1 ≤ (2 : Int) ^ k ∧ (2 : Int) ^ k ≤ 1073741824 := by decide +kernel
def prM (mv : Int → Int) (g b n u v : Int) : Int := if 0 ≤ plc n u v then cst mv g b u v * 1073741824 + 2 ^ (29 - plc n u v).toNat else 0
theorem z_layPriced {o : Nat} {u v cost bit : Int} {μ : q_M} (hu : nd u) (hv : nd v) (hc : 1 ≤ cost ∧ cost ≤ 1000) (hb : 0 ≤ bit ∧ bit < 30) : f_Fl_layPriced o (u * 7 + v) cost bit μ = some (q_x (q_x μ (o + 3) (u * 7 + v) 1000000) (o + 4) (u * 7 + v) (cost * 1073741824 + 2 ^ bit.toNat)) := by
  have h1 := hu.1
  have h2 := hu.2
  have h3 := hv.1
  have h4 := hv.2
  have hp := pw_bd bit.toNat (by omega)
  unfold f_Fl_layPriced
  rw [z_st (by omega) (by omega)]
  unfold q_lsl
  rw [show (2 : Int) ^ (30 : Int).toNat = 1073741824 from by decide, if_pos ⟨⟨by omega, by decide, by decide⟩, by omega, by omega⟩]
  dsimp only
  rw [Int.one_mul, if_pos ⟨⟨by omega, by omega, by omega⟩, by omega, by omega⟩, z_cl (by omega) (by omega), z_st (by omega) (by omega)]
def lay (mv : Int → Int) (g b n : Int) (o : Nat) (μ : q_M) (c : Int) : Prop := ∀ u v, nd u → nd v → q_g μ (o + 3) (u * 7 + v) = (if 0 ≤ plc n u v ∧ plc n u v < c then 1000000 else 0) ∧ q_g μ (o + 4) (u * 7 + v) = (if 0 ≤ plc n u v ∧ plc n u v < c then prM mv g b n u v else 0)
theorem lay_step {mv : Int → Int} {g b n c u v cost : Int} {o : Nat} {μ : q_M} (hn : ni n) (h : lay mv g b n o μ c) (hu : nd u) (hv : nd v) (hp : plc n u v = c) (hc0 : 0 ≤ c) (hc : cst mv g b u v = cost) (hcb : 1 ≤ cost ∧ cost ≤ 1000) : ∃ μ', f_Fl_layPriced o (u * 7 + v) cost (29 - c) μ = some μ' ∧ lay mv g b n o μ' (c + 1) ∧ ∀ k, k ≠ o + 3 → k ≠ o + 4 → q_g μ' k = q_g μ k := by
  have hb := plc_bd hn hu hv
  refine ⟨_, z_layPriced hu hv hcb (by omega), ?_, fun k k1 k2 => by rw [g_sn k2, g_sn k1]⟩
  intro a e ha he
  have h1 := hu.1
  have h3 := hv.1
  have h2 := hu.2
  have h4 := hv.2
  have a1 := ha.1
  have a2 := ha.2
  have e1 := he.1
  have e2 := he.2
  rw [g_sn (show o + 3 ≠ o + 4 by omega), g_s (by omega), g_s (by omega), g_sn (show o + 4 ≠ o + 3 by omega)]
  by_cases z : a = u ∧ e = v
  · rw [z.1, z.2, u_s, u_s, if_pos ⟨by omega, by omega⟩, if_pos ⟨by omega, by omega⟩]
    refine ⟨rfl, ?_⟩
    unfold prM
    rw [if_pos (by omega), hc, hp]
  · rw [u_n (by omega), u_n (by omega)]
    have := h a e ha he
    have hne : 0 ≤ plc n a e → plc n a e ≠ c := fun g1 g2 => z (plc_inj hn ha he hu hv g1 (by omega))
    by_cases q : 0 ≤ plc n a e ∧ plc n a e < c
    · rw [if_pos q] at this
      rw [if_pos ⟨q.1, by omega⟩]
      rw [if_pos q] at this
      rw [if_pos ⟨q.1, by omega⟩]
      exact this
    · rw [if_neg q] at this
      have q2 : ¬ (0 ≤ plc n a e ∧ plc n a e < c + 1) := fun g1 => by have := hne g1.1; omega
      rw [if_neg q2]
      rw [if_neg q] at this
      rw [if_neg q2]
      exact this
def coM (mv : Int → Int) (g b : Int) (μ : q_M) : Prop := (∀ i, 0 ≤ i → i < 25 → q_g μ 55 i = mv i ∧ 1 ≤ mv i ∧ mv i ≤ 1000) ∧ (q_g μ 54 1 = g ∧ 1 ≤ g ∧ g ≤ 1000) ∧ (q_g μ 54 2 = b ∧ 1 ≤ b ∧ b ≤ 1000)
theorem coM_fr {mv : Int → Int} {g b : Int} {μ μ' : q_M} {o : Nat} (ho : 60 ≤ o) (h : coM mv g b μ) (hf : ∀ k, k ≠ o + 3 → k ≠ o + 4 → q_g μ' k = q_g μ k) : coM mv g b μ' := by
  unfold coM
  rw [hf 54 (by omega) (by omega), hf 55 (by omega) (by omega)]
  exact h
theorem layL15 {mv : Int → Int} {g b n f : Int} {o : Nat} {K : Int → q_M → Option q_M} (ho : 60 ≤ o) (hn : ni n) (hf : 0 ≤ f ∧ f < n) : ∀ (dd nf : Nat) (i c : Int) (μ : q_M), i + dd = n → 0 ≤ i → dd < nf → c = (n - 1) * f + (if f < i then i - 1 else i) → lay mv g b n o μ c → coM mv g b μ → ∃ μ', f_Fl_layPricedArcs_L15 o n f K nf (29 - c) i μ = K (29 - (n - 1) * (f + 1)) μ' ∧ lay mv g b n o μ' ((n - 1) * (f + 1)) ∧ ∀ k, k ≠ o + 3 → k ≠ o + 4 → q_g μ' k = q_g μ k := by
  intro dd
  have hn5 : n ≤ 5 := by rcases hn with rfl | rfl | rfl | rfl <;> decide
  induction dd with
  | zero =>
    intro nf i c μ h1 h2 h3 h4 hl hco
    obtain ⟨nf, rfl⟩ : ∃ m, nf = m + 1 := ⟨nf - 1, by omega⟩
    have hi : i = n := by omega
    have hc : c = (n - 1) * (f + 1) := by
      rw [h4, if_pos (by omega), hi]
      rcases hn with rfl | rfl | rfl | rfl <;> omega
    rw [← hc]
    exact ⟨μ, by rw [f_Fl_layPricedArcs_L15, if_pos (by omega)], hl, fun _ _ _ => rfl⟩
  | succ dd ih =>
    intro nf i c μ h1 h2 h3 h4 hl hco
    obtain ⟨nf, rfl⟩ : ∃ m, nf = m + 1 := ⟨nf - 1, by omega⟩
    rw [f_Fl_layPricedArcs_L15, if_neg (by omega)]
    simp only [z_jn]
    have hfn : nd f := ⟨hf.1, by omega⟩
    have hin : nd i := ⟨h2, by omega⟩
    by_cases e : f = i
    · rw [if_pos e, z_ck (by omega) (by omega)]
      refine ih nf (i + 1) c μ (by omega) (by omega) (by omega) ?_ hl hco
      rw [h4, if_neg (by omega), if_pos (by omega)]
      omega
    · have hp : plc n f i = c := by rw [plc_mv hf.2 (by omega) e, h4]
      have hcb := plc_bd hn hfn hin
      have hc0 : 0 ≤ c := by
        rw [h4]
        by_cases g : f < i
        · rw [if_pos g]
          rcases hn with rfl | rfl | rfl | rfl <;> omega
        · rw [if_neg g]
          rcases hn with rfl | rfl | rfl | rfl <;> omega
      have hmv := hco.1 (f * 5 + i) (by omega) (by omega)
      obtain ⟨μ1, a1, a2, a3⟩ := lay_step (cost := mv (f * 5 + i)) hn hl hfn hin hp hc0 (by unfold cst; rw [if_neg (by omega), if_neg (by omega)]) hmv.2
      rw [if_neg e, z_arc hfn hin, z_b, z_channelOf (by omega) (by omega) (by omega) (by omega), z_b, z_ld (by omega) (by omega), hmv.1, a1, z_b, z_ck (by omega) (by omega), z_ck (by omega) (by omega)]
      obtain ⟨μ', b1, b2, b3⟩ := ih nf (i + 1) (c + 1) μ1 (by omega) (by omega) (by omega) (by
        rw [h4]
        by_cases g : f < i
        · rw [if_pos g, if_pos (by omega)]; omega
        · rw [if_neg g, if_neg (by omega)]; omega) a2 (coM_fr ho hco a3)
      rw [show 29 - c + -1 = 29 - (c + 1) by omega]
      exact ⟨μ', b1, b2, fun k k1 k2 => by rw [b3 k k1 k2, a3 k k1 k2]⟩
theorem layL6 {mv : Int → Int} {g b n : Int} {N o : Nat} {K : Int → q_M → Option q_M} (hN : 1000 ≤ N) (ho : 60 ≤ o) (hn : ni n) : ∀ (dd nf : Nat) (i : Int) (μ : q_M), i + dd = n → 0 ≤ i → dd < nf → lay mv g b n o μ ((n - 1) * i) → coM mv g b μ → ∃ μ', f_Fl_layPricedArcs_L6 N o n K nf (29 - (n - 1) * i) i μ = K (29 - n * (n - 1)) μ' ∧ lay mv g b n o μ' (n * (n - 1)) ∧ ∀ k, k ≠ o + 3 → k ≠ o + 4 → q_g μ' k = q_g μ k := by
  intro dd
  have hn5 : 2 ≤ n ∧ n ≤ 5 := by rcases hn with rfl | rfl | rfl | rfl <;> decide
  induction dd with
  | zero =>
    intro nf i μ h1 h2 h3 hl hco
    obtain ⟨nf, rfl⟩ : ∃ m, nf = m + 1 := ⟨nf - 1, by omega⟩
    have hi : i = n := by omega
    rw [hi] at hl ⊢
    rw [Int.mul_comm (n - 1) n] at hl ⊢
    exact ⟨μ, by rw [f_Fl_layPricedArcs_L6, if_pos (by omega)], hl, fun _ _ _ => rfl⟩
  | succ dd ih =>
    intro nf i μ h1 h2 h3 hl hco
    obtain ⟨nf, rfl⟩ : ∃ m, nf = m + 1 := ⟨nf - 1, by omega⟩
    rw [f_Fl_layPricedArcs_L6, if_neg (by omega)]
    obtain ⟨μ1, a1, a2, a3⟩ := layL15 (K := fun x9 μ10 => q_ck (i + 1) fun x24 => f_Fl_layPricedArcs_L6 N o n K nf x9 x24 μ10) ho hn ⟨h2, show i < n by omega⟩ n.toNat N 0 ((n - 1) * i) μ (by omega) (by omega) (by omega) (by rw [if_neg (by omega)]; omega) hl hco
    rw [a1, z_ck (by omega) (by omega)]
    obtain ⟨μ', b1, b2, b3⟩ := ih nf (i + 1) μ1 (by omega) (by omega) (by omega) a2 (coM_fr ho hco a3)
    exact ⟨μ', b1, b2, fun k k1 k2 => by rw [b3 k k1 k2, a3 k k1 k2]⟩
theorem layL70 {mv : Int → Int} {g b n : Int} {o : Nat} {K : Int → q_M → Option q_M} (ho : 60 ≤ o) (hn : ni n) : ∀ (dd nf : Nat) (i c : Int) (μ : q_M), i + dd = n → 0 ≤ i → dd < nf → c = n * (n - 1) + i → lay mv g b n o μ c → coM mv g b μ → ∃ μ', f_Fl_layPricedArcs_L70 o n K nf (29 - c) i μ = K (29 - (n * (n - 1) + n)) μ' ∧ lay mv g b n o μ' (n * (n - 1) + n) ∧ ∀ k, k ≠ o + 3 → k ≠ o + 4 → q_g μ' k = q_g μ k := by
  intro dd
  have hn5 : 2 ≤ n ∧ n ≤ 5 ∧ 0 ≤ n * (n - 1) ∧ n * (n - 1) ≤ 20 := by rcases hn with rfl | rfl | rfl | rfl <;> decide
  induction dd with
  | zero =>
    intro nf i c μ h1 h2 h3 h4 hl hco
    obtain ⟨nf, rfl⟩ : ∃ m, nf = m + 1 := ⟨nf - 1, by omega⟩
    have hc : c = n * (n - 1) + n := by rw [h4, show i = n by omega]
    rw [← hc]
    exact ⟨μ, by rw [f_Fl_layPricedArcs_L70, if_pos (by omega)], hl, fun _ _ _ => rfl⟩
  | succ dd ih =>
    intro nf i c μ h1 h2 h3 h4 hl hco
    obtain ⟨nf, rfl⟩ : ∃ m, nf = m + 1 := ⟨nf - 1, by omega⟩
    rw [f_Fl_layPricedArcs_L70, if_neg (by omega)]
    have h5 : nd 5 := ⟨by decide, by decide⟩
    have hin : nd i := ⟨h2, by omega⟩
    have hg := hco.2.1
    obtain ⟨μ1, a1, a2, a3⟩ := lay_step (cost := g) hn hl h5 hin (by rw [plc_gr hn (by omega), h4]) (by omega) (by unfold cst; rw [if_pos rfl]) hg.2
    rw [z_arc h5 hin, z_b, z_fl, Int.cast_ofNat_Int, hg.1, a1, z_b, z_ck (by omega) (by omega), z_ck (by omega) (by omega)]
    obtain ⟨μ', b1, b2, b3⟩ := ih nf (i + 1) (c + 1) μ1 (by omega) (by omega) (by omega) (by omega) a2 (coM_fr ho hco a3)
    rw [show 29 - c + -1 = 29 - (c + 1) by omega]
    exact ⟨μ', b1, b2, fun k k1 k2 => by rw [b3 k k1 k2, a3 k k1 k2]⟩
theorem layL103 {mv : Int → Int} {g b n : Int} {o : Nat} {K : q_M → Option q_M} (ho : 60 ≤ o) (hn : ni n) : ∀ (dd nf : Nat) (i c : Int) (μ : q_M), i + dd = n → 0 ≤ i → dd < nf → c = n * (n - 1) + n + i → lay mv g b n o μ c → coM mv g b μ → ∃ μ', f_Fl_layPricedArcs_L103 o n K nf (29 - c) i μ = K μ' ∧ lay mv g b n o μ' (n * (n - 1) + n + n) ∧ ∀ k, k ≠ o + 3 → k ≠ o + 4 → q_g μ' k = q_g μ k := by
  intro dd
  have hn5 : 2 ≤ n ∧ n ≤ 5 ∧ 0 ≤ n * (n - 1) ∧ n * (n - 1) ≤ 20 := by rcases hn with rfl | rfl | rfl | rfl <;> decide
  induction dd with
  | zero =>
    intro nf i c μ h1 h2 h3 h4 hl hco
    obtain ⟨nf, rfl⟩ : ∃ m, nf = m + 1 := ⟨nf - 1, by omega⟩
    have hc : c = n * (n - 1) + n + n := by rw [h4, show i = n by omega]
    rw [← hc]
    exact ⟨μ, by rw [f_Fl_layPricedArcs_L103, if_pos (by omega)], hl, fun _ _ _ => rfl⟩
  | succ dd ih =>
    intro nf i c μ h1 h2 h3 h4 hl hco
    obtain ⟨nf, rfl⟩ : ∃ m, nf = m + 1 := ⟨nf - 1, by omega⟩
    rw [f_Fl_layPricedArcs_L103, if_neg (by omega)]
    have h5 : nd 5 := ⟨by decide, by decide⟩
    have hin : nd i := ⟨h2, by omega⟩
    have hg := hco.2.2
    obtain ⟨μ1, a1, a2, a3⟩ := lay_step (cost := b) hn hl hin h5 (by rw [plc_bn hn (by omega), h4]) (by omega) (by unfold cst; rw [if_neg (by omega), if_pos rfl]) hg.2
    rw [z_arc hin h5, z_b, z_fl, Int.cast_ofNat_Int, hg.1, a1, z_b, z_ck (by omega) (by omega), z_ck (by omega) (by omega)]
    obtain ⟨μ', b1, b2, b3⟩ := ih nf (i + 1) (c + 1) μ1 (by omega) (by omega) (by omega) (by omega) a2 (coM_fr ho hco a3)
    rw [show 29 - c + -1 = 29 - (c + 1) by omega]
    exact ⟨μ', b1, b2, fun k k1 k2 => by rw [b3 k k1 k2, a3 k k1 k2]⟩
theorem z_layPricedArcs {mv : Int → Int} {g b n : Int} {N o : Nat} {μ : q_M} (hN : 1000 ≤ N) (ho : 60 ≤ o) (hn : ni n) (hco : coM mv g b μ) (h0 : ∀ u v, nd u → nd v → q_g μ (o + 3) (u * 7 + v) = 0 ∧ q_g μ (o + 4) (u * 7 + v) = 0) : ∃ μ', f_Fl_layPricedArcs N o n μ = some μ' ∧ (∀ u v, nd u → nd v → q_g μ' (o + 3) (u * 7 + v) = (if 0 ≤ plc n u v then 1000000 else 0) ∧ q_g μ' (o + 4) (u * 7 + v) = prM mv g b n u v) ∧ ∀ k, k ≠ o + 3 → k ≠ o + 4 → q_g μ' k = q_g μ k := by
  have hn5 : 2 ≤ n ∧ n ≤ 5 := by rcases hn with rfl | rfl | rfl | rfl <;> decide
  unfold f_Fl_layPricedArcs
  obtain ⟨μ1, a1, a2, a3⟩ := layL6 (K := fun x4 μ5 => f_Fl_layPricedArcs_L70 o n (fun x29 μ30 => f_Fl_layPricedArcs_L103 o n (fun μ42 => some μ42) N x29 0 μ30) N x4 0 μ5) hN ho hn n.toNat N 0 μ (by omega) (by omega) (by omega) (by
    intro u v hu hv
    have hb := plc_bd hn hu hv
    rw [Int.mul_zero, if_neg (by omega), if_neg (by omega)]
    exact h0 u v hu hv) hco
  rw [Int.mul_zero] at a1
  rw [show (29 : Int) = 29 - 0 from rfl, a1]
  obtain ⟨μ2, b1, b2, b3⟩ := layL70 (K := fun x29 μ30 => f_Fl_layPricedArcs_L103 o n (fun μ42 => some μ42) N x29 0 μ30) ho hn n.toNat N 0 _ μ1 (by omega) (by omega) (by omega) (by rw [Int.add_zero]) a2 (coM_fr ho hco a3)
  rw [b1]
  obtain ⟨μ3, c1, c2, c3⟩ := layL103 (K := fun μ42 => some μ42) ho hn n.toNat N 0 _ μ2 (by omega) (by omega) (by omega) (by rw [Int.add_zero]) b2 (coM_fr ho (coM_fr ho hco a3) b3)
  rw [c1]
  refine ⟨μ3, rfl, fun u v hu hv => ?_, fun k k1 k2 => by rw [c3 k k1 k2, b3 k k1 k2, a3 k k1 k2]⟩
  have := c2 u v hu hv
  have hb := plc_bd hn hu hv
  by_cases q : 0 ≤ plc n u v
  · rw [if_pos ⟨q, hb.2.1⟩, if_pos ⟨q, hb.2.1⟩] at this
    rw [if_pos q]
    exact this
  · rw [if_neg (fun h => q h.1), if_neg (fun h => q h.1)] at this
    rw [if_neg q, this.1, this.2]
    unfold prM
    rw [if_neg q]
    exact ⟨rfl, rfl⟩
