/-! the model's way made shorter -/
def cV (μ : q_M) (V : Int → Nat → Int) : Prop := ∀ v, nd v → ∀ k : Nat, k < 31 → q_g μ 18 (31 * sw v + k) = V v k
def bV (C : Int) (V : Int → Nat → Int) : Prop := ∀ v, nd v → ∀ k : Nat, k < 31 → -C ≤ V v k ∧ V v k ≤ C
def dM (n : Int) (CO : Int → Int → Int) (sgn u v : Int) (k : Nat) : Int := if k = 0 then sgn * CO u v else if (k : Int) - 1 = plc n u v then sgn else 0
def PMt (B : Int) (n : Int) (CO : Int → Int → Int) (u v : Int) : Int := CO u v * B ^ 30 + hx B (dl (plc n) u v) 0 30
theorem hx_sh {b : Int} {f g : Nat → Int} : ∀ {d k : Nat}, (∀ j, k ≤ j → j < k + d → f (j + 1) = g j) → hx b f (k + 1) d = hx b g k d
  | 0, _, _ => rfl
  | d + 1, k, h => by
    unfold hx
    rw [h k (by omega) (by omega), hx_sh (d := d) (k := k + 1) (fun j a c => h j (by omega) (by omega))]
theorem hx_dM {B n : Int} {CO : Int → Int → Int} {u v : Int} : hx B (dM n CO 1 u v) 0 31 = PMt B n CO u v ∧ hx B (dM n CO (-1) u v) 0 31 = -PMt B n CO u v := by
  have e1 : ∀ s, dM n CO s u v 0 = s * CO u v := fun s => if_pos rfl
  refine ⟨?_, ?_⟩
  · show dM n CO 1 u v 0 * B ^ 30 + hx B (dM n CO 1 u v) (0 + 1) 30 = _
    rw [e1, hx_sh (g := dl (plc n) u v) (fun j _ _ => by
      unfold dM dl
      rw [if_neg (by omega)]
      by_cases g : plc n u v = j
      · rw [if_pos g, if_pos (by omega)]
      · rw [if_neg g, if_neg (by omega)]), Int.one_mul]
    rfl
  · show dM n CO (-1) u v 0 * B ^ 30 + hx B (dM n CO (-1) u v) (0 + 1) 30 = _
    rw [e1, hx_sh (g := fun j => -dl (plc n) u v j) (fun j _ _ => by
      unfold dM dl
      rw [if_neg (by omega)]
      by_cases g : plc n u v = j
      · rw [if_pos g, if_pos (by omega)]
      · rw [if_neg g, if_neg (by omega)]; rfl), hx_neg, Int.neg_mul, Int.one_mul, Int.neg_mul]
    unfold PMt
    omega
theorem dM_bd {n sgn u v : Int} {CO : Int → Int → Int} {k : Nat} (hs : sgn = 1 ∨ sgn = -1) (hc : 0 ≤ CO u v ∧ CO u v ≤ 1000) : -1000 ≤ dM n CO sgn u v k ∧ dM n CO sgn u v k ≤ 1000 := by
  unfold dM
  by_cases g : k = 0
  · rw [if_pos g]
    rcases hs with rfl | rfl <;> omega
  · rw [if_neg g]
    by_cases q : (k : Int) - 1 = plc n u v
    · rw [if_pos q]; omega
    · rw [if_neg q]; omega
theorem hx_s {b : Int} {f : Nat → Int} {k d : Nat} : hx b f k (d + 1) = f k * b ^ d + hx b f (k + 1) d := rfl
/-- the comparison of two rows of digits, from the first on -/
theorem hx_cmp {B D : Int} {f g : Nat → Int} {k d : Nat} (hB : 2 ≤ B) (hD : 0 ≤ D) (hDB : D + 1 ≤ B) (h : ∀ j, k ≤ j → j < k + (d + 1) → -D ≤ f j - g j ∧ f j - g j ≤ D) : (f k = g k → (hx B f k (d + 1) < hx B g k (d + 1) ↔ hx B f (k + 1) d < hx B g (k + 1) d)) ∧ (f k ≠ g k → (hx B f k (d + 1) < hx B g k (d + 1) ↔ f k < g k)) := by
  have hr := hx_bd (b := B) (D := D) (f := fun j => f j + -g j) hB hD hDB (d := d) (k := k + 1) (fun j a c => by
    have := h j (by omega) (by omega)
    omega)
  rw [hx_add, hx_neg] at hr
  have hP := pow_pos' hB d
  refine ⟨fun e => ?_, fun e => ?_⟩
  · rw [hx_s, hx_s, e]
    omega
  · rw [hx_s, hx_s]
    generalize hx B f (k + 1) d = x at hr
    generalize hx B g (k + 1) d = y at hr
    have e2 : f k * B ^ d + x < g k * B ^ d + y ↔ (f k - g k) * B ^ d + (x - y) < 0 := by
      rw [Int.sub_mul]
      omega
    rw [e2]
    constructor
    · intro q
      have := hd_np (c := f k - g k) (r := x - y) (P := B ^ d) (by omega) (by omega) (by omega)
      omega
    · intro q
      have := Int.mul_le_mul_of_nonneg_right (show f k - g k ≤ -1 by omega) (show 0 ≤ B ^ d by omega)
      rw [Int.neg_mul, Int.one_mul] at this
      omega
theorem dM_ev {α : Type} {n e sgn u v : Int} {CO : Int → Int → Int} {μ : q_M} {k : Nat} {J : Int → Option α} (he : 0 ≤ e ∧ e < 48) (h13 : q_g μ 13 e = CO u v) (h14 : q_g μ 14 e = plc n u v) (hs : sgn = 1 ∨ sgn = -1) (hc : 0 ≤ CO u v ∧ CO u v ≤ 1000) (hk : k < 31) : (if (k : Int) = 0 then q_ld μ 13 48 e fun x28 => q_ck (sgn * x28) fun x29 => J x29 else q_ck ((k : Int) - 1) fun x25 => q_ld μ 14 48 e fun x26 => if x25 = x26 then J sgn else J 0) = J (dM n CO sgn u v k) := by
  unfold dM
  by_cases g : k = 0
  · rw [if_pos (by omega), if_pos g, z_ld he.1 (by omega), h13]
    rcases hs with rfl | rfl
    · rw [z_ck (by omega) (by omega)]
    · rw [z_ck (by omega) (by omega)]
  · rw [if_neg (by omega), if_neg g, z_ck (by omega) (by omega), z_ld he.1 (by omega), h14]
    by_cases q : (k : Int) - 1 = plc n u v
    · rw [if_pos q, if_pos q]
    · rw [if_neg q, if_neg q]
theorem relL42 {n e sgn u v f t B C : Int} {CO : Int → Int → Int} {μ : q_M} {V : Int → Nat → Int} {K : Int → Option (Int × q_M)} (hB : 2000000 ≤ B) (hC : 0 ≤ C ∧ C ≤ 900000) (he : 0 ≤ e ∧ e < 48) (h13 : q_g μ 13 e = CO u v) (h14 : q_g μ 14 e = plc n u v) (hs : sgn = 1 ∨ sgn = -1) (hc : 0 ≤ CO u v ∧ CO u v ≤ 1000) (hV : cV μ V) (hb : bV C V) (hf : nd f) (ht : nd t) : ∀ (d nf k : Nat), k + d = 31 → d < nf → f_M_relaxes_L42 (sw f) (sw t) e sgn μ K nf 0 0 k = K (if hx B (fun j => V f j + dM n CO sgn u v j) k d < hx B (V t) k d then 1 else 0) := by
  have f1 := (sw_nd hf).1
  have f2 := (sw_nd hf).2
  have t1 := (sw_nd ht).1
  have t2 := (sw_nd ht).2
  intro d
  induction d with
  | zero =>
    intro nf k h1 h2
    obtain ⟨nf, rfl⟩ : ∃ m, nf = m + 1 := ⟨nf - 1, by omega⟩
    rw [f_M_relaxes_L42, if_pos (by omega), if_neg (by simp [hx])]
  | succ d ih =>
    intro nf k h1 h2
    obtain ⟨nf, rfl⟩ : ∃ m, nf = m + 1 := ⟨nf - 1, by omega⟩
    obtain ⟨nf, rfl⟩ : ∃ m, nf = m + 1 := ⟨nf - 1, by omega⟩
    have bf := hb f hf k (by omega)
    have bt := hb t ht k (by omega)
    have bd := dM_bd (n := n) (k := k) hs hc
    have hcmp := hx_cmp (B := B) (D := 1801000) (f := fun j => V f j + dM n CO sgn u v j) (g := V t) (k := k) (d := d) (by omega) (by decide) (by omega) (fun j a c => by
      have b1 := hb f hf j (by omega)
      have b2 := hb t ht j (by omega)
      have b3 := dM_bd (n := n) (k := j) hs hc
      omega)
    rw [f_M_relaxes_L42, if_neg (by omega), if_pos rfl, z_ck (by omega) (by omega), z_ck (by omega) (by omega), z_ld (by omega) (by omega), hV f hf k (by omega)]
    simp only [z_jn]
    rw [dM_ev (n := n) (CO := CO) (u := u) (v := v) he h13 h14 hs hc (by omega), z_ck (by omega) (by omega), z_ck (by omega) (by omega), z_ck (by omega) (by omega), z_ld (by omega) (by omega), hV t ht k (by omega)]
    have eq : ∀ x, (q_ck (31 * sw t) fun x18 => q_ck (x18 + (k : Int)) fun x19 => q_ld μ 18 217 x19 fun x20 => if x20 ≤ V f k + dM n CO sgn u v k then (q_ck ((k : Int) + 1) fun x22 => f_M_relaxes_L42 (sw f) (sw t) e sgn μ K (nf + 1) 0 x x22) else q_ck ((k : Int) + 1) fun x22 => f_M_relaxes_L42 (sw f) (sw t) e sgn μ K (nf + 1) 1 x x22) = f_M_relaxes_L42 (sw f) (sw t) e sgn μ K (nf + 1) (if V t k ≤ V f k + dM n CO sgn u v k then 0 else 1) x ((k + 1 : Nat) : Int) := by
      intro x
      rw [z_ck (by omega) (by omega), z_ck (by omega) (by omega), z_ld (by omega) (by omega), hV t ht k (by omega), z_ck (by omega) (by omega), z_ck (by omega) (by omega)]
      by_cases q : V t k ≤ V f k + dM n CO sgn u v k
      · rw [if_pos q, if_pos q]; rfl
      · rw [if_neg q, if_neg q]; rfl
    rw [eq, eq]
    by_cases g : V f k + dM n CO sgn u v k = V t k
    · rw [if_pos g, if_pos (by omega), ih (nf + 1) (k + 1) (by omega) (by omega)]
      have := hcmp.1 g
      by_cases q : hx B (fun j => V f j + dM n CO sgn u v j) (k + 1) d < hx B (V t) (k + 1) d
      · rw [if_pos q, if_pos (this.mpr q)]
      · rw [if_neg q, if_neg (fun h => q (this.mp h))]
    · rw [if_neg g]
      have := hcmp.2 g
      have fin : ∀ x, f_M_relaxes_L42 (sw f) (sw t) e sgn μ K (nf + 1) x 1 ((k + 1 : Nat) : Int) = K x := by
        intro x
        rw [f_M_relaxes_L42]
        by_cases q : (31 : Int) ≤ ((k + 1 : Nat) : Int)
        · rw [if_pos q]
        · rw [if_neg q, if_neg (by decide)]
      rw [fin]
      by_cases q : V t k ≤ V f k + dM n CO sgn u v k
      · rw [if_pos q, if_neg (fun h => by have := this.mp h; omega)]
      · rw [if_neg q, if_pos (this.mpr (by show V f k + dM n CO sgn u v k < V t k; omega))]
def vup (V : Int → Nat → Int) (t : Int) (g : Nat → Int) : Int → Nat → Int := fun v k => if v = t then g k else V v k
theorem relL171 {n e sgn u v f t : Int} {CO : Int → Int → Int} {V : Int → Nat → Int} {C : Int} {K : q_M → Option (Int × q_M)} {N : Nat} {μ : q_M} (hN : 1000 ≤ N) (hC : 0 ≤ C ∧ C ≤ 900000) (he : 0 ≤ e ∧ e < 48) (h13 : q_g μ 13 e = CO u v) (h14 : q_g μ 14 e = plc n u v) (hs : sgn = 1 ∨ sgn = -1) (hc : 0 ≤ CO u v ∧ CO u v ≤ 1000) (hV : cV μ V) (hb : bV C V) (hf : nd f) (ht : nd t) (hft : f ≠ t) : ∃ μ', f_M_relaxes_L171 (sw f) (sw t) e sgn K N 0 μ = K μ' ∧ (∀ k, k ≠ 18 → q_g μ' k = q_g μ k) ∧ cV μ' (vup V t (fun j => V f j + dM n CO sgn u v j)) := by
  have f1 := (sw_nd hf).1
  have f2 := (sw_nd hf).2
  have t1 := (sw_nd ht).1
  have t2 := (sw_nd ht).2
  have hne : sw f ≠ sw t := fun q => hft (sw_inj q)
  obtain ⟨μ', a1, -, a2, a3⟩ := lp_wr (F := fun nf i μ => f_M_relaxes_L171 (sw f) (sw t) e sgn K nf i μ) (E := K) (k := 18) (b := 31) (off := 31 * sw t) (fun i => V f i.toNat + dM n CO sgn u v i.toNat) (fun ν => q_g ν 13 e = CO u v ∧ q_g ν 14 e = plc n u v ∧ ∀ j : Nat, j < 31 → q_g ν 18 (31 * sw f + j) = V f j) (by omega) (by
    intro nf ν _
    show f_M_relaxes_L171 (sw f) (sw t) e sgn K (nf + 1) 31 ν = K ν
    rw [f_M_relaxes_L171, if_pos (by decide)]) (by
    intro nf i ν hP h0 h1
    obtain ⟨p1, p2, p3⟩ := hP
    have hi : ((i.toNat : Nat) : Int) = i := by omega
    have bf := hb f hf i.toNat (by omega)
    have bd := dM_bd (n := n) (k := i.toNat) hs hc
    have e3 := p3 i.toNat (by omega)
    rw [hi] at e3
    refine ⟨?_, ?_⟩
    · show f_M_relaxes_L171 (sw f) (sw t) e sgn K (nf + 1) i ν = f_M_relaxes_L171 (sw f) (sw t) e sgn K nf (i + 1) (q_x ν 18 (31 * sw t + i) (V f i.toNat + dM n CO sgn u v i.toNat))
      rw [f_M_relaxes_L171, if_neg (by omega), z_ck (by omega) (by omega), z_ck (by omega) (by omega), z_ck (by omega) (by omega), z_ck (by omega) (by omega), z_ld (by omega) (by omega), e3]
      simp only [z_jn]
      have dv := dM_ev (α := Int × q_M) (n := n) (CO := CO) (u := u) (v := v) (sgn := sgn) (μ := ν) (k := i.toNat) (J := fun x41 => q_ck (V f i.toNat + x41) fun x42 => q_st ν 18 217 (31 * sw t + i) x42 fun μ43 => q_ck (i + 1) fun x44 => f_M_relaxes_L171 (sw f) (sw t) e sgn K nf x44 μ43) he p1 p2 hs hc (by omega)
      rw [hi] at dv
      rw [dv, z_ck (by omega) (by omega), z_st (by omega) (by omega), z_ck (by omega) (by omega)]
    · refine ⟨by rw [g_sn (by omega)]; exact p1, by rw [g_sn (by omega)]; exact p2, fun j hj => ?_⟩
      rw [g_s (by omega), u_n (by omega)]
      exact p3 j hj) 31 N 0 μ (by omega) (by omega) (by omega) ⟨h13, h14, fun j hj => hV f hf j hj⟩
  refine ⟨μ', a1, a2, fun x hx k hk => ?_⟩
  have x1 := (sw_nd hx).1
  have x2 := (sw_nd hx).2
  rw [a3]
  unfold vup
  by_cases g : x = t
  · rw [g, if_pos ⟨by omega, by omega⟩, if_pos rfl, show 31 * sw t + (k : Int) - 31 * sw t = k by omega, Int.toNat_natCast]
  · have : sw x ≠ sw t := fun q => g (sw_inj q)
    rw [if_neg (by omega), if_neg g]
    exact hV x hx k hk
theorem z_relaxes {N : Nat} {n e sgn u v f t w B C : Int} {CO : Int → Int → Int} {μ : q_M} {V : Int → Nat → Int} {rt : Bool} (hN : 1000 ≤ N) (hB : 2000000 ≤ B) (hC : 0 ≤ C ∧ C ≤ 900000) (he : 0 ≤ e ∧ e < 48) (hw : (w = e ∧ sgn = 1) ∨ (w = e + 100 ∧ sgn = -1)) (h13 : q_g μ 13 e = CO u v) (h14 : q_g μ 14 e = plc n u v) (hc : 0 ≤ CO u v ∧ CO u v ≤ 1000) (hV : cV μ V) (hb : bV C V) (hf : nd f) (ht : nd t) (hft : f ≠ t) (hr : q_g μ 17 (sw t) = bi rt) :
    ∃ y μ', f_M_relaxes N (sw f) (sw t) w μ = some (y, μ') ∧ ((y = 0 ∧ μ' = μ ∧ rt = true ∧ hx B (V t) 0 31 ≤ hx B (fun j => V f j + dM n CO sgn u v j) 0 31) ∨ (y = 1 ∧ (rt = false ∨ hx B (fun j => V f j + dM n CO sgn u v j) 0 31 < hx B (V t) 0 31) ∧ (∀ k, k ≠ 17 → k ≠ 18 → k ≠ 19 → q_g μ' k = q_g μ k) ∧ cV μ' (vup V t (fun j => V f j + dM n CO sgn u v j)) ∧ q_g μ' 17 = q_u (q_g μ 17) (sw t) 1 ∧ q_g μ' 19 = q_u (q_g μ 19) (sw t) w)) := by
  have t1 := (sw_nd ht).1
  have t2 := (sw_nd ht).2
  have hs : sgn = 1 ∨ sgn = -1 := by omega
  have hwm : w % 100 = e := by omega
  unfold f_M_relaxes
  unfold q_rm
  rw [if_pos ⟨by omega, by decide⟩, hwm]
  simp only [z_jn]
  have body : ∀ J : Int → Option (Int × q_M), (if 100 ≤ w then J (-1) else J 1) = J sgn := by
    intro J
    rcases hw with ⟨a, b⟩ | ⟨a, b⟩
    · rw [if_neg (by omega), b]
    · rw [if_pos (by omega), b]
  have b2 := body (fun x2 => q_ld μ 17 7 (sw t) fun x3 => if x3 = 0 then f_M_relaxes_L42 (sw f) (sw t) e x2 μ (fun x8 => if x8 = 0 then some (0, μ) else f_M_relaxes_L171 (sw f) (sw t) e x2 (fun μ35 => q_stz μ35 17 7 (sw t) 1 fun μ52 => q_st μ52 19 7 (sw t) w fun μ53 => some (1, μ53)) N 0 μ) N 1 1 0 else f_M_relaxes_L42 (sw f) (sw t) e x2 μ (fun x8 => if x8 = 0 then some (0, μ) else f_M_relaxes_L171 (sw f) (sw t) e x2 (fun μ35 => q_stz μ35 17 7 (sw t) 1 fun μ52 => q_st μ52 19 7 (sw t) w fun μ53 => some (1, μ53)) N 0 μ) N 0 0 0)
  rw [b2, z_ld t1 (by omega), hr]
  have wr : ∃ μ', f_M_relaxes_L171 (sw f) (sw t) e sgn (fun μ35 => q_stz μ35 17 7 (sw t) 1 fun μ52 => q_st μ52 19 7 (sw t) w fun μ53 => some (1, μ53)) N 0 μ = some (1, μ') ∧ (∀ k, k ≠ 17 → k ≠ 18 → k ≠ 19 → q_g μ' k = q_g μ k) ∧ cV μ' (vup V t (fun j => V f j + dM n CO sgn u v j)) ∧ q_g μ' 17 = q_u (q_g μ 17) (sw t) 1 ∧ q_g μ' 19 = q_u (q_g μ 19) (sw t) w := by
    obtain ⟨μ1, a1, a2, a3⟩ := relL171 (K := fun μ35 => q_stz μ35 17 7 (sw t) 1 fun μ52 => q_st μ52 19 7 (sw t) w fun μ53 => some (1, μ53)) hN hC he h13 h14 hs hc hV hb hf ht hft
    rw [a1, z_stz t1 (by omega) (Or.inr rfl), z_st t1 (by omega)]
    refine ⟨_, rfl, fun k k1 k2 k3 => by rw [g_sn k3, g_sn k1, a2 k k2], fun x hx k hk => ?_, ?_, ?_⟩
    · rw [g_sn (by omega), g_sn (by omega)]
      exact a3 x hx k hk
    · rw [g_sn (by omega), g_s t1, a2 _ (by omega)]
    · rw [g_s t1, g_sn (by omega), a2 _ (by omega)]
  cases rt with
  | false =>
    obtain ⟨μ', c1, c2⟩ := wr
    obtain ⟨M, rfl⟩ : ∃ m, N = m + 1 := ⟨N - 1, by omega⟩
    rw [if_pos (by decide), f_M_relaxes_L42, if_neg (by decide), if_neg (by decide), if_neg (by decide), c1]
    exact ⟨1, μ', rfl, Or.inr ⟨rfl, Or.inl rfl, c2⟩⟩
  | true =>
    have h42 := relL42 (K := fun x8 => if x8 = 0 then some (0, μ) else f_M_relaxes_L171 (sw f) (sw t) e sgn (fun μ35 => q_stz μ35 17 7 (sw t) 1 fun μ52 => q_st μ52 19 7 (sw t) w fun μ53 => some (1, μ53)) N 0 μ) hB hC he h13 h14 hs hc hV hb hf ht 31 N 0 (by omega) (by omega)
    rw [if_neg (by decide)]
    rw [show ((0 : Nat) : Int) = 0 from rfl] at h42
    rw [h42]
    by_cases q : hx B (fun j => V f j + dM n CO sgn u v j) 0 31 < hx B (V t) 0 31
    · obtain ⟨μ', c1, c2⟩ := wr
      rw [if_pos q, if_neg (by decide), c1]
      exact ⟨1, μ', rfl, Or.inr ⟨rfl, Or.inr q, c2⟩⟩
    · rw [if_neg q, if_pos rfl]
      exact ⟨0, μ, rfl, Or.inl ⟨rfl, rfl, rfl, by omega⟩⟩
