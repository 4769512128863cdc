/-! two best flows are one -/
def ns (f : Nat → Int) : Nat → Nat → Int
  | _, 0 => 0
  | i, d + 1 => f i + ns f (i + 1) d
theorem ns_le {f g : Nat → Int} : ∀ {d i : Nat}, (∀ m, i ≤ m → m < i + d → f m ≤ g m) → ns f i d ≤ ns g i d
  | 0, _, _ => Int.le_refl _
  | d + 1, i, h => by
    have h1 := h i (by omega) (by omega)
    have h2 := ns_le (f := f) (g := g) (d := d) (i := i + 1) (fun m a b => h m (by omega) (by omega))
    unfold ns
    omega
theorem ns_add {f g : Nat → Int} : ∀ {d i : Nat}, ns (fun m => f m + g m) i d = ns f i d + ns g i d
  | 0, _ => rfl
  | d + 1, i => by
    unfold ns
    rw [ns_add (d := d) (i := i + 1)]
    omega
theorem ns_mul {f : Nat → Int} {k : Int} : ∀ {d i : Nat}, ns (fun m => f m * k) i d = ns f i d * k
  | 0, _ => by simp [ns]
  | d + 1, i => by
    unfold ns
    rw [ns_mul (d := d) (i := i + 1), Int.add_mul]
theorem ns_tele {g : Nat → Int} : ∀ {d i : Nat}, ns (fun m => g m - g (m + 1)) i d = g i - g (i + d)
  | 0, _ => by simp [ns]
  | d + 1, i => by
    unfold ns
    rw [ns_tele (d := d) (i := i + 1), show i + 1 + d = i + (d + 1) by omega]
    omega
theorem ns_zero {f : Nat → Int} : ∀ {d i : Nat}, (∀ m, i ≤ m → m < i + d → f m = 0) → ns f i d = 0
  | 0, _, _ => rfl
  | d + 1, i, h => by
    unfold ns
    rw [h i (by omega) (by omega), ns_zero (fun m a b => h m (by omega) (by omega))]
    rfl
theorem ns_one {f : Nat → Int} {p : Nat} : ∀ {d i : Nat}, i ≤ p → p < i + d → (∀ m, i ≤ m → m < i + d → m ≠ p → f m = 0) → ns f i d = f p
  | 0, _, h0, h1, _ => absurd h1 (by omega)
  | d + 1, i, h0, h1, h => by
    unfold ns
    by_cases e : i = p
    · subst e
      rw [ns_zero (fun m a b => h m (by omega) (by omega) (by omega))]
      omega
    · rw [h i (by omega) (by omega) e, ns_one (p := p) (d := d) (i := i + 1) (by omega) (by omega) (fun m a b c => h m (by omega) (by omega) c)]
      omega
/-- digits -/
def hx (b : Int) (f : Nat → Int) : Nat → Nat → Int
  | _, 0 => 0
  | k, d + 1 => f k * b ^ d + hx b f (k + 1) d
theorem hx_neg {b : Int} {f : Nat → Int} : ∀ {d k : Nat}, hx b (fun j => -f j) k d = -hx b f k d
  | 0, _ => rfl
  | d + 1, k => by
    unfold hx
    rw [hx_neg (d := d) (k := k + 1), Int.neg_mul]
    omega
theorem hx_cong {b : Int} {f g : Nat → Int} : ∀ {d k : Nat}, (∀ j, k ≤ j → j < k + d → f j = g j) → hx b f k d = hx b g k d
  | 0, _, _ => rfl
  | d + 1, k, h => by
    unfold hx
    rw [h k (by omega) (by omega), hx_cong (d := d) (k := k + 1) (fun j a c => h j (by omega) (by omega))]
theorem hx_add {b : Int} {f g : Nat → Int} : ∀ {d k : Nat}, hx b (fun j => f j + g j) k d = hx b f k d + hx b g k d
  | 0, _ => rfl
  | d + 1, k => by
    unfold hx
    rw [hx_add (d := d) (k := k + 1), Int.add_mul]
    omega
theorem hx_zero {b : Int} : ∀ {d k : Nat}, hx b (fun _ => 0) k d = 0
  | 0, _ => rfl
  | d + 1, k => by
    unfold hx
    rw [hx_zero (d := d) (k := k + 1)]
    simp
theorem hx_ns {b : Int} {F : Nat → Nat → Int} {k e : Nat} : ∀ {d i : Nat}, hx b (fun j => ns (fun m => F m j) i d) k e = ns (fun m => hx b (F m) k e) i d
  | 0, i => by
    simp only [ns]
    exact hx_zero
  | d + 1, i => by
    simp only [ns]
    rw [hx_add, hx_ns (d := d) (i := i + 1)]
theorem pow_pos' {b : Int} (hb : 2 ≤ b) : ∀ d : Nat, 1 ≤ b ^ d
  | 0 => by simp
  | d + 1 => by
    have h1 := pow_pos' hb d
    have h2 := Int.mul_le_mul_of_nonneg_left (show 1 ≤ b by omega) (show 0 ≤ b ^ d by omega)
    rw [Int.pow_succ]
    omega
theorem hx_bd {b D : Int} {f : Nat → Int} (hb : 2 ≤ b) (hD : 0 ≤ D) (hD' : D + 1 ≤ b) : ∀ {d k : Nat}, (∀ j, k ≤ j → j < k + d → -D ≤ f j ∧ f j ≤ D) → -(b ^ d) < hx b f k d ∧ hx b f k d < b ^ d
  | 0, _, _ => by simp [hx]
  | d + 1, k, h => by
    have h1 := h k (by omega) (by omega)
    have h2 := hx_bd hb hD hD' (d := d) (k := k + 1) (fun j a c => h j (by omega) (by omega))
    have h3 := pow_pos' hb d
    have h4 := Int.mul_le_mul_of_nonneg_right h1.2 (show 0 ≤ b ^ d by omega)
    have h5 := Int.mul_le_mul_of_nonneg_right h1.1 (show 0 ≤ b ^ d by omega)
    have h6 := Int.mul_le_mul_of_nonneg_right hD' (show 0 ≤ b ^ d by omega)
    rw [Int.add_mul, Int.one_mul] at h6
    rw [Int.neg_mul] at h5
    rw [Int.pow_succ, Int.mul_comm (b ^ d) b]
    unfold hx
    omega
/-- a head above digits: its sign decides -/
theorem hd_nn {c r P : Int} (hr : r < P) (h : 0 ≤ c * P + r) (hP : 0 < P) : 0 ≤ c := by
  refine Classical.byContradiction fun g => ?_
  have := Int.mul_le_mul_of_nonneg_right (show c ≤ -1 by omega) (show 0 ≤ P by omega)
  rw [Int.neg_mul, Int.one_mul] at this
  omega
theorem hd_np {c r P : Int} (hr : -P < r) (h : c * P + r ≤ 0) (hP : 0 < P) : c ≤ 0 := by
  refine Classical.byContradiction fun g => ?_
  have := Int.mul_le_mul_of_nonneg_right (show 1 ≤ c by omega) (show 0 ≤ P by omega)
  rw [Int.one_mul] at this
  omega
theorem hx_all0 {b : Int} {f : Nat → Int} (hb : 2 ≤ b) : ∀ {d k : Nat}, (∀ j, k ≤ j → j < k + d → -1 ≤ f j ∧ f j ≤ 1) → 0 ≤ hx 2 f k d → hx b f k d ≤ 0 → ∀ j, k ≤ j → j < k + d → f j = 0
  | 0, _, _, _, _, j, h1, h2 => absurd h2 (by omega)
  | d + 1, k, h, g1, g2, j, h1, h2 => by
    have p1 := hx_bd (b := 2) (D := 1) (f := f) (by decide) (by decide) (by decide) (d := d) (k := k + 1) (fun j a c => h j (by omega) (by omega))
    have p2 := hx_bd (b := b) (D := 1) (f := f) hb (by decide) (by omega) (d := d) (k := k + 1) (fun j a c => h j (by omega) (by omega))
    have q1 := pow_pos' (b := 2) (by decide) d
    have q2 := pow_pos' hb d
    unfold hx at g1 g2
    have c1 := hd_nn p1.2 g1 (by omega)
    have c2 := hd_np p2.1 g2 (by omega)
    have c0 : f k = 0 := by omega
    rw [c0, Int.zero_mul, Int.zero_add] at g1 g2
    by_cases e : j = k
    · rw [e]; exact c0
    · exact hx_all0 hb (d := d) (k := k + 1) (fun j a c => h j (by omega) (by omega)) g1 g2 j (by omega) (by omega)
/-- pigeons -/
theorem php : ∀ (n : Nat) (f : Nat → Int), (∀ k, k ≤ n → 0 ≤ f k ∧ f k < n) → ∃ i j, i < j ∧ j ≤ n ∧ f i = f j
  | 0, f, h => by
    have := h 0 (Nat.le_refl 0)
    omega
  | n + 1, f, h => by
    by_cases e : ∃ i, i ≤ n ∧ f i = f (n + 1)
    · obtain ⟨i, h1, h2⟩ := e
      exact ⟨i, n + 1, by omega, Nat.le_refl _, h2⟩
    · have hc := h (n + 1) (Nat.le_refl _)
      have hne : ∀ i, i ≤ n → f i ≠ f (n + 1) := fun i hi g => e ⟨i, hi, g⟩
      obtain ⟨i, j, h1, h2, h3⟩ := php n (fun k => if f (n + 1) < f k then f k - 1 else f k) (fun k hk => by
        have h1 := h k (by omega)
        have h2 := hne k hk
        by_cases g : f (n + 1) < f k
        · rw [if_pos g]; omega
        · rw [if_neg g]; omega)
      refine ⟨i, j, h1, by omega, ?_⟩
      have a1 := hne i (by omega)
      have a2 := hne j (by omega)
      by_cases g : f (n + 1) < f i
      · by_cases g2 : f (n + 1) < f j
        · rw [if_pos g, if_pos g2] at h3; omega
        · rw [if_pos g, if_neg g2] at h3; omega
      · by_cases g2 : f (n + 1) < f j
        · rw [if_neg g, if_pos g2] at h3; omega
        · rw [if_neg g, if_neg g2] at h3; exact h3
theorem least {P : Nat → Prop} : ∀ (n : Nat), P n → ∃ m, P m ∧ ∀ k, k < m → ¬ P k := by
  intro n
  induction n using Nat.strongRecOn with
  | ind n ih =>
    intro h
    by_cases e : ∃ k, k < n ∧ P k
    · obtain ⟨k, h1, h2⟩ := e
      exact ih k h1 h2
    · exact ⟨n, h, fun k hk g => e ⟨k, hk, g⟩⟩
section UQ
variable {X Y LO HX HY PC PM cost place : Int → Int → Int} {p1 p2 : Int → Int} {B : Int}
def Db (X Y : Int → Int → Int) (u v : Int) : Bool := decide (Y u v < X u v) || decide (X v u < Y v u)
def nx (X Y : Int → Int → Int) (v : Int) : Int := fi (Db X Y v) 0 7
def wlk (X Y : Int → Int → Int) (v0 : Int) : Nat → Int
  | 0 => v0
  | k + 1 => nx X Y (wlk X Y v0 k)
theorem Db_t {u v : Int} : Db X Y u v = true ↔ (Y u v < X u v ∨ X v u < Y v u) := by
  unfold Db
  simp only [Bool.or_eq_true, decide_eq_true_eq]
theorem nx_of {v w : Int} (hw : nd w) (h : Db X Y v w = true) : nd (nx X Y v) ∧ Db X Y v (nx X Y v) = true := by
  obtain ⟨h1, h2, h3, h4⟩ := fi_in (p := Db X Y v) (d := 7) (i := 0)
  have h5 : fi (Db X Y v) 0 7 < 7 := by
    refine Classical.byContradiction fun g => ?_
    have := h4 w hw.1 (by have := hw.2; omega)
    rw [h] at this
    cases this
  exact ⟨⟨h1, h5⟩, h3 (by omega)⟩
theorem Db_on {u v : Int} (hu : nd u) (hv : nd v) (hn : nt X v = nt Y v) (h : Db X Y u v = true) : ∃ w, nd w ∧ Db X Y v w = true := by
  refine Classical.byContradiction fun g => ?_
  have hno : ∀ w, nd w → ¬ (Y v w < X v w) ∧ ¬ (X w v < Y w v) := fun w hw => ⟨fun q => g ⟨w, hw, Db_t.mpr (Or.inl q)⟩, fun q => g ⟨w, hw, Db_t.mpr (Or.inr q)⟩⟩
  rw [Db_t] at h
  have hu' := hno u hu
  have : nt Y v < nt X v := by
    refine sm_lt (p := u) hu.1 (by have := hu.2; omega) (fun j a b => ?_) ?_
    · have := hno j ⟨a, by omega⟩
      omega
    · show Y u v - Y v u < X u v - X v u
      omega
  omega
theorem wlk_ok {v0 : Int} (h0 : nd v0) (hn : ∀ v, nd v → nt X v = nt Y v) (h : ∃ w, nd w ∧ Db X Y v0 w = true) : ∀ k, nd (wlk X Y v0 k) ∧ ∃ w, nd w ∧ Db X Y (wlk X Y v0 k) w = true
  | 0 => ⟨h0, h⟩
  | k + 1 => by
    obtain ⟨a, w, b, c⟩ := wlk_ok h0 hn h k
    have g := nx_of b c
    exact ⟨g.1, Db_on a g.1 (hn _ g.1) g.2⟩
def dgt (X Y place : Int → Int → Int) (u v : Int) (j : Nat) : Int := if Y u v < X u v then (if place u v = j then 1 else 0) else (if place v u = j then -1 else 0)
def dl (place : Int → Int → Int) (u v : Int) (j : Nat) : Int := if place u v = j then 1 else 0
def csg (X Y cost : Int → Int → Int) (u v : Int) : Int := if Y u v < X u v then cost u v else -cost v u
theorem prc {b : Int} {P : Int → Int → Int} {u v : Int} (h1 : P u v = cost u v * b ^ 30 + hx b (dl place u v) 0 30) (h2 : P v u = cost v u * b ^ 30 + hx b (dl place v u) 0 30) : (if Y u v < X u v then P u v else -P v u) = csg X Y cost u v * b ^ 30 + hx b (dgt X Y place u v) 0 30 := by
  unfold csg
  by_cases g : Y u v < X u v
  · rw [if_pos g, if_pos g, h1, hx_cong (f := dgt X Y place u v) (g := dl place u v) (fun j _ _ => by unfold dgt dl; rw [if_pos g])]
  · rw [if_neg g, if_neg g, h2, hx_cong (f := dgt X Y place u v) (g := fun j => -dl place v u j) (fun j _ _ => by
      unfold dgt dl
      rw [if_neg g]
      by_cases e : place v u = j
      · rw [if_pos e, if_pos e]
      · rw [if_neg e, if_neg e]; rfl), hx_neg, Int.neg_mul]
    omega
theorem uniq (hB : 2 ≤ B) (hX : ∀ u v, nd u → nd v → LO u v ≤ X u v ∧ X u v ≤ HY u v) (hY : ∀ u v, nd u → nd v → LO u v ≤ Y u v ∧ Y u v ≤ HX u v) (hn : ∀ v, nd v → nt X v = nt Y v)
    (hM : mp LO HX PM X p1) (hC : mp LO HY PC Y p2) (hPC : ∀ u v, nd u → nd v → PC u v = cost u v * 2 ^ 30 + hx 2 (dl place u v) 0 30) (hPM : ∀ u v, nd u → nd v → PM u v = cost u v * B ^ 30 + hx B (dl place u v) 0 30)
    (hi : ∀ u v u' v', nd u → nd v → nd u' → nd v' → 0 ≤ place u v → place u v = place u' v' → u = u' ∧ v = v') (h30 : ∀ u v, nd u → nd v → place u v < 30)
    (hU : ∀ u v, nd u → nd v → place u v < 0 → X u v ≠ Y u v → (v = 6 ∧ u ≠ 6 ∧ u ≠ 5) ∨ (u = 6 ∧ v = 5)) : ∀ u v, nd u → nd v → X u v = Y u v := by
  intro a b ha hb
  refine Classical.byContradiction fun hne => ?_
  have hst : ∃ v0, nd v0 ∧ ∃ w, nd w ∧ Db X Y v0 w = true := by
    by_cases g : Y a b < X a b
    · exact ⟨a, ha, b, hb, Db_t.mpr (Or.inl g)⟩
    · exact ⟨b, hb, a, ha, Db_t.mpr (Or.inr (by omega))⟩
  obtain ⟨v0, h0, hw0⟩ := hst
  have hs := wlk_ok h0 hn hw0
  have hst : ∀ k, Db X Y (wlk X Y v0 k) (wlk X Y v0 (k + 1)) = true := fun k => by
    obtain ⟨c1, w, c2, c3⟩ := hs k
    exact (nx_of c2 c3).2
  generalize hsq : wlk X Y v0 = s at hs hst
  have hsx : ∀ k, s (k + 1) = nx X Y (s k) := fun k => by rw [← hsq]; rfl
  have hnd : ∀ k, nd (s k) := fun k => (hs k).1
  obtain ⟨i0, j0, q1, q2, q3⟩ := php 7 s (fun k _ => hnd k)
  obtain ⟨j, ⟨i, hij, hsij⟩, hmin⟩ := least (P := fun j => ∃ i, i < j ∧ s i = s j) j0 ⟨i0, q1, q3⟩
  have hdis : ∀ m m', i ≤ m → m < j → i ≤ m' → m' < j → s m = s m' → m = m' := by
    intro m m' a1 a2 a3 a4 e
    rcases Nat.lt_trichotomy m m' with g | g | g
    · exact absurd ⟨m, g, e⟩ (hmin m' a4)
    · exact g
    · exact absurd ⟨m', g, e.symm⟩ (hmin m a2)
  have hlen : i + (j - i) = j := by omega
  -- sums of the prices around
  have sC : 0 ≤ ns (fun m => if Y (s m) (s (m + 1)) < X (s m) (s (m + 1)) then PC (s m) (s (m + 1)) else -PC (s (m + 1)) (s m)) i (j - i) := by
    have t := ns_tele (g := fun m => p2 (s (m + 1)) - p2 (s (m + 1))) (d := j - i) (i := i)
    have t2 := ns_tele (g := fun m => p2 (s m)) (d := j - i) (i := i)
    rw [hlen, hsij, Int.sub_self] at t2
    have := ns_le (f := fun m => 0) (g := fun m => (if Y (s m) (s (m + 1)) < X (s m) (s (m + 1)) then PC (s m) (s (m + 1)) else -PC (s (m + 1)) (s m)) + (p2 (s m) - p2 (s (m + 1)))) (d := j - i) (i := i) (fun m a1 a2 => by
      have e := hst m
      rw [Db_t] at e
      have n1 := hnd m
      have n2 := hnd (m + 1)
      by_cases g : Y (s m) (s (m + 1)) < X (s m) (s (m + 1))
      · rw [if_pos g]
        have := (hC _ _ n1 n2).1 (by have := hX _ _ n1 n2; omega)
        omega
      · rw [if_neg g]
        have := (hC _ _ n2 n1).2 (by have := hX _ _ n2 n1; omega)
        omega)
    rw [ns_add, t2, ns_zero (fun _ _ _ => rfl)] at this
    omega
  have sM : ns (fun m => if Y (s m) (s (m + 1)) < X (s m) (s (m + 1)) then PM (s m) (s (m + 1)) else -PM (s (m + 1)) (s m)) i (j - i) ≤ 0 := by
    have t2 := ns_tele (g := fun m => p1 (s m)) (d := j - i) (i := i)
    rw [hlen, hsij, Int.sub_self] at t2
    have := ns_le (g := fun m => 0) (f := fun m => (if Y (s m) (s (m + 1)) < X (s m) (s (m + 1)) then PM (s m) (s (m + 1)) else -PM (s (m + 1)) (s m)) + (p1 (s m) - p1 (s (m + 1)))) (d := j - i) (i := i) (fun m a1 a2 => by
      have e := hst m
      rw [Db_t] at e
      have n1 := hnd m
      have n2 := hnd (m + 1)
      by_cases g : Y (s m) (s (m + 1)) < X (s m) (s (m + 1))
      · rw [if_pos g]
        have := (hM _ _ n1 n2).2 (by have := hY _ _ n1 n2; omega)
        omega
      · rw [if_neg g]
        have := (hM _ _ n2 n1).1 (by have := hY _ _ n2 n1; omega)
        omega)
    rw [ns_add, t2] at this
    rw [ns_zero (f := fun _ => 0) (fun _ _ _ => rfl)] at this
    omega
  -- as digits
  have eC : ∀ m, (if Y (s m) (s (m + 1)) < X (s m) (s (m + 1)) then PC (s m) (s (m + 1)) else -PC (s (m + 1)) (s m)) = csg X Y cost (s m) (s (m + 1)) * 2 ^ 30 + hx 2 (dgt X Y place (s m) (s (m + 1))) 0 30 := fun m => prc (hPC _ _ (hnd _) (hnd _)) (hPC _ _ (hnd _) (hnd _))
  have eM : ∀ m, (if Y (s m) (s (m + 1)) < X (s m) (s (m + 1)) then PM (s m) (s (m + 1)) else -PM (s (m + 1)) (s m)) = csg X Y cost (s m) (s (m + 1)) * B ^ 30 + hx B (dgt X Y place (s m) (s (m + 1))) 0 30 := fun m => prc (hPM _ _ (hnd _) (hnd _)) (hPM _ _ (hnd _) (hnd _))
  simp only [eC] at sC
  simp only [eM] at sM
  rw [ns_add, ns_mul, ← hx_ns (F := fun m => dgt X Y place (s m) (s (m + 1)))] at sC sM
  -- one step at most for each place
  have hone : ∀ (q : Nat) m m', i ≤ m → m < j → i ≤ m' → m' < j → dgt X Y place (s m) (s (m + 1)) q ≠ 0 → dgt X Y place (s m') (s (m' + 1)) q ≠ 0 → m = m' := by
    intro q m m' a1 a2 a3 a4 z1 z2
    unfold dgt at z1 z2
    have e1 := hst m
    have e2 := hst m'
    rw [Db_t] at e1 e2
    by_cases g1 : Y (s m) (s (m + 1)) < X (s m) (s (m + 1))
    · rw [if_pos g1] at z1
      have z1' : place (s m) (s (m + 1)) = q := Classical.byContradiction fun h => z1 (if_neg h)
      by_cases g2 : Y (s m') (s (m' + 1)) < X (s m') (s (m' + 1))
      · rw [if_pos g2] at z2
        have z2' : place (s m') (s (m' + 1)) = q := Classical.byContradiction fun h => z2 (if_neg h)
        exact hdis m m' a1 a2 a3 a4 (hi (s m) (s (m + 1)) (s m') (s (m' + 1)) (hnd _) (hnd _) (hnd _) (hnd _) (by omega) (by omega)).1
      · rw [if_neg g2] at z2
        have z2' : place (s (m' + 1)) (s m') = q := Classical.byContradiction fun h => z2 (if_neg h)
        have := hi (s m) (s (m + 1)) (s (m' + 1)) (s m') (hnd _) (hnd _) (hnd _) (hnd _) (by omega) (by omega)
        rw [← this.1, ← this.2] at e2 g2
        omega
    · rw [if_neg g1] at z1
      have z1' : place (s (m + 1)) (s m) = q := Classical.byContradiction fun h => z1 (if_neg h)
      by_cases g2 : Y (s m') (s (m' + 1)) < X (s m') (s (m' + 1))
      · rw [if_pos g2] at z2
        have z2' : place (s m') (s (m' + 1)) = q := Classical.byContradiction fun h => z2 (if_neg h)
        have := hi (s (m + 1)) (s m) (s m') (s (m' + 1)) (hnd _) (hnd _) (hnd _) (hnd _) (by omega) (by omega)
        rw [this.1, this.2] at e1 g1
        omega
      · rw [if_neg g2] at z2
        have z2' : place (s (m' + 1)) (s m') = q := Classical.byContradiction fun h => z2 (if_neg h)
        exact hdis m m' a1 a2 a3 a4 (hi (s (m + 1)) (s m) (s (m' + 1)) (s m') (hnd _) (hnd _) (hnd _) (hnd _) (by omega) (by omega)).2
  have hd1 : ∀ u v q, -1 ≤ dgt X Y place u v q ∧ dgt X Y place u v q ≤ 1 := by
    intro u v q
    unfold dgt
    by_cases g : Y u v < X u v
    · rw [if_pos g]
      by_cases e : place u v = q
      · rw [if_pos e]; omega
      · rw [if_neg e]; omega
    · rw [if_neg g]
      by_cases e : place v u = q
      · rw [if_pos e]; omega
      · rw [if_neg e]; omega
  have hsum : ∀ q m, i ≤ m → m < j → dgt X Y place (s m) (s (m + 1)) q ≠ 0 → ns (fun m => dgt X Y place (s m) (s (m + 1)) q) i (j - i) = dgt X Y place (s m) (s (m + 1)) q := fun q m a1 a2 z => ns_one (f := fun m => dgt X Y place (s m) (s (m + 1)) q) a1 (by omega) (fun m' b1 b2 b3 => Classical.byContradiction fun g => b3 (hone q m' m b1 (by omega) a1 a2 g z))
  have hdb : ∀ q, -1 ≤ ns (fun m => dgt X Y place (s m) (s (m + 1)) q) i (j - i) ∧ ns (fun m => dgt X Y place (s m) (s (m + 1)) q) i (j - i) ≤ 1 := by
    intro q
    by_cases e : ∃ m, i ≤ m ∧ m < j ∧ dgt X Y place (s m) (s (m + 1)) q ≠ 0
    · obtain ⟨m, a1, a2, z⟩ := e
      rw [hsum q m a1 a2 z]
      exact hd1 _ _ _
    · rw [ns_zero (fun m b1 b2 => Classical.byContradiction fun g => e ⟨m, b1, by omega, g⟩)]
      omega
  have pw1 := pow_pos' (b := 2) (by decide) 30
  have pw2 := pow_pos' hB 30
  have b1 := hx_bd (b := 2) (D := 1) (f := fun q => ns (fun m => dgt X Y place (s m) (s (m + 1)) q) i (j - i)) (by decide) (by decide) (by decide) (d := 30) (k := 0) (fun q _ _ => hdb q)
  have b2 := hx_bd (b := B) (D := 1) (f := fun q => ns (fun m => dgt X Y place (s m) (s (m + 1)) q) i (j - i)) hB (by decide) (by omega) (d := 30) (k := 0) (fun q _ _ => hdb q)
  have c1 := hd_nn b1.2 sC (by omega)
  have c2 := hd_np b2.1 sM (by omega)
  have c0 : ns (fun m => csg X Y cost (s m) (s (m + 1))) i (j - i) = 0 := by omega
  rw [c0, Int.zero_mul, Int.zero_add] at sC sM
  have hz := hx_all0 hB (fun q _ _ => hdb q) sC sM
  -- no step has a price
  have hup : ∀ m, i ≤ m → m < j → (Y (s m) (s (m + 1)) < X (s m) (s (m + 1)) → place (s m) (s (m + 1)) < 0) ∧ (¬ Y (s m) (s (m + 1)) < X (s m) (s (m + 1)) → place (s (m + 1)) (s m) < 0) := by
    intro m a1 a2
    refine ⟨fun g => Classical.byContradiction fun e => ?_, fun g => Classical.byContradiction fun e => ?_⟩
    · have l := h30 _ _ (hnd m) (hnd (m + 1))
      have hd : dgt X Y place (s m) (s (m + 1)) (place (s m) (s (m + 1))).toNat = 1 := by
        unfold dgt
        rw [if_pos g, if_pos (by omega)]
      have := hz (place (s m) (s (m + 1))).toNat (by omega) (by omega)
      rw [hsum _ m a1 a2 (by rw [hd]; decide), hd] at this
      exact absurd this (by decide)
    · have l := h30 _ _ (hnd (m + 1)) (hnd m)
      have hd : dgt X Y place (s m) (s (m + 1)) (place (s (m + 1)) (s m)).toNat = -1 := by
        unfold dgt
        rw [if_neg g, if_pos (by omega)]
      have := hz (place (s (m + 1)) (s m)).toNat (by omega) (by omega)
      rw [hsum _ m a1 a2 (by rw [hd]; decide), hd] at this
      exact absurd this (by decide)
  -- the same behind the circle
  have hper : ∀ e, ∃ m', i ≤ m' ∧ m' < j ∧ s m' = s (i + e) := by
    intro e
    induction e with
    | zero => exact ⟨i, Nat.le_refl _, hij, rfl⟩
    | succ e ih =>
      obtain ⟨m', c1, c2, c3⟩ := ih
      have c4 : s (m' + 1) = s (i + (e + 1)) := by
        rw [show i + (e + 1) = (i + e) + 1 by omega, hsx, hsx, c3]
      by_cases g : m' + 1 = j
      · exact ⟨i, Nat.le_refl _, hij, by rw [hsij, ← g, c4]⟩
      · exact ⟨m' + 1, by omega, by omega, c4⟩
  have hst2 : ∀ e, (Y (s (i + e)) (s (i + e + 1)) < X (s (i + e)) (s (i + e + 1)) ∧ ((s (i + e + 1) = 6 ∧ s (i + e) ≠ 6 ∧ s (i + e) ≠ 5) ∨ (s (i + e) = 6 ∧ s (i + e + 1) = 5))) ∨ (X (s (i + e + 1)) (s (i + e)) < Y (s (i + e + 1)) (s (i + e)) ∧ ((s (i + e) = 6 ∧ s (i + e + 1) ≠ 6 ∧ s (i + e + 1) ≠ 5) ∨ (s (i + e + 1) = 6 ∧ s (i + e) = 5))) := by
    intro e
    obtain ⟨m', c1, c2, c3⟩ := hper e
    have c4 : s (m' + 1) = s (i + e + 1) := by rw [hsx, hsx, c3]
    have h1 := hup m' c1 c2
    have h2 := hst m'
    rw [Db_t] at h2
    rw [c3, c4] at h1 h2
    by_cases g : Y (s (i + e)) (s (i + e + 1)) < X (s (i + e)) (s (i + e + 1))
    · left
      exact ⟨g, hU _ _ (hnd _) (hnd _) (h1.1 g) (by omega)⟩
    · right
      have g2 : X (s (i + e + 1)) (s (i + e)) < Y (s (i + e + 1)) (s (i + e)) := by omega
      exact ⟨g2, hU _ _ (hnd _) (hnd _) (h1.2 g) (by omega)⟩
  have hK : ∃ e, s (i + e) = 6 := by
    rcases hst2 0 with ⟨-, h | h⟩ | ⟨-, h | h⟩
    · exact ⟨1, h.1⟩
    · exact ⟨0, h.1⟩
    · exact ⟨0, h.1⟩
    · exact ⟨1, h.1⟩
  obtain ⟨e, hK⟩ := hK
  have t1 := hst2 e
  have t2 := hst2 (e + 1)
  rw [show i + (e + 1) = i + e + 1 by omega] at t2
  rw [hK] at t1
  rcases t1 with ⟨g, h | h⟩ | ⟨g, h | h⟩
  · omega
  · rw [h.2] at g t2
    rcases t2 with ⟨g2, h2 | h2⟩ | ⟨g2, h2 | h2⟩
    · omega
    · omega
    · omega
    · rw [h2.1] at g2; omega
  · rcases t2 with ⟨g2, h2 | h2⟩ | ⟨g2, h2 | h2⟩
    · rw [h2.1] at g2; omega
    · omega
    · omega
    · omega
  · omega
end UQ
