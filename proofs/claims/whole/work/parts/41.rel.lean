/-! sums, first places, loops -/
def sm (f : Int → Int) : Int → Nat → Int
  | _, 0 => 0
  | i, d + 1 => f i + sm f (i + 1) d
theorem sm_cong {f g : Int → Int} : ∀ {d : Nat} {i : Int}, (∀ j, i ≤ j → j < i + d → f j = g j) → sm f i d = sm g i d
  | 0, _, _ => rfl
  | d + 1, i, h => by
    unfold sm
    rw [h i (by omega) (by omega), sm_cong (fun j h1 h2 => h j (by omega) (by omega))]
theorem sm_bd {f : Int → Int} {a b : Int} : ∀ {d : Nat} {i : Int}, (∀ j, i ≤ j → j < i + d → a ≤ f j ∧ f j ≤ b) → a * d ≤ sm f i d ∧ sm f i d ≤ b * d
  | 0, _, _ => by simp [sm]
  | d + 1, i, h => by
    have h1 := h i (by omega) (by omega)
    have h2 := sm_bd (f := f) (a := a) (b := b) (d := d) (i := i + 1) (fun j h3 h4 => h j (by omega) (by omega))
    unfold sm
    rw [show ((d + 1 : Nat) : Int) = (d : Int) + 1 from rfl, Int.mul_add, Int.mul_add, Int.mul_one, Int.mul_one]
    omega
theorem sm_last {f : Int → Int} : ∀ {d : Nat} {i : Int}, sm f i (d + 1) = sm f i d + f (i + d)
  | 0, i => by simp [sm]
  | d + 1, i => by
    rw [sm, sm_last (d := d) (i := i + 1), sm]
    rw [show i + 1 + (d : Int) = i + ((d + 1 : Nat) : Int) by omega]
    omega
theorem sm_zero {f : Int → Int} {d : Nat} {i : Int} (h : ∀ j, i ≤ j → j < i + d → f j = 0) : sm f i d = 0 := by
  have := sm_bd (f := f) (a := 0) (b := 0) (d := d) (i := i) (fun j h1 h2 => by rw [h j h1 h2]; exact ⟨Int.le_refl 0, Int.le_refl 0⟩)
  omega
/-- the first place from i on, within d places, where p holds; i + d if there is none -/
def fi (p : Int → Bool) : Int → Nat → Int
  | i, 0 => i
  | i, d + 1 => if p i then i else fi p (i + 1) d
theorem fi_cong {p q : Int → Bool} : ∀ {d : Nat} {i : Int}, (∀ j, i ≤ j → j < i + d → p j = q j) → fi p i d = fi q i d
  | 0, _, _ => rfl
  | d + 1, i, h => by
    unfold fi
    rw [h i (by omega) (by omega), fi_cong (fun j h1 h2 => h j (by omega) (by omega))]
theorem fi_in {p : Int → Bool} : ∀ {d : Nat} {i : Int}, i ≤ fi p i d ∧ fi p i d ≤ i + d ∧ (fi p i d < i + d → p (fi p i d) = true) ∧ ∀ j, i ≤ j → j < fi p i d → p j = false
  | 0, i => ⟨Int.le_refl i, by simp [fi], fun h => absurd h (by simp [fi]), fun j h1 h2 => absurd h2 (by simp [fi]; omega)⟩
  | d + 1, i => by
    unfold fi
    by_cases h : p i = true
    · rw [if_pos h]
      exact ⟨Int.le_refl i, by omega, fun _ => h, fun j h1 h2 => absurd h2 (by omega)⟩
    · rw [if_neg h]
      obtain ⟨h1, h2, h3, h4⟩ := fi_in (p := p) (d := d) (i := i + 1)
      refine ⟨by omega, by omega, fun g => h3 (by omega), fun j g1 g2 => ?_⟩
      by_cases e : j = i
      · rw [e]
        simpa using h
      · exact h4 j (by omega) g2
/-- a loop that adds f i for i up to b -/
theorem lp_sum {α : Type} {F : Nat → Int → Int → Option α} {E : Int → Option α} {f : Int → Int} {b : Int} (P : Int → Int → Prop) (hx : ∀ nf x, P x b → F (nf + 1) x b = E x) (hs : ∀ nf x i, i < b → P x i → F (nf + 1) x i = F nf (x + f i) (i + 1) ∧ P (x + f i) (i + 1)) : ∀ (d nf : Nat) (x i : Int), i + d = b → d < nf → P x i → F nf x i = E (x + sm f i d) ∧ P (x + sm f i d) b := by
  intro d
  induction d with
  | zero =>
    intro nf x i h1 h2 h3
    obtain ⟨nf, rfl⟩ : ∃ m, nf = m + 1 := ⟨nf - 1, by omega⟩
    have e : i = b := by omega
    subst e
    simp only [sm, Int.add_zero]
    exact ⟨hx nf x h3, h3⟩
  | succ d ih =>
    intro nf x i h1 h2 h3
    obtain ⟨nf, rfl⟩ : ∃ m, nf = m + 1 := ⟨nf - 1, by omega⟩
    obtain ⟨g1, g2⟩ := hs nf x i (by omega) h3
    rw [g1]
    have := ih nf (x + f i) (i + 1) (by omega) (by omega) g2
    rw [sm, ← Int.add_assoc]
    exact this
/-- a loop over states, by a count that falls -/
theorem lp_it {α σ : Type} {F : Nat → σ → Option α} (P : Nat → σ → Prop) (G : σ → Option α → Prop) (hx : ∀ nf s, P 0 s → G s (F (nf + 1) s)) (hs : ∀ d nf s, P (d + 1) s → (∃ s', F (nf + 1) s = F nf s' ∧ P d s' ∧ ∀ r, G s' r → G s r)) : ∀ (d nf : Nat) (s : σ), d < nf → P d s → G s (F nf s) := by
  intro d
  induction d with
  | zero =>
    intro nf s h1 h2
    obtain ⟨nf, rfl⟩ : ∃ m, nf = m + 1 := ⟨nf - 1, by omega⟩
    exact hx nf s h2
  | succ d ih =>
    intro nf s h1 h2
    obtain ⟨nf, rfl⟩ : ∃ m, nf = m + 1 := ⟨nf - 1, by omega⟩
    obtain ⟨s', e, hp, hg⟩ := hs d nf s h2
    rw [e]
    exact hg _ (ih nf s' (by omega) hp)
/-! the row of a system: events from 64 on by twelves, messages from 1264 on by sixes -/
def ev (w : Int → Int) (e j : Int) : Int := w (64 + 12 * e + j)
def mg (w : Int → Int) (m j : Int) : Int := w (1264 + 6 * m + j)
/-- the class's World at the cells from o on holds the row w -/
def rr_E (o : Nat) (μ : q_M) (w : Int → Int) (e : Int) : Prop := q_g μ (o + 5) e = ev w e 0 ∧ q_g μ (o + 6) e = ev w e 1 ∧ q_g μ (o + 7) e = ev w e 2 ∧ q_g μ (o + 8) e = ev w e 3 ∧ q_g μ (o + 9) e = ev w e 4 ∧ q_g μ (o + 10) e = ev w e 5 ∧ q_g μ (o + 11) e = ev w e 6 ∧ ∀ q, 0 ≤ q → q < 5 → q_g μ (o + 12) (e * 5 + q) = ev w e (7 + q)
def rr_M (o : Nat) (μ : q_M) (w : Int → Int) (m : Int) : Prop := q_g μ (o + 15) m = mg w m 0 * 5 + mg w m 1 ∧ q_g μ (o + 16) m = mg w m 2 ∧ q_g μ (o + 17) m = mg w m 3 ∧ q_g μ (o + 18) m = mg w m 4 ∧ q_g μ (o + 19) m = mg w m 5
def rr_C (o : Nat) (n : Int) (μ : q_M) (w : Int → Int) : Prop :=
  q_g μ o 0 = n ∧ (∀ j, 0 ≤ j → j < 10 → q_g μ (o + 1) j = w j) ∧ (∀ j, 0 ≤ j → j < 10 → q_g μ (o + 2) j = w (10 + j)) ∧ (∀ p, 0 ≤ p → p < 5 → q_g μ (o + 3) p = w (20 + p)) ∧ (∀ p, 0 ≤ p → p < 5 → q_g μ (o + 13) p = w (25 + p)) ∧ (∀ p, 0 ≤ p → p < 5 → q_g μ (o + 22) p = w (30 + p)) ∧ (∀ c, 0 ≤ c → c < 25 → q_g μ (o + 20) c = w (38 + c)) ∧
  q_g μ (o + 4) 0 = w 36 ∧ q_g μ (o + 14) 0 = w 37 ∧ q_g μ (o + 21) 0 = w 35 ∧ (∀ e, 0 ≤ e → e < w 36 → rr_E o μ w e) ∧ (∀ m, 0 ≤ m → m < w 37 → rr_M o μ w m)
/-- what always holds of a row -/
def rv_e (n : Int) (w : Int → Int) (e : Int) : Prop := (0 ≤ ev w e 0 ∧ ev w e 0 < n) ∧ (0 ≤ ev w e 1 ∧ ev w e 1 ≤ 2) ∧ (0 ≤ ev w e 2 ∧ ev w e 2 ≤ 1) ∧ (-100 ≤ ev w e 3 ∧ ev w e 3 ≤ 100) ∧ (0 ≤ ev w e 6 ∧ ev w e 6 < w (25 + ev w e 0)) ∧ (ev w e 1 = 0 → ev w e 4 = -100006 ∧ ev w e 5 = -1) ∧ (ev w e 1 ≠ 0 → (0 ≤ ev w e 4 ∧ ev w e 4 < n ∧ ev w e 4 ≠ ev w e 0) ∧ (0 ≤ ev w e 5 ∧ ev w e 5 < w 37) ∧ 1 ≤ ev w e 3) ∧ (ev w e 1 = 1 → mg w (ev w e 5) 4 = e) ∧ (∀ q, 0 ≤ q → q < 5 → 0 ≤ ev w e (7 + q) ∧ ev w e (7 + q) ≤ w (25 + q)) ∧ ev w e (7 + ev w e 0) = ev w e 6 + 1
def rv_m (n : Int) (w : Int → Int) (m : Int) : Prop := (0 ≤ mg w m 0 ∧ mg w m 0 < n) ∧ (0 ≤ mg w m 1 ∧ mg w m 1 < n) ∧ mg w m 0 ≠ mg w m 1 ∧ (0 ≤ mg w m 2 ∧ mg w m 2 ≤ 1) ∧ (1 ≤ mg w m 3 ∧ mg w m 3 ≤ 100) ∧ (-1 ≤ mg w m 4 ∧ mg w m 4 < w 36) ∧ (-1 ≤ mg w m 5 ∧ mg w m 5 < w 36)
def rv_p (w : Int → Int) (p : Int) : Prop := (0 ≤ w (20 + p) ∧ w (20 + p) ≤ w (25 + p)) ∧ w (25 + p) ≤ 100 ∧ (-1 ≤ w (30 + p) ∧ w (30 + p) ≤ w (25 + p))
/-- the events of one process: clocks grow, the latest has the highest place -/
def rv_h (w : Int → Int) : Prop := (∀ e f, 0 ≤ e → e < f → f < w 36 → ev w e 0 = ev w f 0 → ∀ q, 0 ≤ q → q < 5 → ev w e (7 + q) ≤ ev w f (7 + q)) ∧ (∀ e, 0 ≤ e → e < w 36 → (∀ f, e < f → f < w 36 → ev w f 0 ≠ ev w e 0) → ev w e 6 + 1 = w (25 + ev w e 0)) ∧ (∀ p, 0 ≤ p → p < 5 → (∀ e, 0 ≤ e → e < w 36 → ev w e 0 ≠ p) → w (25 + p) = 0)
def rv (n : Int) (w : Int → Int) (c : Int) : Prop :=
  (2 ≤ n ∧ n ≤ 5) ∧ (∀ j, 0 ≤ j → j < 20 → 0 ≤ w j ∧ w j ≤ 1000 ∧ (2 * n ≤ j % 10 → w j = 0)) ∧ (0 ≤ w 36 ∧ w 36 ≤ 100) ∧ (0 ≤ w 37 ∧ w 37 ≤ c ∧ c ≤ 512) ∧ (∀ p, 0 ≤ p → p < 5 → rv_p w p) ∧ w 25 + w 26 + w 27 + w 28 + w 29 = w 36 ∧ ((∀ p, n ≤ p → p < 5 → w (25 + p) = 0) ∧ ∀ p, 0 ≤ p → p < 5 → w (38 + 6 * p) = -1) ∧
  (∀ k, 0 ≤ k → k < 25 → -1 ≤ w (38 + k) ∧ w (38 + k) ≤ w 37) ∧ (0 ≤ w 35 ∧ w 35 ≤ 2) ∧ (w 35 ≠ 1 → ∀ k, 0 ≤ k → k < 25 → w (38 + k) = -1) ∧ (w 35 = 2 → ∀ p, 0 ≤ p → p < n → 0 ≤ w (30 + p)) ∧
  (∀ e, 0 ≤ e → e < w 36 → rv_e n w e) ∧ (∀ m, 0 ≤ m → m < w 37 → rv_m n w m) ∧ rv_h w
/-- whether an event is in the cut; a message an orphan; in transit; waiting -/
def cutE (w : Int → Int) (e : Int) : Bool := decide (ev w e 6 < w (20 + ev w e 0))
def orph (w : Int → Int) (m : Int) : Bool := decide (0 ≤ mg w m 4) && decide (0 ≤ mg w m 5) && cutE w (mg w m 5) && !cutE w (mg w m 4)
def tran (w : Int → Int) (m : Int) : Bool := (decide (mg w m 4 < 0) || cutE w (mg w m 4)) && (decide (mg w m 5 < 0) || !cutE w (mg w m 5))
def wait (w : Int → Int) (f t : Int) (m : Int) : Bool := decide (mg w m 0 = f) && decide (mg w m 1 = t) && decide (mg w m 5 < 0)
def bi (b : Bool) : Int := if b then 1 else 0
/-! the model's own small steps -/
theorem z_ofEvent {e j : Int} {μ : q_M} (h0 : 0 ≤ e) (h1 : e ≤ 100) (h2 : 0 ≤ j) (h3 : j < 12) : f_M_ofEvent e j μ = some (ev (q_g μ 1) e j) := by
  simp (disch := omega) only [f_M_ofEvent, z_ck, z_ld, ev]
theorem z_ofMessage {m j : Int} {μ : q_M} (h0 : 0 ≤ m) (h1 : m < 600) (h2 : 0 ≤ j) (h3 : j < 6) : f_M_ofMessage m j μ = some (mg (q_g μ 1) m j) := by
  simp (disch := omega) only [f_M_ofMessage, z_ck, z_ld, mg]
theorem z_bib {b : Bool} : (bi b = 0) = (b = false) := by cases b <;> simp [bi]
theorem z_rzb {α : Type} {b : Bool} {m : Option α} : q_rz (bi b) m = m := by cases b <;> rfl
theorem z_isCut {n : Int} {e c : Int} {μ : q_M} (hv : rv n (q_g μ 1) c) (h0 : 0 ≤ e) (h1 : e < q_g μ 1 36) : f_M_isCut e μ = some (bi (cutE (q_g μ 1) e)) := by
  obtain ⟨hn, -, hl, -, -, -, -, -, -, -, -, he, -⟩ := hv
  have h2 := (he e h0 h1).1
  simp (disch := omega) only [f_M_isCut, z_ofEvent, z_b, z_ck, z_ld, z_jn, z_rz0, z_rz1]
  unfold cutE bi
  by_cases g : ev (q_g μ 1) e 6 < q_g μ 1 (20 + ev (q_g μ 1) e 0)
  · rw [if_neg (by omega)]
    simp [g]
  · rw [if_pos (by omega)]
    simp [g]
theorem z_inCut {o : Nat} {n : Int} {e c : Int} {μ : q_M} {w : Int → Int} (hc : rr_C o n μ w) (hv : rv n w c) : f_Wo_inCut o e μ = some (bi (decide (0 ≤ e) && decide (e < w 36) && cutE w e)) := by
  obtain ⟨hn, -, hl, -, -, -, -, -, -, -, -, he, -⟩ := hv
  obtain ⟨-, -, -, hcut, -, -, -, hlen, -, -, hE, -⟩ := hc
  simp (disch := omega) only [f_Wo_inCut, z_fl, z_ck, z_within, z_b, z_jn, z_rz0, z_rz1, z_bz, Int.cast_ofNat_Int, hlen]
  by_cases g : 0 ≤ e ∧ e ≤ w 36 - 1
  · obtain ⟨e1, -, -, -, -, -, e7, -⟩ := hE e g.1 (by omega)
    have h2 := (he e g.1 (by omega)).1
    rw [if_neg (by simpa using g)]
    simp (disch := omega) only [z_ld, e1, e7]
    rw [hcut _ h2.1 (by omega)]
    unfold cutE bi
    by_cases g2 : ev w e 6 < w (20 + ev w e 0)
    · rw [if_neg (by omega)]
      simp [g2, g.1, show e < w 36 by omega]
    · rw [if_pos (by omega)]
      simp [g2]
  · rw [if_pos g]
    have : (decide (0 ≤ e) && decide (e < w 36)) = false := by
      rw [Bool.and_eq_false_iff, decide_eq_false_iff_not, decide_eq_false_iff_not]
      omega
    simp [this, bi]
