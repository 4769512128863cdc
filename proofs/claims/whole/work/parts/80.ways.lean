/-! shortest ways among seven nodes (pure) -/
theorem sm_le {f g : Int → Int} : ∀ {d : Nat} {i : Int}, (∀ j, i ≤ j → j < i + d → f j ≤ g j) → sm f i d ≤ sm g i d
  | 0, _, _ => Int.le_refl _
  | d + 1, i, h => by
    have h1 := h i (by omega) (by omega)
    have h2 := sm_le (f := f) (g := g) (d := d) (i := i + 1) (fun j h3 h4 => h j (by omega) (by omega))
    unfold sm
    omega
theorem sm_lt {f g : Int → Int} {p : Int} : ∀ {d : Nat} {i : Int}, i ≤ p → p < i + d → (∀ j, i ≤ j → j < i + d → f j ≤ g j) → f p < g p → sm f i d < sm g i d
  | 0, _, h0, h1, _, _ => absurd h1 (by omega)
  | d + 1, i, h0, h1, h, hp => by
    unfold sm
    by_cases e : i = p
    · subst e
      have h2 := sm_le (f := f) (g := g) (d := d) (i := i + 1) (fun j h3 h4 => h j (by omega) (by omega))
      omega
    · have h3 := h i (by omega) (by omega)
      have h2 := sm_lt (f := f) (g := g) (p := p) (d := d) (i := i + 1) (by omega) (by omega) (fun j h3 h4 => h j (by omega) (by omega)) hp
      omega
def nd (v : Int) : Prop := 0 ≤ v ∧ v < 7
def rcu (rc : Int → Bool) (i : Int) : Int → Bool := fun v => if v = i then true else rc v
theorem rcu_s {rc : Int → Bool} {i : Int} : rcu rc i i = true := if_pos rfl
theorem rcu_n {rc : Int → Bool} {i v : Int} (h : v ≠ i) : rcu rc i v = rc v := if_neg h
theorem rcu_t {rc : Int → Bool} {i v : Int} (h : rc v = true) : rcu rc i v = true := by
  by_cases e : v = i
  · rw [e]; exact rcu_s
  · rw [rcu_n e]; exact h
section FT
variable (ok : Int → Prop) (wf wt wp : Int → Int) (src : Int → Prop)
def wI (d : Int → Int) (rc : Int → Bool) (pa : Int → Int) (ln : Int → Nat) : Prop := ∀ v, nd v → rc v = true → (pa v = -1 ∧ src v ∧ d v = 0) ∨ (0 ≤ pa v ∧ ok (pa v) ∧ wt (pa v) = v ∧ rc (wf (pa v)) = true ∧ (d (wf (pa v)) + wp (pa v) < d v ∨ (d (wf (pa v)) + wp (pa v) = d v ∧ ln (wf (pa v)) < ln v)))
def po (pi : Int → Int) : Prop := ∀ w, ok w → 0 ≤ wp w + pi (wf w) - pi (wt w)
def wN : Prop := ∀ w, ok w → 0 ≤ w ∧ nd (wf w) ∧ nd (wt w) ∧ wf w ≠ wt w
def stb (d : Int → Int) (rc : Int → Bool) : Prop := ∀ w, ok w → rc (wf w) = true → rc (wt w) = true ∧ d (wt w) ≤ d (wf w) + wp w
def wk : Nat → Int → Int → Prop
  | 0, v, x => nd v ∧ src v ∧ x = 0
  | k + 1, v, x => wk k v x ∨ ∃ w, ok w ∧ wt w = v ∧ wk k (wf w) (x - wp w)
def fk (k : Nat) (d : Int → Int) (rc : Int → Bool) : Prop := ∀ v x, wk ok wf wt wp src k v x → rc v = true ∧ d v ≤ x
variable {ok : Int → Prop} {wf wt wp : Int → Int} {src : Int → Prop}
theorem wI_step {d : Int → Int} {rc : Int → Bool} {pa : Int → Int} {ln : Int → Nat} {w : Int} (hN : wN ok wf wt) (h : wI ok wf wt wp src d rc pa ln) (hw : ok w) (hu : rc (wf w) = true) (hl : rc (wt w) = false ∨ d (wf w) + wp w < d (wt w)) : wI ok wf wt wp src (q_u d (wt w) (d (wf w) + wp w)) (rcu rc (wt w)) (q_u pa (wt w) w) (fun v => if v = wt w then ln (wf w) + 1 else ln v) := by
  obtain ⟨n0, n1, n2, n3⟩ := hN w hw
  intro v hv hr
  by_cases e : v = wt w
  · subst e
    right
    dsimp only
    rw [u_s, u_s, u_n n3, if_pos rfl, if_neg n3]
    exact ⟨n0, hw, rfl, rcu_t hu, Or.inr ⟨rfl, by omega⟩⟩
  · have hr' : rc v = true := by
      rw [rcu_n e] at hr
      exact hr
    dsimp only
    rw [u_n e, u_n e, if_neg e]
    rcases h v hv hr' with g | ⟨g1, g2, g3, g4, g5⟩
    · exact Or.inl g
    · right
      refine ⟨g1, g2, g3, rcu_t g4, ?_⟩
      by_cases e2 : wf (pa v) = wt w
      · rw [e2] at g4 g5 ⊢
        rw [u_s]
        left
        rcases hl with hl | hl
        · rw [hl] at g4; cases g4
        · omega
      · rw [u_n e2, if_neg e2]
        exact g5
theorem wk_mono {v x : Int} : ∀ {k k' : Nat}, k ≤ k' → wk ok wf wt wp src k v x → wk ok wf wt wp src k' v x
  | k, 0, h, g => by
    have : k = 0 := by omega
    subst this
    exact g
  | k, k' + 1, h, g => by
    by_cases e : k = k' + 1
    · subst e; exact g
    · exact Or.inl (wk_mono (k := k) (k' := k') (by omega) g)
def rkb (pi d : Int → Int) (ln : Int → Nat) (u v : Int) : Bool := decide (d u - pi u < d v - pi v) || (decide (d u - pi u = d v - pi v) && decide (ln u < ln v))
theorem rkb_t {pi d : Int → Int} {ln : Int → Nat} {u v : Int} : rkb pi d ln u v = true ↔ (d u - pi u < d v - pi v ∨ (d u - pi u = d v - pi v ∧ ln u < ln v)) := by
  unfold rkb
  simp only [Bool.or_eq_true, Bool.and_eq_true, decide_eq_true_eq]
def ct (pi d : Int → Int) (ln : Int → Nat) (v : Int) : Int := sm (fun u => bi (rkb pi d ln u v)) 0 7
theorem ct_lt {pi d : Int → Int} {ln : Int → Nat} {u v : Int} (hu : nd u) (h : rkb pi d ln u v = true) : ct pi d ln u < ct pi d ln v := by
  refine sm_lt (p := u) hu.1 (by have := hu.2; omega) (fun j _ _ => ?_) ?_
  · cases e : rkb pi d ln j u with
    | false => exact (bi_bd _).1
    | true =>
      have : rkb pi d ln j v = true := by
        rw [rkb_t] at h e ⊢
        omega
      rw [this]
      exact Int.le_refl _
  · have : rkb pi d ln u u = false := by
      cases e : rkb pi d ln u u with
      | false => rfl
      | true => rw [rkb_t] at e; omega
    show bi (rkb pi d ln u u) < bi (rkb pi d ln u v)
    rw [this, h]
    decide
theorem ct_bd {pi d : Int → Int} {ln : Int → Nat} {v : Int} (hv : nd v) : 0 ≤ ct pi d ln v ∧ ct pi d ln v ≤ 6 := by
  have h1 := sm_bd (f := fun u => bi (rkb pi d ln u v)) (a := 0) (b := 1) (d := 7) (i := 0) (fun j _ _ => bi_bd _)
  have h2 : ct pi d ln v < sm (fun _ => 1) 0 7 := by
    refine sm_lt (p := v) hv.1 (by have := hv.2; omega) (fun j _ _ => (bi_bd _).2) ?_
    have : rkb pi d ln v v = false := by
      cases e : rkb pi d ln v v with
      | false => rfl
      | true => rw [rkb_t] at e; omega
    show bi (rkb pi d ln v v) < 1
    rw [this]
    decide
  have h3 : sm (fun _ => 1) 0 7 = 7 := rfl
  unfold ct at h2 ⊢
  omega
theorem wI_rk {d pi : Int → Int} {rc : Int → Bool} {pa : Int → Int} {ln : Int → Nat} {v : Int} (h : wI ok wf wt wp src d rc pa ln) (hp : po ok wf wt wp pi) (hv : nd v) (hr : rc v = true) (hn : pa v ≠ -1) : rkb pi d ln (wf (pa v)) v = true := by
  rcases h v hv hr with g | ⟨g1, g2, g3, g4, g5⟩
  · exact absurd g.1 hn
  · have := hp _ g2
    rw [g3] at this
    rw [rkb_t]
    omega
theorem wI_wk {d pi : Int → Int} {rc : Int → Bool} {pa : Int → Int} {ln : Int → Nat} (hN : wN ok wf wt) (h : wI ok wf wt wp src d rc pa ln) (hp : po ok wf wt wp pi) : ∀ (k : Nat) (v : Int), nd v → rc v = true → ct pi d ln v ≤ k → ∃ x, x ≤ d v ∧ wk ok wf wt wp src k v x := by
  intro k
  induction k with
  | zero =>
    intro v hv hr hc
    rcases h v hv hr with g | ⟨g1, g2, g3, g4, g5⟩
    · exact ⟨0, by omega, hv, g.2.1, rfl⟩
    · have h1 := ct_lt (hN _ g2).2.1 (wI_rk h hp hv hr (by omega))
      have h2 := ct_bd (pi := pi) (d := d) (ln := ln) (hN _ g2).2.1
      omega
  | succ k ih =>
    intro v hv hr hc
    rcases h v hv hr with g | ⟨g1, g2, g3, g4, g5⟩
    · exact ⟨0, by omega, wk_mono (Nat.zero_le _) ⟨hv, g.2.1, rfl⟩⟩
    · have h1 := ct_lt (hN _ g2).2.1 (wI_rk h hp hv hr (by omega))
      obtain ⟨x, hx, hk⟩ := ih _ (hN _ g2).2.1 g4 (by omega)
      exact ⟨x + wp (pa v), by omega, Or.inr ⟨pa v, g2, g3, by rw [Int.add_sub_cancel]; exact hk⟩⟩
theorem fk_pass {k : Nat} {d d' : Int → Int} {rc rc' : Int → Bool} (h : fk ok wf wt wp src k d rc) (h1 : ∀ v, rc v = true → rc' v = true ∧ d' v ≤ d v) (h2 : ∀ w, ok w → rc (wf w) = true → rc' (wt w) = true ∧ d' (wt w) ≤ d (wf w) + wp w) : fk ok wf wt wp src (k + 1) d' rc' := by
  intro v x hk
  rcases hk with hk | ⟨w, a, b, hk⟩
  · have := h v x hk
    have g := h1 v this.1
    exact ⟨g.1, by omega⟩
  · have := h _ _ hk
    have g := h2 w a this.1
    rw [b] at g
    exact ⟨g.1, by omega⟩
theorem fk_stb {d pi : Int → Int} {rc : Int → Bool} {pa : Int → Int} {ln : Int → Nat} (hN : wN ok wf wt) (h : wI ok wf wt wp src d rc pa ln) (hp : po ok wf wt wp pi) (hk : fk ok wf wt wp src 6 d rc) : stb ok wf wt wp d rc := by
  intro w hw hu
  refine Classical.byContradiction fun g => ?_
  have hl : rc (wt w) = false ∨ d (wf w) + wp w < d (wt w) := by
    cases e : rc (wt w) with
    | false => exact Or.inl rfl
    | true =>
      right
      refine Classical.byContradiction fun g2 => g ⟨e, by omega⟩
  have h' := wI_step hN h hw hu hl
  obtain ⟨n0, n1, n2, n3⟩ := hN w hw
  have hb := ct_bd (pi := pi) (d := q_u d (wt w) (d (wf w) + wp w)) (ln := fun v => if v = wt w then ln (wf w) + 1 else ln v) n2
  obtain ⟨x, hx, hkx⟩ := wI_wk hN h' hp 6 (wt w) n2 rcu_s (by omega)
  have := hk _ _ hkx
  rw [u_s] at hx
  exact g ⟨this.1, by omega⟩
/-- the potentials behind a push to t -/
def nP (pi d : Int → Int) (rc : Int → Bool) (t v : Int) : Int := if rc v = true ∧ d v - pi v ≤ d t - pi t then d v else pi v + (d t - pi t)
theorem nP_po {d pi : Int → Int} {rc : Int → Bool} {t : Int} (hs : stb ok wf wt wp d rc) (hp : po ok wf wt wp pi) : po ok wf wt wp (nP pi d rc t) := by
  intro w hw
  have h1 := hp w hw
  have h2 := hs w hw
  unfold nP
  by_cases a : rc (wf w) = true ∧ d (wf w) - pi (wf w) ≤ d t - pi t
  · rw [if_pos a]
    have h3 := h2 a.1
    by_cases b : rc (wt w) = true ∧ d (wt w) - pi (wt w) ≤ d t - pi t
    · rw [if_pos b]; omega
    · rw [if_neg b]
      have : ¬ (d (wt w) - pi (wt w) ≤ d t - pi t) := fun g => b ⟨h3.1, g⟩
      omega
  · rw [if_neg a]
    by_cases b : rc (wt w) = true ∧ d (wt w) - pi (wt w) ≤ d t - pi t
    · rw [if_pos b]; omega
    · rw [if_neg b]; omega
theorem wI_tight {d : Int → Int} {rc : Int → Bool} {pa : Int → Int} {ln : Int → Nat} {v : Int} (h : wI ok wf wt wp src d rc pa ln) (hs : stb ok wf wt wp d rc) (hv : nd v) (hr : rc v = true) (hn : pa v ≠ -1) : 0 ≤ pa v ∧ ok (pa v) ∧ wt (pa v) = v ∧ rc (wf (pa v)) = true ∧ d (wf (pa v)) + wp (pa v) = d v := by
  rcases h v hv hr with g | ⟨g1, g2, g3, g4, g5⟩
  · exact absurd g.1 hn
  · have := hs _ g2 g4
    rw [g3] at this
    exact ⟨g1, g2, g3, g4, by omega⟩
theorem nP_tight {d pi : Int → Int} {rc : Int → Bool} {pa : Int → Int} {ln : Int → Nat} {t v : Int} (h : wI ok wf wt wp src d rc pa ln) (hs : stb ok wf wt wp d rc) (hp : po ok wf wt wp pi) (hv : nd v) (hr : rc v = true) (hn : pa v ≠ -1) (ht : d v - pi v ≤ d t - pi t) : wp (pa v) + nP pi d rc t (wf (pa v)) - nP pi d rc t v = 0 ∧ d (wf (pa v)) - pi (wf (pa v)) ≤ d t - pi t := by
  obtain ⟨g1, g2, g3, g4, g5⟩ := wI_tight h hs hv hr hn
  have := hp _ g2
  rw [g3] at this
  have h2 : d (wf (pa v)) - pi (wf (pa v)) ≤ d t - pi t := by omega
  refine ⟨?_, h2⟩
  unfold nP
  rw [if_pos ⟨g4, h2⟩, if_pos ⟨hr, ht⟩]
  omega
end FT
/-! flows as tables from node to node -/
def up2 (X : Int → Int → Int) (u v k : Int) : Int → Int → Int := fun a b => if a = u ∧ b = v then k else X a b
theorem up2_s {X : Int → Int → Int} {u v k : Int} : up2 X u v k u v = k := if_pos ⟨rfl, rfl⟩
theorem up2_n {X : Int → Int → Int} {u v k a b : Int} (h : ¬ (a = u ∧ b = v)) : up2 X u v k a b = X a b := if_neg h
def mp (LO HI PR X : Int → Int → Int) (pi : Int → Int) : Prop := ∀ u v, nd u → nd v → (X u v < HI u v → 0 ≤ PR u v + pi u - pi v) ∧ (LO u v < X u v → PR u v + pi u - pi v ≤ 0)
theorem mp_up {LO HI PR X : Int → Int → Int} {pi : Int → Int} {a b k : Int} (h : mp LO HI PR X pi) (ht : PR a b + pi a - pi b = 0) : mp LO HI PR (up2 X a b k) pi := by
  intro u v hu hv
  by_cases e : u = a ∧ v = b
  · obtain ⟨rfl, rfl⟩ := e
    exact ⟨fun _ => by omega, fun _ => by omega⟩
  · rw [up2_n e]
    exact h u v hu hv
def nt (X : Int → Int → Int) (v : Int) : Int := sm (fun u => X u v - X v u) 0 7
theorem nt_up {X : Int → Int → Int} {a b k v : Int} (ha : nd a) (hb : nd b) (hab : a ≠ b) : nt (up2 X a b k) v = nt X v + (if v = b then k - X a b else 0) - (if v = a then k - X a b else 0) := by
  unfold nt
  by_cases e1 : v = b
  · have e2 : v ≠ a := fun e => hab (e ▸ e1)
    rw [if_pos e1, if_neg e2]
    rw [sm_upd (f := fun u => X u v - X v u) (p := a) ha.1 (by have := ha.2; omega) (fun j _ _ hj => by rw [up2_n (fun g => hj g.1), up2_n (fun g => e2 g.1)])]
    rw [e1, up2_s, up2_n (fun g => hab g.1.symm)]
    omega
  · by_cases e2 : v = a
    · rw [if_neg e1, if_pos e2]
      rw [sm_upd (f := fun u => X u v - X v u) (p := b) hb.1 (by have := hb.2; omega) (fun j _ _ hj => by rw [up2_n (fun g => e1 g.2), up2_n (fun g => hj g.2)])]
      rw [e2, up2_s, up2_n (fun g => hab g.2)]
      omega
    · rw [if_neg e1, if_neg e2]
      rw [sm_cong (g := fun u => X u v - X v u) (fun j _ _ => by rw [up2_n (fun g => e1 g.2), up2_n (fun g => e2 g.1)])]
      omega
