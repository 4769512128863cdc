/-! a row with one event more -/
def apE (w w' : Int → Int) (p kind s a oth msg : Int) (ck : Int → Int) : Prop :=
  ev w' (w 36) 0 = p ∧ ev w' (w 36) 1 = kind ∧ ev w' (w 36) 2 = s ∧ ev w' (w 36) 3 = a ∧ ev w' (w 36) 4 = oth ∧ ev w' (w 36) 5 = msg ∧ ev w' (w 36) 6 = w (25 + p) ∧ ev w' (w 36) (7 + p) = w (25 + p) + 1 ∧ ∀ q, 0 ≤ q → q < 5 → q ≠ p → ev w' (w 36) (7 + q) = ck q
def apR (w w' : Int → Int) (p kind msg : Int) : Prop :=
  w' 36 = w 36 + 1 ∧ w' (25 + p) = w (25 + p) + 1 ∧ (∀ q, 0 ≤ q → q < 5 → q ≠ p → w' (25 + q) = w (25 + q)) ∧ (∀ i, 10 ≤ i → i < 64 → (i < 25 ∨ (30 ≤ i ∧ i ≠ 36 ∧ i ≠ 37)) → w' i = w i) ∧ (∀ k j, 0 ≤ k → k < w 36 → 0 ≤ j → j < 12 → ev w' k j = ev w k j) ∧ (∀ m j, 0 ≤ m → m < w 37 → 0 ≤ j → j < 5 → mg w' m j = mg w m j) ∧ (∀ m, 0 ≤ m → m < w 37 → mg w' m 5 = if kind = 2 ∧ m = msg then w 36 else mg w m 5)
def apK (n : Int) (w w' : Int → Int) (p kind s a oth msg : Int) : Prop :=
  (kind = 0 ∧ oth = -100006 ∧ msg = -1 ∧ w' 37 = w 37) ∨
  (kind = 1 ∧ (0 ≤ oth ∧ oth < n ∧ oth ≠ p) ∧ msg = w 37 ∧ 1 ≤ a ∧ w' 37 = w 37 + 1 ∧ mg w' msg 0 = p ∧ mg w' msg 1 = oth ∧ mg w' msg 2 = s ∧ mg w' msg 3 = a ∧ mg w' msg 4 = w 36 ∧ mg w' msg 5 = -1) ∨
  (kind = 2 ∧ (0 ≤ oth ∧ oth < n ∧ oth ≠ p) ∧ (0 ≤ msg ∧ msg < w 37) ∧ 1 ≤ a ∧ w' 37 = w 37)
theorem rv_ap {n c c' p kind s a oth msg : Int} {w w' : Int → Int} {ck : Int → Int} (hv : rv n w c) (h100 : w 36 < 100) (hp : 0 ≤ p) (hp' : p < n) (hs : 0 ≤ s ∧ s ≤ 1) (ha : -100 ≤ a ∧ a ≤ 100) (hE : apE w w' p kind s a oth msg ck) (hR : apR w w' p kind msg) (hK : apK n w w' p kind s a oth msg) (hst : ∀ j, 0 ≤ j → j < 10 → 0 ≤ w' j ∧ w' j ≤ 1000 ∧ (2 * n ≤ j % 10 → w' j = 0)) (hck : ∀ q, 0 ≤ q → q < 5 → q ≠ p → 0 ≤ ck q ∧ ck q ≤ w (25 + q)) (hmo : ∀ k, 0 ≤ k → k < w 36 → ev w k 0 = p → ∀ q, 0 ≤ q → q < 5 → q ≠ p → ev w k (7 + q) ≤ ck q) (hc : w' 37 ≤ c') (hc' : c' ≤ 512) : rv n w' c' := by
  obtain ⟨a0, a1, a2, a3, a4, a5, a6, a7, a8, a9, a10, a11, a12, a13⟩ := hv
  obtain ⟨r36, rp, rq, rl, re, rm, rm5⟩ := hR
  obtain ⟨e0, e1, e2, e3, e4, e5, e6, e7, e8⟩ := hE
  have k37 : w 37 ≤ w' 37 ∧ 0 ≤ w' 37 := by
    rcases hK with h | h | h
    · have := h.2.2.2; omega
    · have := h.2.2.2.2.1; omega
    · have := h.2.2.2.2; omega
  have had : ∀ q, 0 ≤ q → q < 5 → w (25 + q) ≤ w' (25 + q) := by
    intro q q0 q1
    by_cases g : q = p
    · rw [g, rp]; omega
    · rw [rq q q0 q1 g]; omega
  have hp99 : 0 ≤ w (25 + p) ∧ w (25 + p) ≤ w 36 := by
    have h0 := a4 0 (by omega) (by omega)
    have h1 := a4 1 (by omega) (by omega)
    have h2 := a4 2 (by omega) (by omega)
    have h3 := a4 3 (by omega) (by omega)
    have h4 := a4 4 (by omega) (by omega)
    unfold rv_p at h0 h1 h2 h3 h4
    simp only [Int.reduceAdd] at h0 h1 h2 h3 h4
    obtain g | g | g | g | g : p = 0 ∨ p = 1 ∨ p = 2 ∨ p = 3 ∨ p = 4 := by omega
    all_goals
      subst g
      simp only [Int.reduceAdd]
      omega
  refine ⟨a0, ?_, by omega, by omega, ?_, ?_, ⟨?_, ?_⟩, ?_, ?_, ?_, ?_, ?_, ?_, ?_⟩
  · intro j j0 j1
    by_cases g : j < 10
    · exact hst j j0 g
    · rw [rl j (by omega) (by omega) (by omega)]
      exact a1 j j0 j1
  · intro q q0 q1
    have y := a4 q q0 q1
    have z := had q q0 q1
    unfold rv_p at y ⊢
    rw [rl (20 + q) (by omega) (by omega) (by omega), rl (30 + q) (by omega) (by omega) (by omega)]
    by_cases g : q = p
    · rw [g] at y z ⊢
      rw [rp]
      omega
    · rw [rq q q0 q1 g]
      exact y
  · obtain g | g | g | g | g : p = 0 ∨ p = 1 ∨ p = 2 ∨ p = 3 ∨ p = 4 := by omega
    all_goals
      have q0 := fun h => rq 0 (by omega) (by omega) h
      have q1 := fun h => rq 1 (by omega) (by omega) h
      have q2 := fun h => rq 2 (by omega) (by omega) h
      have q3 := fun h => rq 3 (by omega) (by omega) h
      have q4 := fun h => rq 4 (by omega) (by omega) h
      subst g
      simp only [Int.reduceAdd] at q0 q1 q2 q3 q4 rp
      omega
  · intro q q0 q1
    rw [rq q (by omega) q1 (by omega)]
    exact a6.1 q q0 q1
  · intro q q0 q1
    rw [rl _ (by omega) (by omega) (by omega)]
    exact a6.2 q q0 q1
  · intro i i0 i1
    have := a7 i i0 i1
    rw [rl (38 + i) (by omega) (by omega) (by omega)]
    omega
  · rw [rl 35 (by omega) (by omega) (by omega)]
    exact a8
  · rw [rl 35 (by omega) (by omega) (by omega)]
    intro h i i0 i1
    rw [rl (38 + i) (by omega) (by omega) (by omega)]
    exact a9 h i i0 i1
  · rw [rl 35 (by omega) (by omega) (by omega)]
    intro h q q0 q1
    rw [rl (30 + q) (by omega) (by omega) (by omega)]
    exact a10 h q q0 q1
  · intro i i0 i1
    by_cases g : i = w 36
    · unfold rv_e
      rw [g, e0, e1, e2, e3, e4, e5, e6, e7]
      refine ⟨⟨hp, hp'⟩, ?_, hs, ha, by rw [rp]; omega, ?_, ?_, ?_, ?_, rfl⟩
      · rcases hK with h | h | h
        · have := h.1; omega
        · have := h.1; omega
        · have := h.1; omega
      · intro k
        rcases hK with h | h | h
        · exact ⟨h.2.1, h.2.2.1⟩
        · have := h.1; omega
        · have := h.1; omega
      · intro k
        rcases hK with h | h | h
        · exact absurd h.1 k
        · obtain ⟨h1, h2, h3, h4, h5, -⟩ := h
          exact ⟨h2, by omega, h4⟩
        · obtain ⟨h1, h2, h3, h4, h5⟩ := h
          exact ⟨h2, by omega, h4⟩
      · intro k
        rcases hK with h | h | h
        · have := h.1; omega
        · exact h.2.2.2.2.2.2.2.2.2.1
        · have := h.1; omega
      · intro q q0 q1
        by_cases l : q = p
        · rw [l, e7, rp]
          omega
        · rw [e8 q q0 q1 l, rq q q0 q1 l]
          exact hck q q0 q1 l
    · have x := a11 i i0 (by omega)
      unfold rv_e at x ⊢
      simp (disch := omega) only [re]
      obtain ⟨x0, x1, x2, x3, x4, x5, x6, x7, x8, x9⟩ := x
      have z := had _ x0.1 (by omega)
      refine ⟨x0, x1, x2, x3, by omega, x5, ?_, ?_, ?_, ?_⟩
      · intro k
        have y := x6 k
        exact ⟨y.1, by omega, y.2.2⟩
      · intro k
        have y := x6 (by omega)
        rw [rm _ 4 y.2.1.1 y.2.1.2 (by omega) (by omega)]
        exact x7 k
      · intro q q0 q1
        have z := had q q0 q1
        have y := x8 q q0 q1
        rw [re i _ i0 (by omega) (by omega) (by omega)]
        omega
      · exact x9
  · intro m m0 m1
    by_cases g : m < w 37
    · have x := a12 m m0 g
      unfold rv_m at x ⊢
      rw [rm m 0 m0 g (by omega) (by omega), rm m 1 m0 g (by omega) (by omega), rm m 2 m0 g (by omega) (by omega), rm m 3 m0 g (by omega) (by omega), rm m 4 m0 g (by omega) (by omega), rm5 m m0 g]
      refine ⟨x.1, x.2.1, x.2.2.1, x.2.2.2.1, x.2.2.2.2.1, by omega, ?_⟩
      split <;> omega
    · rcases hK with h | h | h
      · have := h.2.2.2; omega
      · obtain ⟨h1, h2, h3, h4, h5, h6, h7, h8, h9, h10, h11⟩ := h
        have em : m = msg := by omega
        unfold rv_m
        rw [em, h6, h7, h8, h9, h10, h11]
        omega
      · have := h.2.2.2.2; omega
  · obtain ⟨x0, x1, x2⟩ := a13
    refine ⟨?_, ?_, ?_⟩
    · intro i j i0 ij j1 hij q q0 q1
      by_cases g : j = w 36
      · subst g
        rw [e0, re i _ i0 (by omega) (by omega) (by omega)] at hij
        rw [re i _ i0 (by omega) (by omega) (by omega)]
        by_cases l : q = p
        · have y := (a11 i i0 (by omega)).2.2.2.2.2.2.2.2.1 q q0 q1
          rw [l] at y ⊢
          rw [e7]
          omega
        · rw [e8 q q0 q1 l]
          exact hmo i i0 (by omega) hij q q0 q1 l
      · rw [re i _ i0 (by omega) (by omega) (by omega), re j _ (by omega) (by omega) (by omega) (by omega)] at hij ⊢
        exact x0 i j i0 ij (by omega) hij q q0 q1
    · intro i i0 i1 hl
      by_cases g : i = w 36
      · rw [g, e6, e0, rp]
      · have y := a11 i i0 (by omega)
        have hne : ev w i 0 ≠ p := by
          have := hl (w 36) (by omega) (by omega)
          rw [e0, re i _ i0 (by omega) (by omega) (by omega)] at this
          exact Ne.symm this
        rw [re i 6 i0 (by omega) (by omega) (by omega), re i 0 i0 (by omega) (by omega) (by omega), rq _ y.1.1 (by have := y.1.2; omega) hne]
        refine x1 i i0 (by omega) (fun f f0 f1 => ?_)
        have := hl f f0 (by omega)
        rwa [re f _ (by omega) (by omega) (by omega) (by omega), re i _ (by omega) (by omega) (by omega) (by omega)] at this
    · intro q q0 q1 hq
      have hne : q ≠ p := by
        have := hq (w 36) (by omega) (by omega)
        rw [e0] at this
        exact Ne.symm this
      rw [rq q q0 q1 hne]
      refine x2 q q0 q1 (fun f f0 f1 => ?_)
      have := hq f f0 (by omega)
      rwa [re f _ (by omega) (by omega) (by omega) (by omega)] at this
