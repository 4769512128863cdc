/-! nothing is left over -/
theorem exz {ex : Int → Int} {X LO HI : Int → Int → Int} {rc : Int → Bool} {n : Int} (hX : ∀ u v, nd u → nd v → LO u v ≤ X u v ∧ X u v ≤ HI u v) (h0 : sm ex 0 7 = 0) (hp : ∀ v, nd v → 0 < ex v → rc v = true) (hn : ∀ v, nd v → ex v < 0 → rc v = false)
    (hc : ∀ u v, nd u → nd v → rc u = true → (X u v < HI u v ∨ LO v u < X v u) → rc v = true) (ho : ∀ p, 0 ≤ p → p < n → X p 5 < HI p 5 ∧ X 5 p < HI 5 p) (hu : ∀ p, n ≤ p → 0 ≤ p → p < 5 → ex p = 0 ∧ LO p 6 = 0 ∧ HI p 6 = 0)
    (hK : ex 6 = X 0 6 + X 1 6 + X 2 6 + X 3 6 + X 4 6 - X 6 5) (c1 : LO 0 6 + LO 1 6 + LO 2 6 + LO 3 6 + LO 4 6 ≤ HI 6 5) (c2 : LO 6 5 ≤ HI 0 6 + HI 1 6 + HI 2 6 + HI 3 6 + HI 4 6) : ∀ v, nd v → ex v = 0 := by
  have n5 : nd 5 := ⟨by decide, by decide⟩
  have n6 : nd 6 := ⟨by decide, by decide⟩
  have np : ∀ p, 0 ≤ p → p < 5 → nd p := fun p a b => ⟨a, by omega⟩
  have nn : ∀ v, nd v → rc v = true → 0 ≤ ex v := fun v hv h => Classical.byContradiction fun g => by
    have := hn v hv (by omega)
    rw [h] at this
    cases this
  have nq : ∀ v, nd v → ¬ rc v = true → ex v ≤ 0 := fun v hv h => Classical.byContradiction fun g => h (hp v hv (by omega))
  have fin : (∀ v, nd v → 0 ≤ ex v) ∨ (∀ v, nd v → ex v ≤ 0) → ∀ v, nd v → ex v = 0 := by
    intro h v hv
    simp only [sm, Int.zero_add, Int.add_zero, Int.reduceAdd] at h0
    have e : v = 0 ∨ v = 1 ∨ v = 2 ∨ v = 3 ∨ v = 4 ∨ v = 5 ∨ v = 6 := by
      have := hv.1
      have := hv.2
      omega
    rcases h with h | h
    · have a0 := h 0 ⟨by decide, by decide⟩
      have a1 := h 1 ⟨by decide, by decide⟩
      have a2 := h 2 ⟨by decide, by decide⟩
      have a3 := h 3 ⟨by decide, by decide⟩
      have a4 := h 4 ⟨by decide, by decide⟩
      have a5 := h 5 ⟨by decide, by decide⟩
      have a6 := h 6 ⟨by decide, by decide⟩
      rcases e with rfl | rfl | rfl | rfl | rfl | rfl | rfl <;> omega
    · have a0 := h 0 ⟨by decide, by decide⟩
      have a1 := h 1 ⟨by decide, by decide⟩
      have a2 := h 2 ⟨by decide, by decide⟩
      have a3 := h 3 ⟨by decide, by decide⟩
      have a4 := h 4 ⟨by decide, by decide⟩
      have a5 := h 5 ⟨by decide, by decide⟩
      have a6 := h 6 ⟨by decide, by decide⟩
      rcases e with rfl | rfl | rfl | rfl | rfl | rfl | rfl <;> omega
  have spl : ∀ v, nd v → (0 ≤ v ∧ v < 5) ∨ v = 5 ∨ v = 6 := fun v hv => by
    have := hv.1
    have := hv.2
    omega
  by_cases h5 : rc 5 = true
  · have hr : ∀ p, 0 ≤ p → p < n → p < 5 → rc p = true := fun p a b c => hc 5 p n5 (np p a c) h5 (Or.inl (ho p a b).2)
    have pp : ∀ p, 0 ≤ p → p < 5 → 0 ≤ ex p := fun p a c => by
      by_cases b : p < n
      · exact nn p (np p a c) (hr p a b c)
      · rw [(hu p (by omega) a c).1]; exact Int.le_refl 0
    have k6 : 0 ≤ ex 6 := by
      by_cases h6 : rc 6 = true
      · exact nn 6 n6 h6
      · have hh : ∀ p, 0 ≤ p → p < 5 → X p 6 = HI p 6 := fun p a c => by
          have b1 := hX p 6 (np p a c) n6
          by_cases b : p < n
          · refine Classical.byContradiction fun g => h6 (hc p 6 (np p a c) n6 (hr p a b c) (Or.inl (by omega)))
          · have := hu p (by omega) a c
            omega
        have g0 := hh 0 (by decide) (by decide)
        have g1 := hh 1 (by decide) (by decide)
        have g2 := hh 2 (by decide) (by decide)
        have g3 := hh 3 (by decide) (by decide)
        have g4 := hh 4 (by decide) (by decide)
        have b1 := hX 6 5 n6 n5
        have g5 : ¬ LO 6 5 < X 6 5 := fun g => h6 (hc 5 6 n5 n6 h5 (Or.inr g))
        omega
    refine fin (Or.inl fun v hv => ?_)
    rcases spl v hv with h | rfl | rfl
    · exact pp v h.1 h.2
    · exact nn 5 n5 h5
    · exact k6
  · have hr : ∀ p, 0 ≤ p → p < n → p < 5 → ¬ rc p = true := fun p a b c g => h5 (hc p 5 (np p a c) n5 g (Or.inl (ho p a b).1))
    have pp : ∀ p, 0 ≤ p → p < 5 → ex p ≤ 0 := fun p a c => by
      by_cases b : p < n
      · exact nq p (np p a c) (hr p a b c)
      · rw [(hu p (by omega) a c).1]; exact Int.le_refl 0
    have k6 : ex 6 ≤ 0 := by
      by_cases h6 : rc 6 = true
      · have hh : ∀ p, 0 ≤ p → p < 5 → X p 6 = LO p 6 := fun p a c => by
          have b1 := hX p 6 (np p a c) n6
          by_cases b : p < n
          · refine Classical.byContradiction fun g => hr p a b c (hc 6 p n6 (np p a c) h6 (Or.inr (by omega)))
          · have := hu p (by omega) a c
            omega
        have g0 := hh 0 (by decide) (by decide)
        have g1 := hh 1 (by decide) (by decide)
        have g2 := hh 2 (by decide) (by decide)
        have g3 := hh 3 (by decide) (by decide)
        have g4 := hh 4 (by decide) (by decide)
        have b1 := hX 6 5 n6 n5
        have g5 : ¬ X 6 5 < HI 6 5 := fun g => h5 (hc 6 5 n6 n5 h6 (Or.inl g))
        omega
      · exact nq 6 n6 h6
    refine fin (Or.inr fun v hv => ?_)
    rcases spl v hv with h | rfl | rfl
    · exact pp v h.1 h.2
    · exact nq 5 n5 h5
    · exact k6
/-- what is above nothing, in all -/
def tp (ex : Int → Int) : Int := sm (fun v => if 0 < ex v then ex v else 0) 0 7
theorem tp_nn {ex : Int → Int} : 0 ≤ tp ex := by
  unfold tp
  have h : ∀ (d : Nat) (i : Int), 0 ≤ sm (fun v => if 0 < ex v then ex v else 0) i d := by
    intro d
    induction d with
    | zero => intro i; exact Int.le_refl 0
    | succ d ih =>
      intro i
      have := ih (i + 1)
      unfold sm
      by_cases g : 0 < ex i
      · simp only [if_pos g]; omega
      · simp only [if_neg g]; omega
  exact h 7 0
theorem sm_u {f : Int → Int} {t k : Int} (ht : nd t) : sm (q_u f t k) 0 7 = sm f 0 7 + (k - f t) := by
  rw [sm_upd (f := f) (p := t) ht.1 (by have := ht.2; omega) (fun j _ _ hj => u_n hj), u_s]
theorem tp_u {ex : Int → Int} {t k : Int} (ht : nd t) : tp (q_u ex t k) = tp ex + ((if 0 < k then k else 0) - (if 0 < ex t then ex t else 0)) := by
  unfold tp
  rw [sm_upd (f := fun v => if 0 < ex v then ex v else 0) (p := t) ht.1 (by have := ht.2; omega) (fun j _ _ hj => by rw [u_n hj])]
  rw [u_s]
theorem tp_push {ex : Int → Int} {t r U : Int} (ht : nd t) (hr : nd r) (h1 : ex t + U ≤ 0) (h2 : 0 < U) (h3 : U ≤ ex r) : tp (q_u (q_u ex t (ex t + U)) r (ex r - U)) = tp ex - U := by
  have hne : r ≠ t := fun e => by subst e; omega
  rw [tp_u hr, tp_u ht, u_n hne, if_neg (show ¬ 0 < ex t + U by omega), if_neg (show ¬ 0 < ex t by omega), if_pos (show 0 < ex r by omega)]
  by_cases g : 0 < ex r - U
  · rw [if_pos g]; omega
  · rw [if_neg g]; omega
