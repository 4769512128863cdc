/-! The picture: the cells of a region, from address z on, hold the numbers of a memory; references are fixed by a table. -/
def q_nf (ci : Nat) : Nat := match ci with
  | 0 => 7 | 1 => 3 | 2 => 7 | 3 => 10 | 4 => 1 | 5 => 5 | 6 => 6 | 7 => 2 | 8 => 3 | 9 => 7 | 10 => 8 | _ => 31
/-- whether a field holds a reference -/
def q_rf (ci j : Nat) : Bool := match ci with
  | 0 => decide (0 < j) | 1 => decide (j = 0) | 2 => true | 3 => decide (0 < j) | 4 => true | 5 => decide (0 < j) | 6 => decide (j = 1) | 7 => decide (j = 1) | 8 => decide (0 < j) | 9 => decide (0 < j) | 10 => decide (j ≠ 2)
  | _ => decide (j = 1 ∨ j = 2 ∨ j = 5 ∨ j = 7 ∨ j = 8 ∨ j = 9 ∨ j = 10 ∨ j = 11 ∨ (15 ≤ j ∧ j ≤ 22) ∨ (25 ≤ j ∧ j ≤ 27) ∨ j = 29 ∨ j = 30)
def q_fv (ci j : Nat) (x : Int) (r : Option Nat) : Value := if q_rf ci j then va_rf r else .int (q_I x)
def q_vs (ci z : Nat) (f : Nat → Int) (r : Nat → Option Nat) : List Value := (List.range (q_nf ci)).map fun j => q_fv ci j (f j) ((r j).map (fun t => z + t))
def q_ent (dA : Nat → ClassId) (kd : Nat × Nat) (z : Nat) (r : Nat → Option Nat) (f : Nat → Int) : va_E := match kd.1 with
  | 0 => .inr (kd.2, q_vs kd.2 z f r)
  | 1 => .inl (dA 0, kd.2, .inl (fun j => q_I (f j)))
  | 2 => .inl (dA 1, kd.2, .inr (.inl (fun j => q_J (f j))))
  | 3 => .inl (dA 2, kd.2, .inl (fun j => q_I (f j)))
  | 4 => .inl (dA 3, kd.2, .inl (fun j => q_I (f j)))
  | _ => .inl (dA 4, kd.2, .inr (.inr (.inr (.inr (fun j => (r j).map (fun t => z + t))))))
def q_Rg (kd : Nat → Nat × Nat) (μ : q_M) : Prop := ∀ k j, q_S (μ k j) ∧ ((kd k).1 ≠ 2 → q_R (μ k j))
def q_P (D : va_G) (dA : Nat → ClassId) (kd : Nat → Nat × Nat) (r : Nat → Nat → Option Nat) (n z sz : Nat) (μ : q_M) (H : Heap) : Prop :=
  H.size = sz ∧ (∀ k, k < n → va_at D vwCl (z + k, q_ent dA (kd k) z (r k) (μ k)) H) ∧ q_Rg kd μ
def q_tys (dA : Nat → ClassId) : List (ClassId × FieldType) := [(dA 0, .int), (dA 1, .long), (dA 2, .char), (dA 3, .boolean), (dA 4, .object "CutRepairer$Flow")]
def q_nest : List (String × Nat × MethodName × String) := [
  (RX10, 9, yX9_init, "CutRepairer"),
  (RX9, 23, yX3_init, "CutRepairer"),
  (RX9, 30, yX0_init, "CutRepairer"),
  (RX9, 37, yX7_init, "CutRepairer"),
  (RX10, 21, yX6_init, "CutRepairer"),
  (RX10, 28, yX5_init, "CutRepairer"),
  (RX10, 35, yX1_init, "CutRepairer"),
  (RX10, 42, yX8_init, "CutRepairer"),
  (RX10, 49, yX4_init, "CutRepairer"),
  (RX4, 11, yX2_init, "CutRepairer"),
  (RX9, 97, yX10_slot, "CutRepairer"),
  (RX9, 101, yX10_within, "CutRepairer"),
  (RX9, 117, yX10_channelOf, "CutRepairer"),
  (RX6, 49, yX10_within, "CutRepairer"),
  (RX6, 33, yX10_isStock, "CutRepairer"),
  (RX8, 26, yX10_copyAll, "CutRepairer"),
  (RX8, 65, yX10_within, "CutRepairer"),
  (RX8, 54, yX10_slot, "CutRepairer"),
  (RX5, 59, yX10_within, "CutRepairer"),
  (RX2, 56, yX10_channelOf, "CutRepairer"),
  (RX2, 87, yX10_slot, "CutRepairer"),
  (RX9, 59, yX10_copyAll, "CutRepairer"),
  (RX3, 49, yX10_copyAll, "CutRepairer"),
  (RX0, 37, yX10_copyAll, "CutRepairer"),
  (RX7, 25, yX10_copyAll, "CutRepairer")]
def q_A (z n : Nat) : Nat → Prop := fun q => z ≤ q ∧ q < z + n
theorem q_P.rg {D : va_G} {dA : Nat → ClassId} {kd : Nat → Nat × Nat} {r : Nat → Nat → Option Nat} {n z sz : Nat} {μ : q_M} {H : Heap} (h : q_P D dA kd r n z sz μ H) {k j : Nat} (hk : (kd k).1 ≠ 2) : q_R (μ k j) := (h.2.2 k j).2 hk
theorem q_P.one {D : va_G} {dA : Nat → ClassId} {kd : Nat → Nat × Nat} {r : Nat → Nat → Option Nat} {n z sz : Nat} {μ : q_M} {H : Heap} (h : q_P D dA kd r n z sz μ H) {k : Nat} (hk : k < n) {e : va_E} (he : q_ent dA (kd k) z (r k) (μ k) = e) : va_P D vwCl [(z + k, e)] H := by
  intro i q hq
  have hi : i < 1 := (List.getElem?_eq_some_iff.mp hq).1
  rw [show i = 0 by omega] at hq
  cases hq
  rw [← he]
  exact h.2.1 k hk
theorem q_P.lt {D : va_G} {dA : Nat → ClassId} {kd : Nat → Nat × Nat} {r : Nat → Nat → Option Nat} {n z sz : Nat} {μ : q_M} {H : Heap} (h : q_P D dA kd r n z sz μ H) {k : Nat} (hk : k < n) : z + k < sz := by
  rw [← h.1]
  exact (h.2.1 k hk).lt
/-- the memory with another row k -/
theorem q_P.set {D : va_G} {dA : Nat → ClassId} {kd : Nat → Nat × Nat} {r : Nat → Nat → Option Nat} {n z sz : Nat} {μ μ' : q_M} {H H1 : Heap} (h : q_P D dA kd r n z sz μ H) {k : Nat}
    (he : k < n → va_at D vwCl (z + k, q_ent dA (kd k) z (r k) (μ' k)) H1) (hs : H1.size = H.size) (oq : ∀ q, q ≠ z + k → H1[q]? = H[q]?) (hμ : ∀ k', k' ≠ k → μ' k' = μ k') (hg : q_Rg kd μ') : q_P D dA kd r n z sz μ' H1 := by
  refine ⟨hs.trans h.1, fun k' hk' => ?_, hg⟩
  by_cases e : k' = k
  · subst e
    exact he hk'
  · rw [hμ k' e]
    exact (h.2.1 k' hk').kept (oq _ (fun z1 => e (by omega)))
theorem q_Rg.up {kd : Nat → Nat × Nat} {μ : q_M} (h : q_Rg kd μ) {k j : Nat} {v : Int} (hv : q_S v ∧ ((kd k).1 ≠ 2 → q_R v)) : q_Rg kd (q_up μ k j v) := by
  intro k' j'
  unfold q_up
  by_cases e : k' = k ∧ j' = j
  · rw [if_pos e, e.1]
    exact hv
  · rw [if_neg e]
    exact h k' j'
theorem q_up_row {μ : q_M} {k j : Nat} {v : Int} : q_up μ k j v k = fun j' => if j' = j then v else μ k j' := by
  funext j'
  simp [q_up]
theorem q_up_off {μ : q_M} {k j : Nat} {v : Int} : ∀ k', k' ≠ k → q_up μ k j v k' = μ k' := by
  intro k' h
  funext j'
  simp [q_up, h]
theorem q_vs_len {ci z : Nat} {f : Nat → Int} {r : Nat → Option Nat} : (q_vs ci z f r).length = q_nf ci := by simp [q_vs]
theorem q_vs_get {ci z j : Nat} {f : Nat → Int} {r : Nat → Option Nat} (hj : j < q_nf ci) : (q_vs ci z f r)[j]? = some (q_fv ci j (f j) ((r j).map (fun t => z + t))) := by
  simp [q_vs, hj]
theorem q_vs_set {ci z j : Nat} {f : Nat → Int} {r : Nat → Option Nat} (v : Int) : vp_V ((q_vs ci z f r).set j (q_fv ci j v ((r j).map (fun t => z + t)))) = vp_V (q_vs ci z (fun j' => if j' = j then v else f j') r) := by
  congr 1
  apply List.ext_getElem?
  intro i
  by_cases hi : i < q_nf ci
  · by_cases e : i = j
    · subst e
      rw [List.getElem?_set_self (by rw [q_vs_len]; exact hi), q_vs_get hi]
      simp
    · rw [List.getElem?_set_ne (Ne.symm e), q_vs_get hi, q_vs_get hi]
      simp [e]
  · rw [List.getElem?_eq_none (by rw [List.length_set, q_vs_len]; omega), List.getElem?_eq_none (by rw [q_vs_len]; omega)]
