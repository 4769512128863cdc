/-! the text of a rule -/
def chr (μ : q_M) (i : Int) : Int := if i < q_g μ 0 4 then q_g μ 3 i else -1
def rd (ch : Int → Int) : Nat → Int → Int → Int × Int
  | 0, i, v => (i, v)
  | d + 1, i, v => if 48 ≤ ch i ∧ ch i ≤ 57 then rd ch d (i + 1) (v * 10 + ch i - 48) else (i, v)
def p10 : Nat → Int
  | 0 => 1
  | d + 1 => 10 * p10 d
theorem p10_1 : ∀ d, 1 ≤ p10 d
  | 0 => Int.le_refl 1
  | d + 1 => by
    have := p10_1 d
    unfold p10
    omega
theorem p10_v {v d : Int} (hv : 0 ≤ v) (hd : 1 ≤ d) (h : (v + 1) * d ≤ 10000) : v ≤ 9999 := by
  have := Int.mul_le_mul_of_nonneg_left hd (show 0 ≤ v + 1 by omega)
  omega
theorem rd_in {ch : Int → Int} : ∀ (d : Nat) (i v : Int), 0 ≤ v → (v + 1) * p10 d ≤ 10000 → i ≤ (rd ch d i v).1 ∧ (rd ch d i v).1 ≤ i + d ∧ 0 ≤ (rd ch d i v).2 ∧ (rd ch d i v).2 ≤ 9999
  | 0, i, v, h0, h1 => by
    have := p10_v h0 (p10_1 0) h1
    unfold rd
    exact ⟨Int.le_refl _, by simp, h0, this⟩
  | d + 1, i, v, h0, h1 => by
    have hv := p10_v h0 (p10_1 (d + 1)) h1
    have hp := p10_1 d
    unfold rd
    by_cases g : 48 ≤ ch i ∧ ch i ≤ 57
    · rw [if_pos g]
      have e : (v * 10 + ch i - 48 + 1) * p10 d ≤ (10 * (v + 1)) * p10 d := Int.mul_le_mul_of_nonneg_right (by omega) (by omega)
      have e2 : (10 * (v + 1)) * p10 d = (v + 1) * p10 (d + 1) := by
        rw [show p10 (d + 1) = 10 * p10 d from rfl, Int.mul_comm 10 (v + 1), Int.mul_assoc]
      obtain ⟨a, b, c, f⟩ := rd_in (ch := ch) d (i + 1) (v * 10 + ch i - 48) (by omega) (by omega)
      exact ⟨by omega, by omega, c, f⟩
    · rw [if_neg g]
      exact ⟨Int.le_refl _, by simp only; omega, h0, hv⟩
