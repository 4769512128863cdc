/-! PURE FROM HERE ON: the steps evaluated -/
def q_g (μ : q_M) (k : Nat) (i : Int) : Int := if 0 ≤ i then μ k i.toNat else 0
def q_x (μ : q_M) (k : Nat) (i v : Int) : q_M := q_up μ k i.toNat v
def q_u (w : Int → Int) (i v : Int) : Int → Int := fun j => if j = i then v else w j
theorem z_ck {α : Type} {z : Int} {K : Int → Option α} (h1 : -2147483648 ≤ z) (h2 : z < 2147483648) : q_ck z K = K z := if_pos ⟨h1, h2⟩
theorem z_cl {α : Type} {z : Int} {K : Int → Option α} (h1 : -9223372036854775808 ≤ z) (h2 : z < 9223372036854775808) : q_cl z K = K z := if_pos ⟨h1, h2⟩
theorem z_ld {α : Type} {μ : q_M} {k n : Nat} {i : Int} {K : Int → Option α} (h0 : 0 ≤ i) (h1 : i < n) : q_ld μ k n i K = K (q_g μ k i) := by
  unfold q_ld q_g
  rw [if_pos ⟨h0, h1⟩, if_pos h0]
theorem z_st {α : Type} {μ : q_M} {k n : Nat} {i v : Int} {K : q_M → Option α} (h0 : 0 ≤ i) (h1 : i < n) : q_st μ k n i v K = K (q_x μ k i v) := by
  unfold q_st q_x
  rw [if_pos ⟨h0, h1⟩]
theorem z_stc {α : Type} {μ : q_M} {k n : Nat} {i v : Int} {K : q_M → Option α} (h0 : 0 ≤ i) (h1 : i < n) (h2 : 0 ≤ v) (h3 : v < 65536) : q_stc μ k n i v K = K (q_x μ k i v) := by
  unfold q_stc q_x
  rw [if_pos ⟨⟨h0, h1⟩, h2, h3⟩]
theorem z_stz {α : Type} {μ : q_M} {k n : Nat} {i v : Int} {K : q_M → Option α} (h0 : 0 ≤ i) (h1 : i < n) (h2 : v = 0 ∨ v = 1) : q_stz μ k n i v K = K (q_x μ k i v) := by
  unfold q_stz q_x
  rw [if_pos ⟨⟨h0, h1⟩, h2⟩]
theorem z_fl {α : Type} {μ : q_M} {k j : Nat} {K : Int → Option α} : q_fl μ k j K = K (q_g μ k (j : Int)) := by
  unfold q_fl q_g
  rw [if_pos (Int.natCast_nonneg j), Int.toNat_natCast]
theorem z_fs {α : Type} {μ : q_M} {k j : Nat} {v : Int} {K : q_M → Option α} : q_fs μ k j v K = K (q_x μ k (j : Int) v) := by
  unfold q_fs q_x
  rw [Int.toNat_natCast]
theorem z_fz {α : Type} {μ : q_M} {k j : Nat} {v : Int} {K : q_M → Option α} (h : v = 0 ∨ v = 1) : q_fz μ k j v K = K (q_x μ k (j : Int) v) := by
  unfold q_fz q_x
  rw [if_pos h, Int.toNat_natCast]
theorem z_b {α β : Type} {v : β} {K : β → Option α} : q_b (some v) K = K v := rfl
theorem z_b2 {α : Type} {x : Int} {μ : q_M} {K : Int → q_M → Option α} : q_b2 (some (x, μ)) K = K x μ := rfl
theorem z_jn {α κ : Type} {K : κ} {B : κ → Option α} : q_jn K B = B K := rfl
theorem z_fi {α : Type} {μ : q_M} {k n : Nat} {v : Int} {K : q_M → Option α} : q_fi μ k n v K = K (q_fill μ k n v) := rfl
theorem z_cp {α : Type} {μ : q_M} {a b n : Nat} {K : q_M → Option α} : q_cp μ a b n K = K (q_copy μ a b n) := rfl
theorem z_rz0 {α : Type} {m : Option α} : q_rz 0 m = m := rfl
theorem z_rz1 {α : Type} {m : Option α} : q_rz 1 m = m := rfl
theorem z_rzi {α : Type} {c : Prop} [Decidable c] {m : Option α} : q_rz (if c then 1 else 0) m = m := by
  by_cases h : c
  · rw [if_pos h]; rfl
  · rw [if_neg h]; rfl
theorem z_mx {α : Type} {x y : Int} {K : Int → Option α} : q_mx x y K = K (if x < y then y else x) := rfl
theorem z_mn {α : Type} {x y : Int} {K : Int → Option α} : q_mn x y K = K (if y < x then y else x) := rfl
theorem z_bz {c : Prop} [Decidable c] : ((if c then (1 : Int) else 0) = 0) = ¬ c := by
  by_cases h : c <;> simp [h]
/-! reading behind a write -/
theorem g_s {μ : q_M} {k : Nat} {i v : Int} (hi : 0 ≤ i) : q_g (q_x μ k i v) k = q_u (q_g μ k) i v := by
  funext j
  unfold q_g q_x q_up q_u
  by_cases hj : 0 ≤ j
  · by_cases e : j = i
    · simp [e, hi]
    · have : ¬ j.toNat = i.toNat := by omega
      simp [e, this]
  · have e : ¬ j = i := by omega
    simp [hj, e]
theorem g_sn {μ : q_M} {k k' : Nat} {i v : Int} (h : k' ≠ k) : q_g (q_x μ k i v) k' = q_g μ k' := by
  funext j
  unfold q_g q_x q_up
  simp [h]
theorem g_f {μ : q_M} {k n : Nat} {v : Int} {j : Int} (h0 : 0 ≤ j) (h1 : j < n) : q_g (q_fill μ k n v) k j = v := by
  unfold q_g q_fill
  rw [if_pos h0, if_pos ⟨rfl, by omega⟩]
theorem g_fn {μ : q_M} {k k' n : Nat} {v : Int} (h : k' ≠ k) : q_g (q_fill μ k n v) k' = q_g μ k' := by
  funext j
  unfold q_g q_fill
  simp [h]
theorem g_c {μ : q_M} {a b n : Nat} {j : Int} (h0 : 0 ≤ j) (h1 : j < n) : q_g (q_copy μ a b n) b j = q_g μ a j := by
  unfold q_g q_copy
  rw [if_pos h0, if_pos ⟨rfl, by omega⟩, if_pos h0]
theorem g_cn {μ : q_M} {a b k' n : Nat} (h : k' ≠ b) : q_g (q_copy μ a b n) k' = q_g μ k' := by
  funext j
  unfold q_g q_copy
  simp [h]
theorem u_s {w : Int → Int} {i v : Int} : q_u w i v i = v := if_pos rfl
theorem u_n {w : Int → Int} {i v j : Int} (h : j ≠ i) : q_u w i v j = w j := if_neg h
/-! the small methods -/
theorem z_within {a b c : Int} {μ : q_M} : f_CR_within a b c μ = some (if b ≤ a ∧ a ≤ c then 1 else 0) := by
  simp only [f_CR_within, z_jn, z_rz0, z_rz1]
  by_cases h1 : a < b
  · rw [if_pos h1, if_neg (by omega)]
  · by_cases h2 : c < a
    · rw [if_neg h1, if_pos h2, if_neg (by omega)]
    · rw [if_neg h1, if_neg h2, if_pos (by omega)]
theorem z_in {a b c : Int} {μ : q_M} : f_M_in a b c μ = some (if b ≤ a ∧ a ≤ c then 1 else 0) := by
  simp only [f_M_in, z_jn, z_rz0, z_rz1]
  by_cases h1 : a < b
  · rw [if_pos h1, if_neg (by omega)]
  · by_cases h2 : c < a
    · rw [if_neg h1, if_pos h2, if_neg (by omega)]
    · rw [if_neg h1, if_neg h2, if_pos (by omega)]
theorem z_isStock {a : Int} {μ : q_M} : f_CR_isStock a μ = some (if 0 ≤ a ∧ a ≤ 1 then 1 else 0) := by
  simp only [f_CR_isStock, z_within, z_b, z_rzi]
theorem z_slot {a b : Int} {μ : q_M} (h0 : 0 ≤ a) (h1 : a ≤ 5) (h2 : 0 ≤ b) (h3 : b ≤ 1) : f_CR_slot a b μ = some (a * 2 + b) := by
  simp (disch := omega) only [f_CR_slot, z_ck]
theorem z_channelOf {a b : Int} {μ : q_M} (h0 : 0 ≤ a) (h1 : a ≤ 5) (h2 : 0 ≤ b) (h3 : b ≤ 5) : f_CR_channelOf a b μ = some (a * 5 + b) := by
  simp (disch := omega) only [f_CR_channelOf, z_ck]
theorem z_isProcess {a n : Int} {μ : q_M} (hn : q_g μ 1 0 = n) (h2 : 2 ≤ n) (h5 : n ≤ 5) : f_CR_isProcess a μ = some (if 0 ≤ a ∧ a ≤ n - 1 then 1 else 0) := by
  simp (disch := omega) only [f_CR_isProcess, z_fl, z_ck, z_within, z_b, z_rzi, Int.cast_ofNat_Int, hn]
theorem z_noProcess {a n : Int} {μ : q_M} (hn : q_g μ 0 0 = n) (h2 : 2 ≤ n) (h5 : n ≤ 5) : f_M_noProcess a μ = some (if 0 ≤ a ∧ a ≤ n - 1 then 0 else 1) := by
  simp (disch := omega) only [f_M_noProcess, z_fl, z_ck, z_in, z_b, z_rz0, z_rz1, z_jn, z_bz, Int.cast_ofNat_Int, hn]
  by_cases h : 0 ≤ a ∧ a ≤ n - 1
  · simp [h]
  · simp [h]
