/-! the model's flow of one stock, found -/
theorem hx_pt {b : Int} {P : Nat} : ∀ {d k : Nat}, k ≤ P → P < k + d → hx b (fun j => if P = j then 1 else 0) k d = b ^ (k + d - 1 - P)
  | 0, k, h1, h2 => absurd h2 (by omega)
  | d + 1, k, h1, h2 => by
    rw [hx_s]
    by_cases e : P = k
    · rw [if_pos e, hx_cong (g := fun _ => 0) (fun j a c => if_neg (by omega)), hx_zero, show k + (d + 1) - 1 - P = d by omega]
      omega
    · rw [if_neg e, hx_pt (d := d) (k := k + 1) (by omega) (by omega), show k + 1 + d - 1 - P = k + (d + 1) - 1 - P by omega]
      omega
theorem hx_nn {b : Int} {f : Nat → Int} (hb : 2 ≤ b) (h : ∀ j, 0 ≤ f j) : ∀ {d k : Nat}, 0 ≤ hx b f k d
  | 0, _ => Int.le_refl 0
  | d + 1, k => by
    have h1 := Int.mul_nonneg (h k) (show 0 ≤ b ^ d by have := pow_pos' hb d; omega)
    have h2 := hx_nn hb h (d := d) (k := k + 1)
    rw [hx_s]
    omega
theorem prM_hx {mv : Int → Int} {g b n u v : Int} (hn : ni n) (hu : nd u) (hv : nd v) : prM mv g b n u v = coE mv g b n u v * 2 ^ 30 + hx 2 (dl (plc n) u v) 0 30 := by
  have hb := plc_bd hn hu hv
  unfold prM coE
  by_cases q : 0 ≤ plc n u v
  · rw [if_pos q, if_pos q]
    have e : hx 2 (dl (plc n) u v) 0 30 = (2 : Int) ^ (29 - plc n u v).toNat := by
      rw [hx_cong (g := fun j => if (plc n u v).toNat = j then 1 else 0) (fun j _ _ => by
        unfold dl
        by_cases z : plc n u v = j
        · rw [if_pos z, if_pos (by omega)]
        · rw [if_neg z, if_neg (by omega)]), hx_pt (by omega) (by omega), show 0 + 30 - 1 - (plc n u v).toNat = (29 - plc n u v).toNat by omega]
    rw [e]
    rfl
  · rw [if_neg q, if_neg q, hx_cong (f := dl (plc n) u v) (g := fun _ => 0) (fun j _ _ => by unfold dl; exact if_neg (by omega)), hx_zero]
    rfl
theorem PMt_nn {B n u v : Int} {CO : Int → Int → Int} (hB : 2 ≤ B) (h : 0 ≤ CO u v) : 0 ≤ PMt B n CO u v := by
  have h1 := Int.mul_nonneg h (show 0 ≤ B ^ 30 by have := pow_pos' hB 30; omega)
  have h2 := hx_nn hB (f := dl (plc n) u v) (fun j => by
    unfold dl
    by_cases z : plc n u v = j
    · rw [if_pos z]; decide
    · rw [if_neg z]; decide) (d := 30) (k := 0)
  unfold PMt
  omega
theorem hiM_hi {S T R V : Int → Int} {n st tr p : Int} {k : Nat} (hn : ni n) (h1 : n ≤ p) (h2 : p < 5) : hiM S T R V n st tr k p 6 = 0 ∧ hiC S T R V n st tr k p 6 = 0 := by
  have h5 : 2 ≤ n ∧ n ≤ 5 := by rcases hn with rfl | rfl | rfl | rfl <;> decide
  have dp : nd p := ⟨by omega, by omega⟩
  unfold hiM hiC
  rw [(plc6 hn dp).1, if_neg (by decide), if_neg (by omega), if_neg (by omega), if_neg (by decide), if_neg (by omega), if_neg (by omega)]
  exact ⟨rfl, rfl⟩
theorem hiM_65 {S T R V : Int → Int} {n st tr : Int} {k : Nat} (hn : ni n) : hiM S T R V n st tr k 6 5 = (if fH S T R V 8 st 100000 k - tr < mx0 (fL S T R V 8 st k - tr) then mx0 (fL S T R V 8 st k - tr) else fH S T R V 8 st 100000 k - tr) := by
  unfold hiM
  rw [(plc6 hn (u := 5) ⟨by decide, by decide⟩).2, if_neg (by decide), if_neg (fun q => absurd q.1 (by decide)), if_pos ⟨rfl, rfl⟩]
theorem hiM_p6 {S T R V : Int → Int} {n st tr p : Int} {k : Nat} (hn : ni n) (h0 : 0 ≤ p) (h1 : p < n) : hiM S T R V n st tr k p 6 = (if fH S T R V p st 1000 k < fL S T R V p st k then fL S T R V p st k else fH S T R V p st 1000 k) := by
  have h5 : 2 ≤ n ∧ n ≤ 5 := by rcases hn with rfl | rfl | rfl | rfl <;> decide
  unfold hiM
  rw [(plc6 hn (u := p) ⟨h0, by omega⟩).1, if_neg (by decide), if_pos ⟨rfl, h1⟩]
theorem lohi_p {S T R V : Int → Int} {n K s tr p : Int} (hn : ni n) (hB : ruB n K S T R V) (hG : ∀ i, 0 ≤ i → i < n → fL S T R V i s K.toNat ≤ fH S T R V i s 1000 K.toNat) (h0 : 0 ≤ p) (h5 : p < 5) : hiM S T R V n s tr K.toNat p 6 = hiC S T R V n s tr K.toNat p 6 ∧ 0 ≤ loC S T R V n s tr K.toNat p 6 ∧ loC S T R V n s tr K.toNat p 6 ≤ hiC S T R V n s tr K.toNat p 6 ∧ hiC S T R V n s tr K.toNat p 6 ≤ 1000 ∧ (n ≤ p → hiC S T R V n s tr K.toNat p 6 = 0) := by
  have hn5 : 2 ≤ n ∧ n ≤ 5 := by rcases hn with rfl | rfl | rfl | rfl <;> decide
  by_cases g : p < n
  · have := hG p h0 g
    have b1 := fL_bd (subj := p) (st := s) hB K.toNat (by have := hB.1; omega)
    have b2 := fH_bd (subj := p) (st := s) (most := 1000) hB (by decide) K.toNat (by have := hB.1; omega)
    rw [hiM_p6 hn h0 g, hiC_p6 hn ⟨h0, by omega⟩ g, loC_p6 g, if_neg (by omega)]
    exact ⟨rfl, b1.1, this, b2.2, fun q => by omega⟩
  · have h1 := hiM_hi (S := S) (T := T) (R := R) (V := V) (st := s) (tr := tr) (k := K.toNat) hn (by omega) h5
    have h2 := loC_hi (S := S) (T := T) (R := R) (V := V) (st := s) (tr := tr) (k := K.toNat) hn5 (show n ≤ p by omega) h5
    rw [h1.1, h1.2, h2]
    exact ⟨rfl, by decide, by decide, by decide, fun _ => rfl⟩
theorem feas_iff {S T R V : Int → Int} {n K s : Int} {tr : Int → Int} (hn : ni n) (hB : ruB n K S T R V) (ht : 0 ≤ tr s ∧ tr s ≤ 51200) : feas S T R V n K tr s ↔ (gM S T R V n K s (tr s) ∧ cbl (loC S T R V n s (tr s) K.toNat) (hiM S T R V n s (tr s) K.toNat)) := by
  have hn5 : 2 ≤ n ∧ n ≤ 5 := by rcases hn with rfl | rfl | rfl | rfl <;> decide
  have e5 := hiC_65 (S := S) (T := T) (R := R) (V := V) (st := s) (tr := tr s) (k := K.toNat) hn
  have m5 := hiM_65 (S := S) (T := T) (R := R) (V := V) (st := s) (tr := tr s) (k := K.toNat) hn
  have l5 := loC_65 (S := S) (T := T) (R := R) (V := V) (n := n) (st := s) (tr := tr s) (k := K.toNat)
  have sums : ∀ (f : Int → Int), (∀ p, 0 ≤ p → p < 5 → 0 ≤ f p ∧ f p ≤ 1000) → (∀ p, n ≤ p → p < 5 → f p = 0) → f 0 + f 1 + f 2 + f 3 + f 4 ≤ n * 1000 := by
    intro f h1 h2
    have a0 := h1 0 (by decide) (by decide)
    have a1 := h1 1 (by decide) (by decide)
    have a2 := h1 2 (by decide) (by decide)
    have a3 := h1 3 (by decide) (by decide)
    have a4 := h1 4 (by decide) (by decide)
    rcases hn with rfl | rfl | rfl | rfl
    · have b2 := h2 2 (by decide) (by decide)
      have b3 := h2 3 (by decide) (by decide)
      have b4 := h2 4 (by decide) (by decide)
      omega
    · have b3 := h2 3 (by decide) (by decide)
      have b4 := h2 4 (by decide) (by decide)
      omega
    · have b4 := h2 4 (by decide) (by decide)
      omega
    · omega
  constructor
  · rintro ⟨f9, ⟨⟨c0, c1, c2, c3, c4⟩, c5⟩, c6, c7⟩
    have hG : ∀ i, 0 ≤ i → i < n → fL S T R V i s K.toNat ≤ fH S T R V i s 1000 K.toNat := fun i a b => by
      rw [← loC_p6 (S := S) (T := T) (R := R) (V := V) (st := s) (tr := tr s) (k := K.toNat) b, ← hiC_p6 (S := S) (T := T) (R := R) (V := V) (st := s) (tr := tr s) (k := K.toNat) hn ⟨a, by omega⟩ b]
      have : i = 0 ∨ i = 1 ∨ i = 2 ∨ i = 3 ∨ i = 4 := by omega
      rcases this with rfl | rfl | rfl | rfl | rfl <;> assumption
    have q0 := lohi_p (p := 0) (s := s) (tr := tr s) hn hB hG (by decide) (by decide)
    have q1 := lohi_p (p := 1) (s := s) (tr := tr s) hn hB hG (by decide) (by decide)
    have q2 := lohi_p (p := 2) (s := s) (tr := tr s) hn hB hG (by decide) (by decide)
    have q3 := lohi_p (p := 3) (s := s) (tr := tr s) hn hB hG (by decide) (by decide)
    have q4 := lohi_p (p := 4) (s := s) (tr := tr s) hn hB hG (by decide) (by decide)
    have hmn : mnI (n * 1000) (fH S T R V 8 s 100000 K.toNat - tr s) ≤ fH S T R V 8 s 100000 K.toNat - tr s := by
      unfold mnI
      by_cases z : fH S T R V 8 s 100000 K.toNat - tr s < n * 1000
      · rw [if_pos z]; exact Int.le_refl _
      · rw [if_neg z]; omega
    rw [e5] at c5 c6
    rw [l5] at c5
    have g3 : mx0 (fL S T R V 8 s K.toNat - tr s) ≤ fH S T R V 8 s 100000 K.toNat - tr s := by omega
    rw [if_neg (by omega)] at m5
    refine ⟨⟨f9, hG, g3⟩, ⟨⟨?_, ?_, ?_, ?_, ?_⟩, ?_⟩, ?_, ?_⟩
    · omega
    · omega
    · omega
    · omega
    · omega
    · rw [l5, m5]; exact g3
    · rw [m5]; omega
    · omega
  · rintro ⟨⟨f9, hG, g3⟩, ⟨⟨c0, c1, c2, c3, c4⟩, c5⟩, c6, c7⟩
    have q0 := lohi_p (p := 0) (s := s) (tr := tr s) hn hB hG (by decide) (by decide)
    have q1 := lohi_p (p := 1) (s := s) (tr := tr s) hn hB hG (by decide) (by decide)
    have q2 := lohi_p (p := 2) (s := s) (tr := tr s) hn hB hG (by decide) (by decide)
    have q3 := lohi_p (p := 3) (s := s) (tr := tr s) hn hB hG (by decide) (by decide)
    have q4 := lohi_p (p := 4) (s := s) (tr := tr s) hn hB hG (by decide) (by decide)
    rw [if_neg (by omega)] at m5
    have h1 := sums (fun p => loC S T R V n s (tr s) K.toNat p 6) (fun p a b => by
      have := lohi_p (p := p) (s := s) (tr := tr s) hn hB hG a b
      show 0 ≤ loC S T R V n s (tr s) K.toNat p 6 ∧ loC S T R V n s (tr s) K.toNat p 6 ≤ 1000
      omega) (fun p a b => loC_hi hn5 a b)
    have h2 := sums (fun p => hiC S T R V n s (tr s) K.toNat p 6) (fun p a b => by
      have := lohi_p (p := p) (s := s) (tr := tr s) hn hB hG a b
      show 0 ≤ hiC S T R V n s (tr s) K.toNat p 6 ∧ hiC S T R V n s (tr s) K.toNat p 6 ≤ 1000
      omega) (fun p a b => (hiM_hi hn a b).2)
    have hmn : mnI (n * 1000) (fH S T R V 8 s 100000 K.toNat - tr s) = n * 1000 ∨ mnI (n * 1000) (fH S T R V 8 s 100000 K.toNat - tr s) = fH S T R V 8 s 100000 K.toNat - tr s := by
      unfold mnI
      by_cases z : fH S T R V 8 s 100000 K.toNat - tr s < n * 1000
      · rw [if_pos z]; exact Or.inr rfl
      · rw [if_neg z]; exact Or.inl rfl
    rw [m5] at c6
    refine ⟨f9, ⟨⟨by omega, by omega, by omega, by omega, by omega⟩, ?_⟩, ?_, by omega⟩
    · rw [e5]
      rw [l5] at c7 ⊢
      omega
    · rw [e5]
      omega
