theorem nth_fi {p : Int → Bool} : ∀ {d : Nat} {i : Int}, nth p 0 i d = if fi p i d < i + d then fi p i d else -1
  | 0, i => by simp [nth, fi]
  | d + 1, i => by
    unfold nth fi
    by_cases h : p i = true
    · rw [if_pos h, if_pos h, if_pos rfl, if_pos (by omega)]
    · rw [if_neg h, if_neg h, nth_fi]
      by_cases g : fi p (i + 1) d < i + 1 + d
      · rw [if_pos g, if_pos (by omega)]
      · rw [if_neg g, if_neg (by omega)]
theorem cnt_fi {p : Int → Bool} : ∀ {e d : Nat} {i : Int}, e ≤ d → (cnt p i e = 0 ↔ i + e ≤ fi p i d)
  | 0, d, i, _ => by
    have := (fi_in (p := p) (d := d) (i := i)).1
    simp [cnt, sm]
    exact this
  | e + 1, 0, i, h => absurd h (by omega)
  | e + 1, d + 1, i, h => by
    have ih := cnt_fi (p := p) (e := e) (d := d) (i := i + 1) (by omega)
    have hb := cnt_bd (p := p) (i := i + 1) (d := e)
    rw [cnt_s]
    unfold fi
    by_cases g : p i = true
    · rw [if_pos g, g]
      have : bi true = 1 := rfl
      omega
    · rw [if_neg g, Bool.eq_false_iff.mpr g]
      have : bi false = 0 := rfl
      omega
theorem z_markerPlace {N o : Nat} {n c f t : Int} {μ : q_M} {w : Int → Int} (hN : 1000 ≤ N) (hr : rr_C o n μ w) (hv : rv n w c) (hf : 0 ≤ f ∧ f < 5) (ht : 0 ≤ t ∧ t < 5) : f_Ch_markerPlace N (o + 14) (f * 5 + t) μ = some (chP (wait w f t) (w (38 + 5 * f + t)) 0) := by
  have v7 := hv.2.2.2.2.2.2.2.1 (f * 5 + t) (by omega) (by omega)
  have e6 := hr.2.2.2.2.2.2.1 (f * 5 + t) (by omega) (by omega)
  rw [show 38 + (f * 5 + t) = 38 + 5 * f + t by omega] at v7 e6
  unfold f_Ch_markerPlace chP
  rw [z_ld (by omega) (by omega), show o + 14 + 6 = o + 20 from rfl, e6, z_jn]
  by_cases l : w (38 + 5 * f + t) = -1
  · rw [if_pos l, if_neg (by omega)]
  · rw [if_neg l, if_pos (by omega), z_waitingAhead hN hr hv hf ht (by omega) v7.2, z_b, Int.sub_zero]
