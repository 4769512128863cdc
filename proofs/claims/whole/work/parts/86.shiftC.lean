/-! the class's flow: pushing, to the end -/
def tX (X : Int → Int → Int) : Int := sm (fun a => X (a / 7) (a % 7)) 0 49
theorem tX_up {X : Int → Int → Int} {a b k : Int} (ha : nd a) (hb : nd b) : tX (up2 X a b k) = tX X + (k - X a b) := by
  have a1 := ha.1
  have a2 := ha.2
  have b1 := hb.1
  have b2 := hb.2
  unfold tX
  rw [sm_upd (f := fun i => X (i / 7) (i % 7)) (p := a * 7 + b) (by omega) (by omega) (fun j j0 j1 hj => up2_n (by omega))]
  rw [show (a * 7 + b) / 7 = a by omega, show (a * 7 + b) % 7 = b by omega, up2_s]
theorem push2 {o : Nat} {LO HI PR X0 : Int → Int → Int} {src : Int → Prop} {d pi : Int → Int} {rc : Int → Bool} {pa : Int → Int} {ln : Int → Nat} {t r U : Int} {K : q_M → Option (Int × q_M)} (hU : 0 < U) (hp : po (okC LO HI X0) wfC wtC (wpC LO PR X0) pi) (hs : stb (okC LO HI X0) wfC wtC (wpC LO PR X0) d rc) (hI : wI (okC LO HI X0) wfC wtC (wpC LO PR X0) src d rc pa ln) : ∀ (k nf : Nat) (v s : Int) (μ : q_M) (X : Int → Int → Int), ct pi d ln v ≤ k → 0 ≤ s → s + k ≤ 6 → k < nf → nd v → rc v = true → d v - pi v ≤ d t - pi t → pth (rwC LO HI X0) wfC pa k v r U → cM o μ LO HI PR X → wR o μ d rc pa → cB LO HI PR X → mp LO HI PR X (nP pi d rc t) → (∀ a b, nd a → nd b → ct pi d ln a ≤ ct pi d ln v → ct pi d ln b ≤ ct pi d ln v → X a b = X0 a b) → (∀ w, nd w → nt X w = nt X0 w + (if w = t then U else 0) - (if w = v then U else 0)) → (∀ a b, nd a → nd b → X0 a b - U ≤ X a b ∧ X a b ≤ X0 a b + U) →
    ∃ μ' X', f_Fl_pushTo_L82 o U K nf v s μ = K μ' ∧ (∀ k, k ≠ o + 1 → q_g μ' k = q_g μ k) ∧ cM o μ' LO HI PR X' ∧ cB LO HI PR X' ∧ mp LO HI PR X' (nP pi d rc t) ∧ (∀ w, nd w → nt X' w = nt X0 w + (if w = t then U else 0) - (if w = r then U else 0)) ∧ (∀ a b, nd a → nd b → X0 a b - U ≤ X' a b ∧ X' a b ≤ X0 a b + U) ∧ tX X' ≤ tX X + k * U := by
  intro k
  induction k with
  | zero =>
    intro nf v s μ X h1 h2 h3 h4 hv hr ht hpt hM hR hB hm ha hn hd
    obtain ⟨nf, rfl⟩ : ∃ m, nf = m + 1 := ⟨nf - 1, by omega⟩
    have v1 := hv.1
    have v2 := hv.2
    obtain ⟨rfl, q⟩ := hpt
    refine ⟨μ, X, ?_, fun _ _ => rfl, hM, hB, hm, hn, hd, by simp⟩
    rw [f_Fl_pushTo_L82, if_neg (by omega), z_ld (by omega) (by omega), (hR v hv).2, if_pos q, if_pos rfl]
  | succ k ih =>
    intro nf v s μ X h1 h2 h3 h4 hv hr ht hpt hM hR hB hm ha hn hd
    obtain ⟨nf, rfl⟩ : ∃ m, nf = m + 1 := ⟨nf - 1, by omega⟩
    have v1 := hv.1
    have v2 := hv.2
    rw [f_Fl_pushTo_L82, if_neg (by omega), z_ld (by omega) (by omega), (hR v hv).2]
    rcases hpt with ⟨rfl, q⟩ | ⟨q, hq, hpt⟩
    · rw [if_pos q, if_pos rfl]
      exact ⟨μ, X, rfl, fun _ _ => rfl, hM, hB, hm, hn, hd, by
        have := Int.mul_nonneg (show (0 : Int) ≤ ((k + 1 : Nat) : Int) by omega) (show 0 ≤ U by omega)
        omega⟩
    · obtain ⟨g1, g2, g3, g4, g5⟩ := wI_tight hI hs hv hr q
      have hti := nP_tight (t := t) hI hs hp hv hr q ht
      obtain ⟨p1, -, p3, p4, p5, p6, p7, p8⟩ := pa_uv g2 g3
      have a1 := ct_lt p1 (wI_rk hI hp hv hr q)
      have u1 := p1.1
      have u2 := p1.2
      generalize hu : wfC (pa v) = u at p1 p3 p4 p5 p6 p7 a1 u1 u2 g4 g5 hti hpt
      have euv := ha u v p1 hv (by omega) (Int.le_refl _)
      have evu := ha v u hv p1 (Int.le_refl _) (by omega)
      have hwp : wpC LO PR X0 (pa v) = prC LO PR X0 u v := by
        unfold wpC
        rw [p7, show pa v % 7 = v from g3]
      rw [hwp] at hti g5
      rw [p5] at hq
      rw [if_neg q, p7, if_neg (by omega), z_ld (by omega) (by omega), (hR v hv).2, if_neg q, p7]
      -- one shift
      have cont : ∀ (a b y : Int), ((a = v ∧ b = u) ∨ (a = u ∧ b = v)) → LO a b ≤ y → y ≤ HI a b → y - X a b = (if a = v then -U else U) → PR a b + nP pi d rc t a - nP pi d rc t b = 0 → ∃ μ' X', (q_ld (q_x μ (o + 1) (a * 7 + b) y) (o + 7) 7 v fun x27 => q_ck (s + 1) fun x28 => f_Fl_pushTo_L82 o U K nf x27 x28 (q_x μ (o + 1) (a * 7 + b) y)) = K μ' ∧ (∀ k, k ≠ o + 1 → q_g μ' k = q_g μ k) ∧ cM o μ' LO HI PR X' ∧ cB LO HI PR X' ∧ mp LO HI PR X' (nP pi d rc t) ∧ (∀ w, nd w → nt X' w = nt X0 w + (if w = t then U else 0) - (if w = r then U else 0)) ∧ (∀ a b, nd a → nd b → X0 a b - U ≤ X' a b ∧ X' a b ≤ X0 a b + U) ∧ tX X' ≤ tX X + ((k + 1 : Nat) : Int) * U := by
        intro a b y hab y1 y2 y3 y4
        have na : nd a := by rcases hab with h | h <;> rw [h.1] <;> assumption
        have nb : nd b := by rcases hab with h | h <;> rw [h.2] <;> assumption
        have nab : a ≠ b := by rcases hab with h | h <;> rw [h.1, h.2] <;> omega
        have na1 := na.1
        have na2 := na.2
        have nb1 := nb.1
        have nb2 := nb.2
        have hR' : wR o (q_x μ (o + 1) (a * 7 + b) y) d rc pa := fun w hw => by
          rw [g_sn (by omega), g_sn (by omega)]
          exact hR w hw
        have hX0 : X a b = X0 a b := by rcases hab with h | h <;> rw [h.1, h.2] <;> assumption
        rw [z_ld (by omega) (by omega), (hR' v hv).2, if_neg q, p7, z_ck (by omega) (by omega)]
        obtain ⟨μ', X', e1, e2, e3, e4, e5, e6, e7, e8⟩ := ih nf u (s + 1) (q_x μ (o + 1) (a * 7 + b) y) (up2 X a b y) (by omega) (by omega) (by omega) (by omega) p1 g4 hti.2 hpt (by
          intro c e hc he
          have c1 := hc.1
          have c2 := hc.2
          have e1 := he.1
          have e2 := he.2
          rw [g_s (by omega), g_sn (by omega), g_sn (by omega), g_sn (by omega)]
          have := hM c e hc he
          by_cases z : c = a ∧ e = b
          · rw [z.1, z.2, u_s, up2_s]
            rw [z.1, z.2] at this
            exact ⟨rfl, this.2⟩
          · rw [u_n (by omega), up2_n z]
            exact this) hR' (by
          intro c e hc he
          have := hB c e hc he
          by_cases z : c = a ∧ e = b
          · rw [z.1, z.2, up2_s]
            rw [z.1, z.2] at this
            exact ⟨⟨this.1.1, y1, y2, this.1.2.2.2⟩, this.2⟩
          · rw [up2_n z]
            exact this) (mp_up hm y4) (by
          intro c e hc he h5 h6
          have z : ¬ (c = a ∧ e = b) := by
            rintro ⟨rfl, rfl⟩
            rcases hab with h | h
            · rw [h.1] at h5; omega
            · rw [h.2] at h6; omega
          rw [up2_n z]
          exact ha c e hc he (by omega) (by omega)) (by
          intro w hw
          rw [nt_up na nb nab, hn w hw, y3]
          rcases hab with ⟨rfl, rfl⟩ | ⟨rfl, rfl⟩
          · rw [if_pos rfl]
            by_cases z1 : w = b
            · have z2 : w ≠ a := fun z2 => nab (z2 ▸ z1)
              simp only [z1, if_pos, if_neg (fun h : b = a => nab h.symm)]
              omega
            · by_cases z2 : w = a
              · simp only [if_neg z1, if_pos z2]
                omega
              · simp only [if_neg z1, if_neg z2]
                omega
          · rw [if_neg nab]
            by_cases z1 : w = b
            · have z2 : w ≠ a := fun z2 => nab (z2 ▸ z1)
              simp only [z1, if_pos, if_neg (fun h : b = a => nab h.symm)]
              omega
            · by_cases z2 : w = a
              · simp only [if_neg z1, if_pos z2]
                omega
              · simp only [if_neg z1, if_neg z2]
                omega) (by
          intro c e hc he
          by_cases z : c = a ∧ e = b
          · rw [z.1, z.2, up2_s]
            by_cases z3 : a = v
            · rw [if_pos z3] at y3; omega
            · rw [if_neg z3] at y3; omega
          · rw [up2_n z]
            exact hd c e hc he)
        refine ⟨μ', X', e1, fun k hk => by rw [e2 k hk, g_sn hk], e3, e4, e5, e6, e7, ?_⟩
        rw [tX_up na nb, y3] at e8
        rw [show ((k + 1 : Nat) : Int) = (k : Int) + 1 from rfl, Int.add_mul, Int.one_mul]
        by_cases z3 : a = v
        · rw [if_pos z3] at e8; omega
        · rw [if_neg z3] at e8; omega
      have b1 := (hB u v p1 hv).1
      have b2 := (hB v u hv p1).1
      unfold f_Fl_shiftUnits
      simp only [z_arc hv p1, z_arc p1 hv, z_b, z_take hM hv p1, z_jn]
      obtain ⟨m1, -⟩ := hM v u hv p1
      obtain ⟨m2, -⟩ := hM u v p1 hv
      unfold prC at hti
      unfold rmC at hq
      rw [← evu] at hti hq
      by_cases g : LO v u < X v u
      · rw [if_pos g] at hti hq
        rw [if_pos g, if_neg (by decide), z_ld (by omega) (by omega), m1]
        have hUb : U ≤ 1000000 := by omega
        rw [z_ck (by omega) (by omega), z_st (by omega) (by omega), z_b]
        exact cont v u (X v u - U) (Or.inl ⟨rfl, rfl⟩) (by omega) (by omega) (by rw [if_pos rfl]; omega) (by omega)
      · rw [if_neg g] at hti hq
        rw [← euv] at hq
        rw [if_neg g, if_pos rfl, z_ld (by omega) (by omega), m2]
        have hUb : U ≤ 1000000 := by omega
        rw [z_ck (by omega) (by omega), z_st (by omega) (by omega), z_b]
        exact cont u v (X u v + U) (Or.inr ⟨rfl, rfl⟩) (by omega) (by omega) (by rw [if_neg p3]; omega) (by omega)
