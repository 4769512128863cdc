/-! the model's push, and its flow to the end -/
theorem cw_ok {n : Int} {st : Int → Int} {CO LO HI X : Int → Int → Int} {w : Int} (hn : ni n) (hB : eB n st CO LO HI X) (hw : okM n LO HI X w) : ∃ u v, nd u ∧ nd v ∧ u ≠ v ∧ 0 ≤ ei n u v ∧ ei n u v ≤ 40 ∧ ((w = u * 7 + v ∧ cwM n w = ei n u v ∧ wfM w = u ∧ wtM w = v ∧ rmM LO HI X w = HI u v - X u v ∧ ∀ PR, wpM PR w = PR u v) ∨ (w = 49 + (u * 7 + v) ∧ cwM n w = ei n u v + 100 ∧ wfM w = v ∧ wtM w = u ∧ rmM LO HI X w = X u v - LO u v ∧ ∀ PR, wpM PR w = -PR u v)) := by
  obtain ⟨u, v, hu, hv, huv, hc⟩ := wM_on hw
  have hq := q_rng hn
  have hei := ei_bd hn hu hv
  have hB1 := hB.1 u v hu hv
  have he0 : 0 ≤ ei n u v := by
    refine Classical.byContradiction fun g => ?_
    have := hB1.2.2 (by omega)
    omega
  refine ⟨u, v, hu, hv, huv, he0, by omega, ?_⟩
  rcases hc with ⟨rfl, -⟩ | ⟨rfl, -⟩
  · obtain ⟨a, b, -, d, e⟩ := wM_f (PR := X) (LO := LO) (HI := HI) (X := X) (n := n) hu hv
    exact Or.inl ⟨rfl, d, a, b, e, fun PR => (wM_f (PR := PR) (LO := LO) (HI := HI) (X := X) (n := n) hu hv).2.2.1⟩
  · obtain ⟨a, b, -, d, e⟩ := wM_b (PR := X) (LO := LO) (HI := HI) (X := X) (n := n) hu hv
    exact Or.inr ⟨rfl, d, a, b, e, fun PR => (wM_b (PR := PR) (LO := LO) (HI := HI) (X := X) (n := n) hu hv).2.2.1⟩
theorem z_roomW {n : Int} {st : Int → Int} {CO LO HI X : Int → Int → Int} {w : Int} {μ : q_M} (hn : ni n) (hE : eM n st CO LO HI μ X) (hB : eB n st CO LO HI X) (hw : okM n LO HI X w) : f_M_room (cwM n w) μ = some (rmM LO HI X w) := by
  obtain ⟨u, v, hu, hv, huv, he0, -, hc⟩ := cw_ok hn hB hw
  have hr := z_roomM hn hE hB hu hv he0
  rcases hc with ⟨-, a, -, -, b, -⟩ | ⟨-, a, -, -, b, -⟩
  · rw [a, b]; exact hr.1
  · rw [a, b]; exact hr.2
theorem push1M {n : Int} {st : Int → Int} {CO LO HI PR X : Int → Int → Int} {src : Int → Prop} {d pi : Int → Int} {rc : Int → Bool} {pa : Int → Int} {ln : Int → Nat} {μ : q_M} {K : Int → Int → Option (Int × q_M)} (hn : ni n) (hE : eM n st CO LO HI μ X) (hB : eB n st CO LO HI X) (hp : po (okM n LO HI X) wfM wtM (wpM PR) pi) (hR : rRM n μ rc pa) (hI : wI (okM n LO HI X) wfM wtM (wpM PR) src d rc pa ln) : ∀ (k nf : Nat) (x v : Int), ct pi d ln v ≤ k → k < nf → nd v → rc v = true → 0 < x → ∃ x' r, f_M_sendOn_L73 μ K nf x (sw v) = K x' (sw r) ∧ 0 < x' ∧ x' ≤ x ∧ nd r ∧ rc r = true ∧ src r ∧ pth (rmM LO HI X) wfM pa k v r x' := by
  intro k
  induction k with
  | zero =>
    intro nf x v h1 h4 hv hr hx
    obtain ⟨nf, rfl⟩ : ∃ m, nf = m + 1 := ⟨nf - 1, by omega⟩
    have v1 := (sw_nd hv).1
    have v2 := (sw_nd hv).2
    have hn' : pa v = -1 := by
      refine Classical.byContradiction fun g => ?_
      have a1 := wI_rk hI hp hv hr g
      rcases hI v hv hr with q | ⟨q1, q2, q3, q4, q5⟩
      · exact g q.1
      · have := ct_lt (wN_M _ q2).2.1 a1
        have := ct_bd (pi := pi) (d := d) (ln := ln) (wN_M _ q2).2.1
        omega
    have hs : src v := by
      rcases hI v hv hr with q | q
      · exact q.2.1
      · omega
    refine ⟨x, v, ?_, hx, Int.le_refl _, hv, hr, hs, rfl, hn'⟩
    rw [f_M_sendOn_L73, z_ld v1 (by omega), (hR v hv).2, if_pos hn', if_pos (by decide)]
  | succ k ih =>
    intro nf x v h1 h4 hv hr hx
    obtain ⟨nf, rfl⟩ : ∃ m, nf = m + 1 := ⟨nf - 1, by omega⟩
    have v1 := (sw_nd hv).1
    have v2 := (sw_nd hv).2
    rw [f_M_sendOn_L73, z_ld v1 (by omega), (hR v hv).2]
    rcases hI v hv hr with q | ⟨q1, q2, q3, q4, q5⟩
    · rw [if_pos q.1, if_pos (by decide)]
      exact ⟨x, v, rfl, hx, Int.le_refl _, hv, hr, q.2.1, Or.inl ⟨rfl, q.1⟩⟩
    · have hpn : pa v ≠ -1 := by omega
      have hwN := wN_M _ q2
      have a1 := ct_lt hwN.2.1 (wI_rk hI hp hv hr hpn)
      obtain ⟨a, b, ha, hb, hab, he0, he40, hc⟩ := cw_ok hn hB q2
      obtain ⟨e1, e2, -⟩ := hE.2.1 a b ha hb he0
      have hcw : 0 ≤ cwM n (pa v) := by
        rcases hc with ⟨-, c, -⟩ | ⟨-, c, -⟩ <;> omega
      have hrm := q2.2.2
      have nxt : ∀ x', (if 100 ≤ cwM n (pa v) then q_ld μ 19 7 (sw v) fun x30 => q_ck (x30 - 100) fun x31 => q_ld μ 10 48 x31 fun x32 => f_M_sendOn_L73 μ K nf x' x32 else q_ld μ 19 7 (sw v) fun x33 => q_ld μ 9 48 x33 fun x34 => f_M_sendOn_L73 μ K nf x' x34) = f_M_sendOn_L73 μ K nf x' (sw (wfM (pa v))) := by
        intro x'
        rw [z_ld v1 (by omega), (hR v hv).2, if_neg hpn, z_ld v1 (by omega), (hR v hv).2, if_neg hpn]
        rcases hc with ⟨-, c, f, -⟩ | ⟨-, c, f, -⟩
        · rw [if_neg (by omega), c, z_ld he0 (by omega), e1, f]
        · rw [if_pos (by omega), c, z_ck (by omega) (by omega), show ei n a b + 100 - 100 = ei n a b by omega, z_ld he0 (by omega), e2, f]
      rw [if_neg hpn, if_neg (by omega), z_ld v1 (by omega), (hR v hv).2, if_neg hpn, z_roomW hn hE hB q2, z_b]
      simp only [z_jn]
      by_cases g : x ≤ rmM LO HI X (pa v)
      · rw [if_pos g, z_ld v1 (by omega), (hR v hv).2, if_neg hpn, nxt]
        obtain ⟨x', r, c1, c2, c3, c4, c5, c6, c7⟩ := ih nf x (wfM (pa v)) (by omega) (by omega) hwN.2.1 q4 hx
        exact ⟨x', r, c1, c2, c3, c4, c5, c6, Or.inr ⟨hpn, by omega, c7⟩⟩
      · rw [if_neg g, z_ld v1 (by omega), (hR v hv).2, if_neg hpn, z_roomW hn hE hB q2, z_b, z_ld v1 (by omega), (hR v hv).2, if_neg hpn, nxt]
        obtain ⟨x', r, c1, c2, c3, c4, c5, c6, c7⟩ := ih nf (rmM LO HI X (pa v)) (wfM (pa v)) (by omega) (by omega) hwN.2.1 q4 hrm
        exact ⟨x', r, c1, c2, by omega, c4, c5, c6, Or.inr ⟨hpn, c3, c7⟩⟩
theorem eM_up {n : Int} {st : Int → Int} {CO LO HI X : Int → Int → Int} {μ : q_M} {a b y : Int} (hn : ni n) (h : eM n st CO LO HI μ X) (ha : nd a) (hb : nd b) (h0 : 0 ≤ ei n a b) : eM n st CO LO HI (q_x μ 15 (ei n a b) y) (up2 X a b y) := by
  have hq := q_rng hn
  unfold eM
  rw [g_sn (show 0 ≠ 15 by omega), g_sn (show 9 ≠ 15 by omega), g_sn (show 10 ≠ 15 by omega), g_sn (show 11 ≠ 15 by omega), g_sn (show 12 ≠ 15 by omega), g_sn (show 13 ≠ 15 by omega), g_sn (show 14 ≠ 15 by omega), g_s h0]
  refine ⟨h.1, fun u v hu hv he => ?_, fun p p0 pn => ?_⟩
  · have := h.2.1 u v hu hv he
    by_cases z : u = a ∧ v = b
    · rw [z.1, z.2, u_s, up2_s]
      rw [z.1, z.2] at this
      exact ⟨this.1, this.2.1, this.2.2.1, this.2.2.2.1, this.2.2.2.2.1, this.2.2.2.2.2.1, rfl⟩
    · rw [u_n (fun q => z (ei_inj hn hu hv ha hb he q)), up2_n z]
      exact this
  · rw [u_n (fun q => ei_nf hn ha hb p0 pn q.symm)]
    exact h.2.2 p p0 pn
theorem push2M {n : Int} {st : Int → Int} {CO LO HI PR X0 : Int → Int → Int} {src : Int → Prop} {d pi : Int → Int} {rc : Int → Bool} {pa : Int → Int} {ln : Int → Nat} {t r U : Int} {K : q_M → Option (Int × q_M)} (hn : ni n) (hB0 : eB n st CO LO HI X0) (hU : 0 < U ∧ U ≤ 1000000) (hp : po (okM n LO HI X0) wfM wtM (wpM PR) pi) (hs : stb (okM n LO HI X0) wfM wtM (wpM PR) d rc) (hI : wI (okM n LO HI X0) wfM wtM (wpM PR) src d rc pa ln) : ∀ (k nf : Nat) (v : Int) (μ : q_M) (X : Int → Int → Int), ct pi d ln v ≤ k → k < nf → nd v → rc v = true → d v - pi v ≤ d t - pi t → pth (rmM LO HI X0) wfM pa k v r U → eM n st CO LO HI μ X → rRM n μ rc pa → eB n st CO LO HI X → mp LO HI PR X (nP pi d rc t) → (∀ a b, nd a → nd b → ct pi d ln a ≤ ct pi d ln v → ct pi d ln b ≤ ct pi d ln v → X a b = X0 a b) → (∀ w, nd w → nt X w = nt X0 w + (if w = t then U else 0) - (if w = v then U else 0)) → (∀ a b, nd a → nd b → X0 a b - U ≤ X a b ∧ X a b ≤ X0 a b + U) →
    ∃ μ' X', f_M_sendOn_L197 U K nf (sw v) μ = K μ' ∧ (∀ k, k ≠ 15 → q_g μ' k = q_g μ k) ∧ eM n st CO LO HI μ' X' ∧ eB n st CO LO HI X' ∧ mp LO HI PR X' (nP pi d rc t) ∧ (∀ w, nd w → nt X' w = nt X0 w + (if w = t then U else 0) - (if w = r then U else 0)) ∧ (∀ a b, nd a → nd b → X0 a b - U ≤ X' a b ∧ X' a b ≤ X0 a b + U) ∧ tX X' ≤ tX X + k * U := by
  intro k
  induction k with
  | zero =>
    intro nf v μ X h1 h4 hv hr ht hpt hM hR hB hm ha hn' hd
    obtain ⟨nf, rfl⟩ : ∃ m, nf = m + 1 := ⟨nf - 1, by omega⟩
    have v1 := (sw_nd hv).1
    have v2 := (sw_nd hv).2
    obtain ⟨rfl, q⟩ := hpt
    refine ⟨μ, X, ?_, fun _ _ => rfl, hM, hB, hm, hn', hd, by simp⟩
    rw [f_M_sendOn_L197, z_ld v1 (by omega), (hR v hv).2, if_pos q, if_pos (by decide)]
  | succ k ih =>
    intro nf v μ X h1 h4 hv hr ht hpt hM hR hB hm ha hn' hd
    obtain ⟨nf, rfl⟩ : ∃ m, nf = m + 1 := ⟨nf - 1, by omega⟩
    have v1 := (sw_nd hv).1
    have v2 := (sw_nd hv).2
    rw [f_M_sendOn_L197, z_ld v1 (by omega), (hR v hv).2]
    rcases hpt with ⟨rfl, q⟩ | ⟨q, hq, hpt⟩
    · rw [if_pos q, if_pos (by decide)]
      exact ⟨μ, X, rfl, fun _ _ => rfl, hM, hB, hm, hn', hd, by
        have := Int.mul_nonneg (show (0 : Int) ≤ ((k + 1 : Nat) : Int) by omega) (show 0 ≤ U by omega)
        omega⟩
    · obtain ⟨g1, g2, g3, g4, g5⟩ := wI_tight hI hs hv hr q
      have hti := nP_tight (t := t) hI hs hp hv hr q ht
      have hwN := wN_M _ g2
      have a1 := ct_lt hwN.2.1 (wI_rk hI hp hv hr q)
      obtain ⟨a, b, na, nb, nab, he0, he40, hc⟩ := cw_ok hn hB0 g2
      obtain ⟨e1, e2, -, -, -, -, e7⟩ := hM.2.1 a b na nb he0
      have hcw : 0 ≤ cwM n (pa v) ∧ cwM n (pa v) % 100 = ei n a b := by
        rcases hc with ⟨-, c, -⟩ | ⟨-, c, -⟩
        · rw [c]; omega
        · rw [c]; omega
      have hXB := (hB.1 a b na nb).1
      simp only [z_jn]
      rw [if_neg q, if_neg (by omega), z_ld v1 (by omega), (hR v hv).2, if_neg q]
      unfold q_rm
      rw [if_pos ⟨hcw.1, by decide⟩, hcw.2]
      dsimp only
      rw [z_ld he0 (by omega), e7, z_ld v1 (by omega), (hR v hv).2, if_neg q]
      -- one shift
      have cont : ∀ y, ((a = wfM (pa v) ∧ b = v ∧ ¬ 100 ≤ cwM n (pa v) ∧ y = X a b + U) ∨ (a = v ∧ b = wfM (pa v) ∧ 100 ≤ cwM n (pa v) ∧ y = X a b - U)) → LO a b ≤ y → y ≤ HI a b → PR a b + nP pi d rc t a - nP pi d rc t b = 0 → ∃ μ' X', (q_ld (q_x μ 15 (ei n a b) y) 19 7 (sw v) fun x60 => if 100 ≤ x60 then q_ld (q_x μ 15 (ei n a b) y) 10 48 (ei n a b) fun x62 => f_M_sendOn_L197 U K nf x62 (q_x μ 15 (ei n a b) y) else q_ld (q_x μ 15 (ei n a b) y) 9 48 (ei n a b) fun x63 => f_M_sendOn_L197 U K nf x63 (q_x μ 15 (ei n a b) y)) = K μ' ∧ (∀ k, k ≠ 15 → q_g μ' k = q_g μ k) ∧ eM n st CO LO HI μ' X' ∧ eB n st CO LO HI X' ∧ mp LO HI PR X' (nP pi d rc t) ∧ (∀ w, nd w → nt X' w = nt X0 w + (if w = t then U else 0) - (if w = r then U else 0)) ∧ (∀ a b, nd a → nd b → X0 a b - U ≤ X' a b ∧ X' a b ≤ X0 a b + U) ∧ tX X' ≤ tX X + ((k + 1 : Nat) : Int) * U := by
        intro y hy y1 y2 y4
        have hR' : rRM n (q_x μ 15 (ei n a b) y) rc pa := fun w hw => by
          rw [g_sn (by omega), g_sn (by omega)]
          exact hR w hw
        have hX0 : X a b = X0 a b := by
          rcases hy with ⟨h1, h2, -⟩ | ⟨h1, h2, -⟩
          · exact ha a b na nb (by rw [h1]; omega) (by rw [h2]; omega)
          · exact ha a b na nb (by rw [h1]; omega) (by rw [h2]; omega)
        obtain ⟨μ', X', c1, c2, c3, c4, c5, c6, c7, c8⟩ := ih nf (wfM (pa v)) (q_x μ 15 (ei n a b) y) (up2 X a b y) (by omega) (by omega) hwN.2.1 g4 hti.2 hpt (eM_up hn hM na nb he0) hR' (by
          refine ⟨fun c e hc' he' => ?_, hB.2⟩
          have := hB.1 c e hc' he'
          by_cases z : c = a ∧ e = b
          · rw [z.1, z.2, up2_s]
            rw [z.1, z.2] at this
            exact ⟨⟨this.1.1, y1, y2, this.1.2.2.2⟩, this.2⟩
          · rw [up2_n z]
            exact this) (mp_up hm y4) (by
          intro c e hc' he' h5 h6
          have z : ¬ (c = a ∧ e = b) := by
            rintro ⟨rfl, rfl⟩
            rcases hy with ⟨h1, h2, -⟩ | ⟨h1, h2, -⟩
            · rw [h2] at h6; omega
            · rw [h1] at h5; omega
          rw [up2_n z]
          exact ha c e hc' he' (by omega) (by omega)) (by
          intro w hw
          rw [nt_up na nb nab, hn' w hw]
          rcases hy with ⟨h1, h2, -, h3⟩ | ⟨h1, h2, -, h3⟩
          · rw [h3, ← h1, ← h2]
            by_cases z1 : w = b
            · have z2 : w ≠ a := fun z2 => nab (z2 ▸ z1)
              simp only [z1, if_pos, if_neg (fun h : b = a => nab h.symm)]
              omega
            · by_cases z2 : w = a
              · simp only [if_neg z1, if_pos z2]
                omega
              · simp only [if_neg z1, if_neg z2]
                omega
          · rw [h3, ← h2, ← h1]
            by_cases z1 : w = b
            · have z2 : w ≠ a := fun z2 => nab (z2 ▸ z1)
              simp only [z1, if_pos, if_neg (fun h : b = a => nab h.symm)]
              omega
            · by_cases z2 : w = a
              · simp only [if_neg z1, if_pos z2]
                omega
              · simp only [if_neg z1, if_neg z2]
                omega) (by
          intro c e hc' he'
          by_cases z : c = a ∧ e = b
          · rw [z.1, z.2, up2_s]
            rcases hy with ⟨-, -, -, h3⟩ | ⟨-, -, -, h3⟩ <;> omega
          · rw [up2_n z]
            exact hd c e hc' he')
        have htx : tX X' ≤ tX X + ((k + 1 : Nat) : Int) * U := by
          rw [tX_up na nb] at c8
          rw [show ((k + 1 : Nat) : Int) = (k : Int) + 1 from rfl, Int.add_mul, Int.one_mul]
          rcases hy with ⟨-, -, -, h3⟩ | ⟨-, -, -, h3⟩ <;> omega
        refine ⟨μ', X', ?_, fun k hk => by rw [c2 k hk, g_sn hk], c3, c4, c5, c6, c7, htx⟩
        rw [z_ld v1 (by omega), (hR' v hv).2, if_neg q, z_ld he0 (by omega), g_sn (by omega), e2, z_ld he0 (by omega), g_sn (by omega), e1]
        rcases hy with ⟨h1, -, h3, -⟩ | ⟨-, h2, h3, -⟩
        · rw [if_neg h3]
          rw [← h1] at c1
          exact c1
        · rw [if_pos h3]
          rw [← h2] at c1
          exact c1
      rcases hc with ⟨-, c, f, f2, f3, f4⟩ | ⟨-, c, f, f2, f3, f4⟩
      · have hav : X a b = X0 a b := ha a b na nb (by rw [← f]; omega) (by rw [← f2, g3]; omega)
        rw [f3] at hq
        rw [f4, f] at hti
        rw [g3] at f2
        rw [if_neg (by omega), z_ck (by omega) (by omega), z_st he0 (by omega)]
        exact cont (X a b + U) (Or.inl ⟨f.symm, f2.symm, by omega, rfl⟩) (by omega) (by omega) (by have h' := hti.1; rw [f2] at h'; exact h')
      · have hav : X a b = X0 a b := ha a b na nb (by rw [← f2, g3]; omega) (by rw [← f]; omega)
        rw [f3] at hq
        rw [f4, f] at hti
        rw [g3] at f2
        rw [if_pos (by omega), z_ck (by omega) (by omega), z_ck (by omega) (by omega), z_st he0 (by omega)]
        rw [show X a b + -U = X a b - U by omega]
        exact cont (X a b - U) (Or.inr ⟨f2.symm, f.symm, by omega, rfl⟩) (by omega) (by omega) (by have h' := hti.1; rw [f2] at h'; omega)
