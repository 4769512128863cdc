/-! the class's flow: balanced -/
theorem ex_bd {ex : Int → Int} {T v : Int} (h0 : sm ex 0 7 = 0) (ht : tp ex ≤ T) (hv : nd v) : -T ≤ ex v ∧ ex v ≤ T := by
  have h1 : ∀ j, 0 ≤ (if 0 < ex j then ex j else 0) ∧ ex j ≤ (if 0 < ex j then ex j else 0) := fun j => by
    by_cases g : 0 < ex j
    · rw [if_pos g]; omega
    · rw [if_neg g]; omega
  have h2 : ex v ≤ tp ex := by
    have := sm_le (f := fun j => if j = v then ex v else 0) (g := fun j => if 0 < ex j then ex j else 0) (d := 7) (i := 0) (fun j _ _ => by
      have := h1 j
      by_cases g : j = v
      · rw [if_pos g, ← g]; omega
      · rw [if_neg g]; omega)
    have e : sm (fun j => if j = v then ex v else 0) 0 7 = ex v := by
      have q := sm_u (f := fun _ => 0) (t := v) (k := ex v) hv
      rw [sm_zero (f := fun _ => 0) (fun _ _ _ => rfl)] at q
      have : sm (fun j => if j = v then ex v else 0) 0 7 = sm (q_u (fun _ => 0) v (ex v)) 0 7 := sm_cong (fun j _ _ => rfl)
      rw [this, q]; omega
    rw [e] at this
    exact this
  have h3 : -ex v ≤ tp ex := by
    have h4 := sm_le (f := fun j => ex j + (if j = v then -ex v else 0)) (g := fun j => if 0 < ex j then ex j else 0) (d := 7) (i := 0) (fun j _ _ => by
      have := h1 j
      by_cases g : j = v
      · rw [if_pos g, ← g]; omega
      · rw [if_neg g]; omega)
    have e : sm (fun j => ex j + (if j = v then -ex v else 0)) 0 7 = -ex v := by
      have q := sm_u (f := ex) (t := v) (k := ex v + -ex v) hv
      have : sm (fun j => ex j + (if j = v then -ex v else 0)) 0 7 = sm (q_u ex v (ex v + -ex v)) 0 7 := sm_cong (fun j _ _ => by
        unfold q_u
        by_cases g : j = v
        · rw [if_pos g, if_pos g, g]
        · rw [if_neg g, if_neg g]; omega)
      rw [this, q]; omega
    rw [e] at h4
    exact h4
  omega
theorem z_pushTo {N o : Nat} {LO HI PR X : Int → Int → Int} {ex d pi : Int → Int} {rc : Int → Bool} {pa : Int → Int} {ln : Int → Nat} {t : Int} {μ : q_M} (hN : 1000 ≤ N) (hB : cB LO HI PR X) (hd : ∀ u, nd u → LO u u = HI u u) (hm : mp LO HI PR X pi) (hM : cM o μ LO HI PR X) (hx : exM o μ ex) (h0 : sm ex 0 7 = 0) (hT : tp ex ≤ 100000) (hR : wR o μ d rc pa) (hI : wI (okC LO HI X) wfC wtC (wpC LO PR X) (fun v => 0 < ex v) d rc pa ln) (hs : stb (okC LO HI X) wfC wtC (wpC LO PR X) d rc) (ht : nd t) (ht2 : ex t < 0) (ht3 : rc t = true) :
    ∃ μ' X' ex' pi' U, f_Fl_pushTo N o t μ = some (1, μ') ∧ (∀ k, k ≠ o + 1 → k ≠ o + 5 → q_g μ' k = q_g μ k) ∧ cM o μ' LO HI PR X' ∧ cB LO HI PR X' ∧ mp LO HI PR X' pi' ∧ exM o μ' ex' ∧ sm ex' 0 7 = 0 ∧ 0 < U ∧ tp ex' = tp ex - U ∧ (∀ v, nd v → ex' v - nt X' v = ex v - nt X v) ∧ (∀ a b, nd a → nd b → X' a b ≤ X a b + U) ∧ tX X' ≤ tX X + 6 * U := by
  have hp := mp_po hm
  have t1 := ht.1
  have t2 := ht.2
  have eb : ∀ v, nd v → -100000 ≤ ex v ∧ ex v ≤ 100000 := fun v hv => ex_bd h0 hT hv
  have ebt := eb t ht
  have cb := ct_bd (pi := pi) (d := d) (ln := ln) ht
  unfold f_Fl_pushTo
  rw [z_ld (by omega) (by omega), hx t ht, z_ck (by omega) (by omega)]
  obtain ⟨x', r, a1, a2, a3, a4, a5, a6, a7⟩ := push1 (K := fun x6 x7 => q_ld μ (o + 5) 7 x7 fun x17 => q_mn x6 x17 fun x18 => if 0 < x18 then f_Fl_pushTo_L82 o x18 (fun μ22 => q_ld μ22 (o + 5) 7 t fun x31 => q_ck (x31 + x18) fun x32 => q_st μ22 (o + 5) 7 t x32 fun μ33 => q_ld μ33 (o + 5) 7 x7 fun x34 => q_ck (x34 - x18) fun x35 => q_st μ33 (o + 5) 7 x7 x35 fun μ36 => some (1, μ36)) N t 0 μ else some (0, μ)) hB hp hM hR hI 6 N (-ex t) t 0 (by omega) (by omega) (by omega) (by omega) ht ht3 (by omega)
  rw [a1]
  have r1 := a4.1
  have r2 := a4.2
  have ebr := eb r a4
  have htr : t ≠ r := fun e => by rw [← e] at a6; omega
  rw [z_ld (by omega) (by omega), hx r a4, z_mn]
  have hU : 0 < (if ex r < x' then ex r else x') ∧ (if ex r < x' then ex r else x') ≤ x' ∧ (if ex r < x' then ex r else x') ≤ ex r := by
    by_cases g : ex r < x'
    · rw [if_pos g]; omega
    · rw [if_neg g]; omega
  generalize (if ex r < x' then ex r else x') = U at hU
  obtain ⟨u1, u2, u3⟩ := hU
  rw [if_pos u1]
  obtain ⟨μ1, X', e1, e2, e3, e4, e5, e6, e7, e8⟩ := push2 (t := t) (K := fun μ22 => q_ld μ22 (o + 5) 7 t fun x31 => q_ck (x31 + U) fun x32 => q_st μ22 (o + 5) 7 t x32 fun μ33 => q_ld μ33 (o + 5) 7 r fun x34 => q_ck (x34 - U) fun x35 => q_st μ33 (o + 5) 7 r x35 fun μ36 => some (1, μ36)) u1 hp hs hI 6 N t 0 μ X (by omega) (by omega) (by omega) (by omega) ht ht3 (by omega) (pth_le u2 a7) hM hR hB (po_mp hB hd (nP_po hs hp)) (fun _ _ _ _ _ _ => rfl) (fun w _ => by omega) (fun a b _ _ => by omega)
  have x1 : ∀ v, nd v → q_g μ1 (o + 5) v = ex v := fun v hv => by rw [e2 _ (by omega)]; exact hx v hv
  rw [e1, z_ld (by omega) (by omega), x1 t ht, z_ck (by omega) (by omega), z_st (by omega) (by omega), z_ld (by omega) (by omega), g_s t1, u_n (fun q => htr q.symm), x1 r a4, z_ck (by omega) (by omega), z_st (by omega) (by omega)]
  refine ⟨_, X', q_u (q_u ex t (ex t + U)) r (ex r - U), nP pi d rc t, U, rfl, fun k k1 k2 => by rw [g_sn k2, g_sn k2, e2 k k1], ?_, e4, e5, ?_, ?_, u1, tp_push ht a4 (by omega) u1 u3, ?_, fun a b ha hb => (e7 a b ha hb).2, e8⟩
  · intro u v hu hv
    rw [g_sn (by omega), g_sn (by omega), g_sn (by omega), g_sn (by omega), g_sn (by omega), g_sn (by omega), g_sn (by omega), g_sn (by omega)]
    exact e3 u v hu hv
  · intro v hv
    rw [g_s r1, g_s t1]
    unfold q_u
    by_cases z1 : v = r
    · rw [if_pos z1, if_pos z1]
    · rw [if_neg z1, if_neg z1]
      by_cases z2 : v = t
      · rw [if_pos z2, if_pos z2]
      · rw [if_neg z2, if_neg z2, x1 v hv]
  · rw [sm_u a4, sm_u ht, u_n (fun q => htr q.symm), h0]
    omega
  · intro v hv
    rw [e6 v hv]
    by_cases z1 : v = r
    · rw [z1, u_s, if_neg (fun q => htr q.symm), if_pos rfl]
      omega
    · rw [u_n z1, if_neg z1]
      by_cases z2 : v = t
      · rw [z2, u_s, if_pos rfl]
        omega
      · rw [u_n z2, if_neg z2]
        omega
/-- what holds of a flow while it is balanced -/
def bI (o : Nat) (TC : Int) (LO HI PR CAP : Int → Int → Int) (ij : Int → Int) (μ : q_M) (X : Int → Int → Int) (ex pi : Int → Int) : Prop := cM o μ LO HI PR X ∧ cB LO HI PR X ∧ mp LO HI PR X pi ∧ exM o μ ex ∧ sm ex 0 7 = 0 ∧ (∀ v, nd v → ex v - nt X v = ij v) ∧ (∀ a b, nd a → nd b → X a b + tp ex ≤ CAP a b) ∧ tX X + 6 * tp ex ≤ TC
theorem z_balance {N o : Nat} {TC : Int} {LO HI PR CAP : Int → Int → Int} {ij : Int → Int} (hN : 200000 ≤ N) (hd : ∀ u, nd u → LO u u = HI u u) {K : q_M → Option q_M} : ∀ (T nf : Nat) (x : Int) (μ : q_M) (X : Int → Int → Int) (ex pi : Int → Int), bI o TC LO HI PR CAP ij μ X ex pi → tp ex ≤ T → 0 ≤ x → x + T ≤ 100000 → T + 2 < nf →
    ∃ (μ' : q_M) (X' : Int → Int → Int) (ex' pi' : Int → Int) (rc : Int → Bool), f_Fl_balance_L4 N o K nf 1 x μ = K μ' ∧ (∀ k, k ≠ o + 1 → k ≠ o + 5 → k ≠ o + 6 → k ≠ o + 7 → q_g μ' k = q_g μ k) ∧ bI o TC LO HI PR CAP ij μ' X' ex' pi' ∧ (∀ v, nd v → 0 < ex' v → rc v = true) ∧ (∀ v, nd v → ex' v < 0 → rc v = false) ∧ (∀ u v, nd u → nd v → rc u = true → (X' u v < HI u v ∨ LO v u < X' v u) → rc v = true) := by
  intro T
  induction T with
  | zero =>
    intro nf x μ X ex pi hI hT hx hxT hnf
    obtain ⟨nf, rfl⟩ : ∃ m, nf = m + 1 := ⟨nf - 1, by omega⟩
    obtain ⟨nf, rfl⟩ : ∃ m, nf = m + 1 := ⟨nf - 1, by omega⟩
    have hI' := hI
    obtain ⟨hM, hB, hm, he, h0, hn, hc, hTC⟩ := hI
    obtain ⟨μ1, d, rc, pa, ln, a1, a2, a3, a4, a5, a6, a7⟩ := z_findWays (N := N) (ex := ex) (by omega) hB (mp_po hm) hM he
    have hx1 : exM o μ1 ex := fun v hv => by rw [a2 _ (by omega) (by omega)]; exact he v hv
    obtain ⟨t, b1, b2⟩ := z_nearest (N := N) (by omega) hx1 a3 a5
    have hnn : ∀ v, nd v → ¬ ex v < 0 := fun v hv => by
      have := ex_bd h0 (T := 0) (by omega) hv
      omega
    rw [f_Fl_balance_L4, if_neg (by omega), if_neg (by decide), a1, z_b, b1, z_b]
    simp only [z_jn]
    rcases b2 with ⟨rfl, b2⟩ | b2
    · rw [if_pos rfl, z_ck (by omega) (by omega), f_Fl_balance_L4, if_neg (by omega), if_pos rfl]
      refine ⟨μ1, X, ex, pi, rc, rfl, fun k _ _ k1 k2 => a2 k k1 k2, ⟨cM_fr hM a2, hB, hm, hx1, h0, hn, hc, hTC⟩, a7, b2, ?_⟩
      intro u v hu hv hr hg
      by_cases z : u = v
      · rw [← z]; exact hr
      · have hok : okC LO HI X (u * 7 + v) := (okC_i hu hv).mpr ⟨z, by
          unfold rmC
          by_cases g : LO v u < X v u
          · rw [if_pos g]; omega
          · rw [if_neg g]; omega⟩
        have h1 := hu.1
        have h2 := hu.2
        have h3 := hv.1
        have h4 := hv.2
        have := a6 _ hok (by unfold wfC; rw [show (u * 7 + v) / 7 = u by omega]; exact hr)
        have := this.1
        unfold wtC at this
        rw [show (u * 7 + v) % 7 = v by omega] at this
        exact this
    · exact absurd b2.2.1 (hnn t b2.1)
  | succ T ih =>
    intro nf x μ X ex pi hI hT hx hxT hnf
    obtain ⟨nf, rfl⟩ : ∃ m, nf = m + 1 := ⟨nf - 1, by omega⟩
    have hI' := hI
    obtain ⟨hM, hB, hm, he, h0, hn, hc, hTC⟩ := hI
    obtain ⟨μ1, d, rc, pa, ln, a1, a2, a3, a4, a5, a6, a7⟩ := z_findWays (N := N) (ex := ex) (by omega) hB (mp_po hm) hM he
    have hx1 : exM o μ1 ex := fun v hv => by rw [a2 _ (by omega) (by omega)]; exact he v hv
    obtain ⟨t, b1, b2⟩ := z_nearest (N := N) (by omega) hx1 a3 a5
    rw [f_Fl_balance_L4, if_neg (by omega), if_neg (by decide), a1, z_b, b1, z_b]
    simp only [z_jn]
    rcases b2 with ⟨rfl, b2⟩ | ⟨b2, b3, b4⟩
    · obtain ⟨nf, rfl⟩ : ∃ m, nf = m + 1 := ⟨nf - 1, by omega⟩
      rw [if_pos rfl, z_ck (by omega) (by omega), f_Fl_balance_L4, if_neg (by omega), if_pos rfl]
      refine ⟨μ1, X, ex, pi, rc, rfl, fun k _ _ k1 k2 => a2 k k1 k2, ⟨cM_fr hM a2, hB, hm, hx1, h0, hn, hc, hTC⟩, a7, b2, ?_⟩
      intro u v hu hv hr hg
      by_cases z : u = v
      · rw [← z]; exact hr
      · have hok : okC LO HI X (u * 7 + v) := (okC_i hu hv).mpr ⟨z, by
          unfold rmC
          by_cases g : LO v u < X v u
          · rw [if_pos g]; omega
          · rw [if_neg g]; omega⟩
        have h1 := hu.1
        have h2 := hu.2
        have h3 := hv.1
        have h4 := hv.2
        have := a6 _ hok (by unfold wfC; rw [show (u * 7 + v) / 7 = u by omega]; exact hr)
        have := this.1
        unfold wtC at this
        rw [show (u * 7 + v) % 7 = v by omega] at this
        exact this
    · have hb1 := b2.1
      obtain ⟨μ2, X2, ex2, pi2, U, c1, c2, c3, c4, c5, c6, c7, c8, c9, c10, c11, c12⟩ := z_pushTo (N := N) (by omega) hB hd hm (cM_fr hM a2) hx1 h0 (by omega) a3 a4 a6 b2 b3 b4
      rw [if_neg (by omega), c1, z_b2, if_neg (by decide), z_ck (by omega) (by omega)]
      obtain ⟨μ', X', ex', pi', rc', e1, e2, e3, e4, e5, e6⟩ := ih nf (x + 1) μ2 X2 ex2 pi2 ⟨c3, c4, c5, c6, c7, fun v hv => by rw [c10 v hv, hn v hv], fun a b ha hb => by
        have := c11 a b ha hb
        have := hc a b ha hb
        omega, by omega⟩ (by omega) (by omega) (by omega) (by omega)
      exact ⟨μ', X', ex', pi', rc', e1, fun k k1 k2 k3 k4 => by rw [e2 k k1 k2 k3 k4, c2 k k1 k2, a2 k k3 k4], e3, e4, e5, e6⟩
