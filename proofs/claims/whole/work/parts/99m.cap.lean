/-! apply: how many messages a replay may make; taking an event back -/
def uns (w : Int → Int) (e : Int) : Bool := decide (ev w e 1 = 1) && !cutE w e
theorem sm_le1 {f : Int → Int} {p i : Int} {d : Nat} (h1 : ∀ j, i ≤ j → j < i + d → 0 ≤ f j ∧ f j ≤ 1) (h2 : ∀ j, i ≤ j → j < i + d → j ≠ p → f j = 0) : sm f i d ≤ 1 := by
  by_cases g : i ≤ p ∧ p < i + d
  · rw [sm_one g.1 g.2 h2]
    exact (h1 p g.1 g.2).2
  · rw [sm_zero (fun j j0 j1 => h2 j j0 j1 (by omega))]
    decide
theorem sm_ad {f g : Int → Int} : ∀ {d : Nat} {i : Int}, sm (fun j => f j + g j) i d = sm f i d + sm g i d
  | 0, _ => rfl
  | d + 1, i => by
    simp only [sm]
    rw [sm_ad (d := d) (i := i + 1)]
    omega
theorem cap_M {n c : Int} {w : Int → Int} (hv : rv n w c) : ∀ M : Nat, (M : Int) ≤ w 37 → kp w M + sm (fun e => bi (uns w e && decide (ev w e 5 < M))) 0 (w 36).toNat ≤ M
  | 0, h => by
    have : kp w 0 = 0 := rfl
    rw [this, sm_zero]
    · decide
    · intro e e0 e1
      have he := hv.2.2.2.2.2.2.2.2.2.2.2.1 e e0 (by omega)
      have : (uns w e && decide (ev w e 5 < ((0 : Nat) : Int))) = false := by
        unfold uns
        by_cases g : ev w e 1 = 1
        · have := (he.2.2.2.2.2.2.1 (by omega)).2.1
          simp [show ¬ ev w e 5 < 0 by omega]
        · simp [g]
      rw [this]; rfl
  | M + 1, h => by
    have ih := cap_M hv M (by omega)
    have hm := hv.2.2.2.2.2.2.2.2.2.2.2.2.1 M (by omega) (by omega)
    have ee : sm (fun e => bi (uns w e && decide (ev w e 5 < ((M + 1 : Nat) : Int)))) 0 (w 36).toNat = sm (fun e => bi (uns w e && decide (ev w e 5 < (M : Int)))) 0 (w 36).toNat + sm (fun e => bi (uns w e && decide (ev w e 5 = (M : Int)))) 0 (w 36).toNat := by
      rw [← sm_ad]
      refine sm_cong (fun j j0 j1 => ?_)
      cases uns w j with
      | false => rfl
      | true =>
        by_cases g : ev w j 5 = (M : Int)
        · simp [bi, g, show (M : Int) < (M : Int) + 1 by omega]
        · by_cases g2 : ev w j 5 < (M : Int)
          · simp [bi, g, g2, show ev w j 5 < (M : Int) + 1 by omega]
          · simp [bi, g, g2, show ¬ ev w j 5 < (M : Int) + 1 by omega]
    have key : ∀ e, 0 ≤ e → e < w 36 → (uns w e && decide (ev w e 5 = (M : Int))) = true → mg w M 4 = e ∧ cutE w e = false := by
      intro e e0 e1 he
      have hE := hv.2.2.2.2.2.2.2.2.2.2.2.1 e e0 e1
      unfold uns at he
      simp only [Bool.and_eq_true, decide_eq_true_eq, Bool.not_eq_true'] at he
      have := hE.2.2.2.2.2.2.2.1 he.1.1
      rw [he.2] at this
      exact ⟨this, he.1.2⟩
    rw [ee, kp_s]
    cases g : tran w M with
    | true =>
      have : sm (fun e => bi (uns w e && decide (ev w e 5 = (M : Int)))) 0 (w 36).toNat = 0 := sm_zero (fun e e0 e1 => by
        cases q : (uns w e && decide (ev w e 5 = (M : Int))) with
        | false => rfl
        | true =>
          obtain ⟨k1, k2⟩ := key e e0 (by omega) q
          unfold tran at g
          rw [k1, k2] at g
          simp [show ¬ e < 0 by omega] at g)
      rw [this]
      show kp w M + 1 + _ ≤ _
      omega
    | false =>
      have : sm (fun e => bi (uns w e && decide (ev w e 5 = (M : Int)))) 0 (w 36).toNat ≤ 1 := sm_le1 (p := mg w M 4) (fun e e0 e1 => bi_bd _) (fun e e0 e1 e2 => by
        cases q : (uns w e && decide (ev w e 5 = (M : Int))) with
        | false => rfl
        | true => exact absurd (key e e0 (by omega) q).1.symm e2)
      show kp w M + 0 + _ ≤ _
      omega
theorem cap {n c : Int} {w : Int → Int} (hv : rv n w c) : kp w (w 37).toNat + sm (fun e => bi (uns w e)) 0 (w 36).toNat ≤ w 37 := by
  have v3 := hv.2.2.2.1
  have h := cap_M hv (w 37).toNat (by omega)
  rw [sm_cong (g := fun e => bi (uns w e))] at h
  · omega
  · intro e e0 e1
    have he := hv.2.2.2.2.2.2.2.2.2.2.2.1 e e0 (by omega)
    cases q : uns w e with
    | false => rfl
    | true =>
      unfold uns at q
      simp only [Bool.and_eq_true, decide_eq_true_eq] at q
      have := (he.2.2.2.2.2.2.1 (by omega)).2.1
      rw [decide_eq_true (show ev w e 5 < ((w 37).toNat : Int) by omega)]
      rfl
theorem evq {u : Int → Int} {i x e j : Int} (h : 64 + 12 * e + j ≠ i) : ev (q_u u i x) e j = ev u e j := by
  unfold ev
  rw [u_n h]
theorem z_takeBack {n c p kind s a oth msg : Int} {μ : q_M} {v w' : Int → Int} {ck : Int → Int} (hw : q_g μ 1 = w') (hv : rv n v c) (h36 : v 36 < 100) (hp : 0 ≤ p ∧ p < 5) (hs : 0 ≤ s ∧ s ≤ 1) (ha : -100 ≤ a ∧ a ≤ 100) (hE : apE v w' p kind s a oth msg ck) (hR : apR v w' p kind msg) (hK : apK n v w' p kind s a oth msg) (hst : ∀ j, 0 ≤ j → j < 10 → w' j = q_u v (2 * p + s) (v (2 * p + s) + (if kind = 1 then -a else a)) j) (h5 : kind = 2 → mg v msg 5 = -1) : ∃ μ', f_M_takeBack μ = some μ' ∧ (∀ k, k ≠ 1 → q_g μ' k = q_g μ k) ∧ rq v (q_g μ' 1) := by
  obtain ⟨v0, v1, v2, v3, v4, -⟩ := hv
  have vp := v4 p hp.1 hp.2
  unfold rv_p at vp
  obtain ⟨E0, E1, E2, E3, E4, E5, -⟩ := hE
  obtain ⟨R36, Rp, Rq, Rl, Re, Rm, Rm5⟩ := hR
  have vs := v1 (2 * p + s) (by omega) (by omega)
  have ws : w' (2 * p + s) = v (2 * p + s) + (if kind = 1 then -a else a) := by rw [hst _ (by omega) (by omega), u_s]
  have key : ∀ (u : Int → Int), (∀ i, 0 ≤ i → i < 64 → u i = if i = 37 then v 37 else if i = 25 + p then v (25 + p) else if i = 2 * p + s then v (2 * p + s) else if i = 36 then v 36 else w' i) → (∀ i, 64 ≤ i → i < 1264 → u i = w' i) → (∀ m j, 0 ≤ m → m < v 37 → 0 ≤ j → j < 6 → mg u m j = if kind = 2 ∧ m = msg ∧ j = 5 then -1 else mg w' m j) → rq v u := by
    intro u h1 h2 h3
    refine ⟨fun i i0 i1 => ?_, fun e j e0 e1 j0 j1 => ?_, fun m j m0 m1 j0 j1 => ?_⟩
    · rw [h1 i i0 i1]
      by_cases a1 : i = 37
      · rw [if_pos a1, a1]
      · by_cases a2 : i = 25 + p
        · rw [if_neg a1, if_pos a2, a2]
        · by_cases a3 : i = 2 * p + s
          · rw [if_neg a1, if_neg a2, if_pos a3, a3]
          · by_cases a4 : i = 36
            · rw [if_neg a1, if_neg a2, if_neg a3, if_pos a4, a4]
            · rw [if_neg a1, if_neg a2, if_neg a3, if_neg a4]
              by_cases a5 : i < 10
              · rw [hst i i0 a5, u_n a3]
              · by_cases a6 : 25 ≤ i ∧ i < 30
                · have := Rq (i - 25) (by omega) (by omega) (by omega)
                  rw [show 25 + (i - 25) = i by omega] at this
                  exact this
                · exact Rl i (by omega) i1 (by omega)
    · rw [← Re e j e0 e1 j0 j1]
      unfold ev
      rw [h2 _ (by omega) (by omega)]
    · rw [h3 m j m0 m1 j0 j1]
      by_cases a1 : kind = 2 ∧ m = msg ∧ j = 5
      · rw [if_pos a1, a1.2.1, a1.2.2, h5 a1.1]
      · rw [if_neg a1]
        by_cases a2 : j = 5
        · rw [a2, Rm5 m m0 m1, if_neg (fun q => a1 ⟨q.1, q.2, a2⟩)]
        · exact Rm m j m0 m1 j0 (by omega)
  unfold f_M_takeBack
  rw [z_ld (by omega) (by omega), hw, R36, z_ck (by omega) (by omega), z_st (by omega) (by omega), show v 36 + 1 - 1 = v 36 by omega]
  have w3 : q_g (q_x μ 1 36 (v 36)) 1 = q_u w' 36 (v 36) := by rw [g_s (by omega), hw]
  have o3 : ∀ j, 0 ≤ j → j < 12 → f_M_ofEvent (v 36) j (q_x μ 1 36 (v 36)) = some (ev w' (v 36) j) := fun j j0 j1 => by
    rw [z_ofEvent (by omega) (by omega) j0 j1, w3, evq (by omega)]
  rw [z_ld (by omega) (by omega), w3, u_s, o3 0 (by decide) (by decide), z_b, E0, z_ck (by omega) (by omega), z_ck (by omega) (by omega), o3 2 (by decide) (by decide), z_b, E2, z_ck (by omega) (by omega), z_ld (by omega) (by omega), w3, u_n (by omega), show 0 + 2 * p + s = 2 * p + s by omega, ws, o3 1 (by decide) (by decide), z_b, E1, o3 3 (by decide) (by decide), E3]
  simp only [z_jn, z_b]
  have w4 : q_g (q_x (q_x μ 1 36 (v 36)) 1 (2 * p + s) (v (2 * p + s))) 1 = q_u (q_u w' 36 (v 36)) (2 * p + s) (v (2 * p + s)) := by rw [g_s (by omega), w3]
  have o4 : ∀ j, 0 ≤ j → j < 12 → f_M_ofEvent (v 36) j (q_x (q_x μ 1 36 (v 36)) 1 (2 * p + s) (v (2 * p + s))) = some (ev w' (v 36) j) := fun j j0 j1 => by
    rw [z_ofEvent (by omega) (by omega) j0 j1, w4, evq (by omega), evq (by omega)]
  have w5 : q_g (q_x (q_x (q_x μ 1 36 (v 36)) 1 (2 * p + s) (v (2 * p + s))) 1 (25 + p) (v (25 + p))) 1 = q_u (q_u (q_u w' 36 (v 36)) (2 * p + s) (v (2 * p + s))) (25 + p) (v (25 + p)) := by rw [g_s (by omega), w4]
  have o5 : ∀ j, 0 ≤ j → j < 12 → f_M_ofEvent (v 36) j (q_x (q_x (q_x μ 1 36 (v 36)) 1 (2 * p + s) (v (2 * p + s))) 1 (25 + p) (v (25 + p))) = some (ev w' (v 36) j) := fun j j0 j1 => by
    rw [z_ofEvent (by omega) (by omega) j0 j1, w5, evq (by omega), evq (by omega), evq (by omega)]
  have w6 : q_g (q_x (q_x (q_x (q_x μ 1 36 (v 36)) 1 (2 * p + s) (v (2 * p + s))) 1 (25 + p) (v (25 + p))) 1 37 (v 37)) 1 = q_u (q_u (q_u (q_u w' 36 (v 36)) (2 * p + s) (v (2 * p + s))) (25 + p) (v (25 + p))) 37 (v 37) := by rw [g_s (by omega), w5]
  have o6 : ∀ j, 0 ≤ j → j < 12 → f_M_ofEvent (v 36) j (q_x (q_x (q_x (q_x μ 1 36 (v 36)) 1 (2 * p + s) (v (2 * p + s))) 1 (25 + p) (v (25 + p))) 1 37 (v 37)) = some (ev w' (v 36) j) := fun j j0 j1 => by
    rw [z_ofEvent (by omega) (by omega) j0 j1, w6, evq (by omega), evq (by omega), evq (by omega), evq (by omega)]
  have ff : ∀ k, k ≠ 1 → q_g (q_x (q_x (q_x (q_x μ 1 36 (v 36)) 1 (2 * p + s) (v (2 * p + s))) 1 (25 + p) (v (25 + p))) 1 37 (v 37)) k = q_g μ k := fun k hk => by
    rw [g_sn hk, g_sn hk, g_sn hk, g_sn hk]
  have lo : ∀ i, 0 ≤ i → i < 64 → q_u (q_u (q_u (q_u w' 36 (v 36)) (2 * p + s) (v (2 * p + s))) (25 + p) (v (25 + p))) 37 (v 37) i = if i = 37 then v 37 else if i = 25 + p then v (25 + p) else if i = 2 * p + s then v (2 * p + s) else if i = 36 then v 36 else w' i := fun i _ _ => rfl
  have hi : ∀ i, 64 ≤ i → q_u (q_u (q_u (q_u w' 36 (v 36)) (2 * p + s) (v (2 * p + s))) (25 + p) (v (25 + p))) 37 (v 37) i = w' i := fun i h => by
    rw [u_n (by omega), u_n (by omega), u_n (by omega), u_n (by omega)]
  rcases hK with ⟨rfl, -, -, k37⟩ | ⟨rfl, -, -, -, k37, -⟩ | ⟨rfl, -, hmsg, -, k37⟩
  · rw [if_neg (by decide), if_neg (by decide), show v (2 * p + s) + a - a = v (2 * p + s) by omega, z_ck (by omega) (by omega), z_st (by omega) (by omega), o4 0 (by decide) (by decide), z_b, E0, z_ck (by omega) (by omega), z_ld (by omega) (by omega), w4, u_n (by omega), u_n (by omega), Rp, z_ck (by omega) (by omega), z_st (by omega) (by omega), show v (25 + p) + 1 - 1 = v (25 + p) by omega, z_ld (by omega) (by omega), w5, u_n (by omega), u_n (by omega), u_n (by omega), k37, o5 1 (by decide) (by decide), z_b, E1, if_neg (by decide), z_ck (by omega) (by omega), z_st (by omega) (by omega), show v 37 - 0 = v 37 by omega, o6 1 (by decide) (by decide), z_b, E1, if_neg (by decide)]
    refine ⟨_, rfl, ff, ?_⟩
    rw [w6]
    exact key _ lo (fun i i0 _ => hi i i0) (fun m j m0 m1 j0 j1 => by
      rw [if_neg (fun q => absurd q.1 (by decide))]
      unfold mg
      rw [hi _ (by omega)])
  · rw [if_pos rfl, if_pos rfl, z_ck (by omega) (by omega), show v (2 * p + s) + -a - -a = v (2 * p + s) by omega, z_ck (by omega) (by omega), z_st (by omega) (by omega), o4 0 (by decide) (by decide), z_b, E0, z_ck (by omega) (by omega), z_ld (by omega) (by omega), w4, u_n (by omega), u_n (by omega), Rp, z_ck (by omega) (by omega), z_st (by omega) (by omega), show v (25 + p) + 1 - 1 = v (25 + p) by omega, z_ld (by omega) (by omega), w5, u_n (by omega), u_n (by omega), u_n (by omega), k37, o5 1 (by decide) (by decide), z_b, E1, if_pos rfl, z_ck (by omega) (by omega), z_st (by omega) (by omega), show v 37 + 1 - 1 = v 37 by omega, o6 1 (by decide) (by decide), z_b, E1, if_neg (by decide)]
    refine ⟨_, rfl, ff, ?_⟩
    rw [w6]
    exact key _ lo (fun i i0 _ => hi i i0) (fun m j m0 m1 j0 j1 => by
      rw [if_neg (fun q => absurd q.1 (by decide))]
      unfold mg
      rw [hi _ (by omega)])
  · rw [if_neg (by decide), if_neg (by decide), show v (2 * p + s) + a - a = v (2 * p + s) by omega, z_ck (by omega) (by omega), z_st (by omega) (by omega), o4 0 (by decide) (by decide), z_b, E0, z_ck (by omega) (by omega), z_ld (by omega) (by omega), w4, u_n (by omega), u_n (by omega), Rp, z_ck (by omega) (by omega), z_st (by omega) (by omega), show v (25 + p) + 1 - 1 = v (25 + p) by omega, z_ld (by omega) (by omega), w5, u_n (by omega), u_n (by omega), u_n (by omega), k37, o5 1 (by decide) (by decide), z_b, E1, if_neg (by decide), z_ck (by omega) (by omega), z_st (by omega) (by omega), show v 37 - 0 = v 37 by omega, o6 1 (by decide) (by decide), z_b, E1, if_pos rfl, o6 5 (by decide) (by decide), z_b, E5, z_ck (by omega) (by omega), z_ck (by omega) (by omega), z_ck (by omega) (by omega), z_st (by omega) (by omega)]
    refine ⟨_, rfl, fun k hk => by rw [g_sn hk]; exact ff k hk, ?_⟩
    rw [g_s (by omega), w6]
    exact key _ (fun i i0 i1 => by rw [u_n (by omega)]; exact lo i i0 i1) (fun i i0 i1 => by rw [u_n (by omega)]; exact hi i i0) (fun m j m0 m1 j0 j1 => by
      unfold mg
      by_cases q : m = msg ∧ j = 5
      · rw [if_pos ⟨rfl, q⟩, q.1, q.2, u_s]
      · rw [if_neg (fun h => q h.2), u_n (by omega), hi _ (by omega)])
