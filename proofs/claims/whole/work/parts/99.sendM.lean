/-! the model's flow, sent on until nothing is left -/
def bIM (TC B n : Int) (st : Int → Int) (CO LO HI CAP : Int → Int → Int) (ij : Int → Int) (μ : q_M) (X : Int → Int → Int) (ex pi : Int → Int) : Prop := eM n st CO LO HI μ X ∧ eB n st CO LO HI X ∧ mp LO HI (PMt B n CO) X pi ∧ exMM μ ex ∧ sm ex 0 7 = 0 ∧ (∀ v, nd v → ex v - nt X v = ij v) ∧ (∀ a b, nd a → nd b → X a b + tp ex ≤ CAP a b) ∧ tX X + 6 * tp ex ≤ TC
theorem z_sendOn {N : Nat} {TC B n : Int} {st : Int → Int} {CO LO HI CAP : Int → Int → Int} {ij : Int → Int} {μ : q_M} {X : Int → Int → Int} {ex pi : Int → Int} (hN : 1000 ≤ N) (hn : ni n) (hBB : 2000000 ≤ B) (hS : bIM TC B n st CO LO HI CAP ij μ X ex pi) (hT : tp ex ≤ 100000) :
    ∃ (y : Int) (μ' : q_M) (X' : Int → Int → Int) (ex' pi' : Int → Int), f_M_sendOn N μ = some (y, μ') ∧ (∀ k, k < 15 ∨ 19 < k → q_g μ' k = q_g μ k) ∧ bIM TC B n st CO LO HI CAP ij μ' X' ex' pi' ∧ ((y = 1 ∧ tp ex' + 1 ≤ tp ex) ∨ (y = 0 ∧ ∃ rc : Int → Bool, (∀ v, nd v → 0 < ex' v → rc v = true) ∧ (∀ v, nd v → ex' v < 0 → rc v = false) ∧ (∀ u v, nd u → nd v → rc u = true → (X' u v < HI u v ∨ LO v u < X' v u) → rc v = true))) := by
  obtain ⟨hE, hB, hm, hx, h0, hij, hcap, hTC⟩ := hS
  have hp := mp_poM (n := n) hm
  have eb : ∀ v, nd v → -100000 ≤ ex v ∧ ex v ≤ 100000 := fun v hv => ex_bd h0 hT hv
  have hdg : ∀ u, nd u → LO u u = HI u u := fun u hu => (hB.1 u u hu hu).2.2 (by
    have u1 := hu.1
    have hq := q_rng hn
    rcases ei_sp hn hu hu with ⟨h, -⟩ | ⟨a, b, c, h⟩ | ⟨a, b, h⟩ | ⟨a, b, h⟩ | ⟨a, b, h⟩ | ⟨a, b, h⟩ <;> omega)
  have hXb : ∀ u v, nd u → nd v → LO u v ≤ X u v ∧ X u v ≤ HI u v := fun u v hu hv => ⟨(hB.1 u v hu hv).1.2.1, (hB.1 u v hu hv).1.2.2.1⟩
  obtain ⟨μ1, V, rc, pa, ln, a1, a2, a3, a4, a5⟩ := z_findWaysM hN hn hBB hB hp hE hx
  have hE1 : eM n st CO LO HI μ1 X := eM_fr hE (by rw [a2 _ (by omega) (by omega) (by omega)]) (fun k k1 k2 => a2 k (by omega) (by omega) (by omega))
  have hx1 : exMM μ1 ex := fun v hv => by rw [a2 _ (by omega) (by omega) (by omega)]; exact hx v hv
  obtain ⟨s1, s2, s3, s4⟩ := a3
  unfold f_M_sendOn
  rw [a1, z_b]
  obtain ⟨t, b1, b2⟩ := endM (K := fun x5 => if 0 ≤ x5 then q_ld μ1 16 7 x5 fun x17 => q_ck (-x17) fun x18 => f_M_sendOn_L73 μ1 (fun x21 x22 => q_ld μ1 16 7 x22 fun x41 => q_jn (fun (x42 : Int) => q_ld μ1 16 7 x22 fun x43 => q_ck (x43 - x42) fun x44 => q_st μ1 16 7 x22 x44 fun μ45 => q_ld μ45 16 7 x5 fun x46 => q_ck (x46 + x42) fun x47 => q_st μ45 16 7 x5 x47 fun μ48 => f_M_sendOn_L197 x42 (fun μ51 => some (1, μ51)) N x5 μ48) fun (j174 : Int → Option (Int × q_M)) => if x21 ≤ x41 then j174 x21 else q_ld μ1 16 7 x22 fun x68 => j174 x68) N x18 x5 else some (0, μ1)) hN hx1 s3 7 N 0 (-1) (by omega) (by omega) (by omega) (Or.inl ⟨rfl, fun v hv h => absurd h (by have := hv.1; omega)⟩)
  rw [b1]
  rcases b2 with ⟨rfl, b2⟩ | ⟨b2, b3, b4⟩
  · rw [if_neg (by decide)]
    refine ⟨0, μ1, X, ex, pi, rfl, fun k hk => a2 k (by omega) (by omega) (by omega), ⟨hE1, hB, hm, hx1, h0, hij, hcap, hTC⟩, Or.inr ⟨rfl, rc, a5, b2, fun u v hu hv hr hg => ?_⟩⟩
    by_cases z : u = v
    · rw [← z]; exact hr
    · rcases hg with hg | hg
      · have := a4 _ ((okM_f (n := n) hu hv z).mpr (by omega)) (by rw [(wM_f (PR := X) (LO := LO) (HI := HI) (X := X) (n := n) hu hv).1]; exact hr)
        rw [(wM_f (PR := X) (LO := LO) (HI := HI) (X := X) (n := n) hu hv).2.1] at this
        exact this.1
      · have := a4 _ ((okM_b (n := n) hv hu (fun q => z q.symm)).mpr (by omega)) (by rw [(wM_b (PR := X) (LO := LO) (HI := HI) (X := X) (n := n) hv hu).1]; exact hr)
        rw [(wM_b (PR := X) (LO := LO) (HI := HI) (X := X) (n := n) hv hu).2.1] at this
        exact this.1
  · -- a push to the node sw t
    have ht := sw_nd b2
    have t1 := b2.1
    have t2 := b2.2
    generalize hT' : sw t = T at *
    have htT : t = sw T := by rw [← hT', sw_sw]
    have ebt := eb T ht
    have cb := ct_bd (pi := pi) (d := dV B V) (ln := ln) ht
    rw [if_pos t1, z_ld t1 (by omega), htT, hx1 T ht, z_ck (by omega) (by omega)]
    obtain ⟨x', r, c1, c2, c3, c4, c5, c6, c7⟩ := push1M (K := fun x21 x22 => q_ld μ1 16 7 x22 fun x41 => q_jn (fun (x42 : Int) => q_ld μ1 16 7 x22 fun x43 => q_ck (x43 - x42) fun x44 => q_st μ1 16 7 x22 x44 fun μ45 => q_ld μ45 16 7 (sw T) fun x46 => q_ck (x46 + x42) fun x47 => q_st μ45 16 7 (sw T) x47 fun μ48 => f_M_sendOn_L197 x42 (fun μ51 => some (1, μ51)) N (sw T) μ48) fun (j174 : Int → Option (Int × q_M)) => if x21 ≤ x41 then j174 x21 else q_ld μ1 16 7 x22 fun x68 => j174 x68) hn hE1 hB hp s3 s4 6 N (-ex T) T (by omega) (by omega) ht b4 (by omega)
    rw [c1]
    have r1 := (sw_nd c4).1
    have r2 := (sw_nd c4).2
    have T1 := (sw_nd ht).1
    have T2 := (sw_nd ht).2
    have ebr := eb r c4
    have htr : T ≠ r := fun e => by rw [← e] at c6; omega
    have hsw : sw T ≠ sw r := fun q => htr (sw_inj q)
    rw [z_ld r1 (by omega), hx1 r c4]
    simp only [z_jn]
    have fin : ∀ U, 0 < U → U ≤ x' → U ≤ ex r → ∃ (y : Int) (μ' : q_M) (X' : Int → Int → Int) (ex' pi' : Int → Int), (q_ld μ1 16 7 (sw r) fun x43 => q_ck (x43 - U) fun x44 => q_st μ1 16 7 (sw r) x44 fun μ45 => q_ld μ45 16 7 (sw T) fun x46 => q_ck (x46 + U) fun x47 => q_st μ45 16 7 (sw T) x47 fun μ48 => f_M_sendOn_L197 U (fun μ51 => some (1, μ51)) N (sw T) μ48) = some (y, μ') ∧ (∀ k, k < 15 ∨ 19 < k → q_g μ' k = q_g μ k) ∧ bIM TC B n st CO LO HI CAP ij μ' X' ex' pi' ∧ ((y = 1 ∧ tp ex' + 1 ≤ tp ex) ∨ (y = 0 ∧ ∃ rc : Int → Bool, (∀ v, nd v → 0 < ex' v → rc v = true) ∧ (∀ v, nd v → ex' v < 0 → rc v = false) ∧ (∀ u v, nd u → nd v → rc u = true → (X' u v < HI u v ∨ LO v u < X' v u) → rc v = true))) := by
      intro U u1 u2 u3
      rw [z_ld r1 (by omega), hx1 r c4, z_ck (by omega) (by omega), z_st r1 (by omega), z_ld T1 (by omega), g_s r1, u_n hsw, hx1 T ht, z_ck (by omega) (by omega), z_st T1 (by omega)]
      have hE2 : eM n st CO LO HI (q_x (q_x μ1 16 (sw r) (ex r - U)) 16 (sw T) (ex T + U)) X := eM_fr hE1 (by rw [g_sn (by omega), g_sn (by omega)]) (fun k k1 k2 => by rw [g_sn (by omega), g_sn (by omega)])
      have hR2 : rRM n (q_x (q_x μ1 16 (sw r) (ex r - U)) 16 (sw T) (ex T + U)) rc pa := fun v hv => by
        rw [g_sn (by omega), g_sn (by omega), g_sn (by omega), g_sn (by omega)]
        exact s3 v hv
      obtain ⟨μ', X', d1, d2, d3, d4, d5, d6, d7, d8⟩ := push2M (t := T) (r := r) (U := U) (K := fun μ51 => some (1, μ51)) (PR := PMt B n CO) hn hB ⟨u1, by omega⟩ hp a4 s4 6 N T _ X (by omega) (by omega) ht b4 (by omega) (pth_le u2 c7) hE2 hR2 hB (po_mpM hXb hdg (nP_po a4 hp)) (fun _ _ _ _ _ _ => rfl) (fun w _ => by omega) (fun a b _ _ => by omega)
      have htp := tp_push (ex := ex) ht c4 (by omega) u1 u3
      refine ⟨1, μ', X', q_u (q_u ex T (ex T + U)) r (ex r - U), nP pi (dV B V) rc T, d1, fun k hk => by rw [d2 k (by omega), g_sn (by omega), g_sn (by omega), a2 k (by omega) (by omega) (by omega)], ⟨d3, d4, d5, fun v hv => ?_, ?_, fun v hv => ?_, fun a b ha hb => ?_, by omega⟩, Or.inl ⟨rfl, by omega⟩⟩
      · rw [d2 _ (by omega), g_s T1, g_s r1]
        unfold q_u
        by_cases z1 : v = r
        · rw [if_pos z1, z1, if_neg (fun q => hsw q.symm), if_pos rfl]
        · rw [if_neg z1]
          by_cases z2 : v = T
          · rw [if_pos z2, z2, if_pos rfl]
          · rw [if_neg z2, if_neg (fun q => z2 (sw_inj q)), if_neg (fun q => z1 (sw_inj q)), hx1 v hv]
      · rw [sm_u c4, sm_u ht, u_n (fun q => htr q.symm), h0]
        omega
      · have := hij v hv
        rw [d6 v hv]
        by_cases z1 : v = r
        · rw [z1, u_s, if_neg (fun q => htr q.symm), if_pos rfl]
          rw [z1] at this
          omega
        · rw [u_n z1, if_neg z1]
          by_cases z2 : v = T
          · rw [z2, u_s, if_pos rfl]
            rw [z2] at this
            omega
          · rw [u_n z2, if_neg z2]
            omega
      · have := (d7 a b ha hb).2
        have := hcap a b ha hb
        omega
    by_cases g : x' ≤ ex r
    · rw [if_pos g]
      exact fin x' c2 (Int.le_refl _) g
    · rw [if_neg g, z_ld r1 (by omega), hx1 r c4]
      exact fin (ex r) (by omega) (by omega) (Int.le_refl _)
theorem flowM {N : Nat} {TC B n : Int} {st : Int → Int} {CO LO HI CAP : Int → Int → Int} {ij : Int → Int} {K : q_M → Option (Int × q_M)} (hN : 1000 ≤ N) (hn : ni n) (hBB : 2000000 ≤ B) : ∀ (T nf : Nat) (μ : q_M) (X : Int → Int → Int) (ex pi : Int → Int), bIM TC B n st CO LO HI CAP ij μ X ex pi → tp ex ≤ T → T ≤ 100000 → T + 2 < nf →
    ∃ (μ' : q_M) (X' : Int → Int → Int) (ex' pi' : Int → Int) (rc : Int → Bool), f_M_findFlow_L12 N K nf 1 μ = K μ' ∧ (∀ k, k < 15 ∨ 19 < k → q_g μ' k = q_g μ k) ∧ bIM TC B n st CO LO HI CAP ij μ' X' ex' pi' ∧ (∀ v, nd v → 0 < ex' v → rc v = true) ∧ (∀ v, nd v → ex' v < 0 → rc v = false) ∧ (∀ u v, nd u → nd v → rc u = true → (X' u v < HI u v ∨ LO v u < X' v u) → rc v = true) := by
  intro T
  induction T with
  | zero =>
    intro nf μ X ex pi hS hT hT2 hnf
    obtain ⟨nf, rfl⟩ : ∃ m, nf = m + 1 := ⟨nf - 1, by omega⟩
    obtain ⟨nf, rfl⟩ : ∃ m, nf = m + 1 := ⟨nf - 1, by omega⟩
    obtain ⟨y, μ', X', ex', pi', a1, a2, a3, a4⟩ := z_sendOn hN hn hBB hS (by omega)
    rw [f_M_findFlow_L12, if_neg (by decide), a1, z_b2]
    have hnn := tp_nn (ex := ex')
    rcases a4 with ⟨-, b⟩ | ⟨rfl, rc, b1, b2, b3⟩
    · omega
    · rw [f_M_findFlow_L12, if_pos rfl]
      exact ⟨μ', X', ex', pi', rc, rfl, a2, a3, b1, b2, b3⟩
  | succ T ih =>
    intro nf μ X ex pi hS hT hT2 hnf
    obtain ⟨nf, rfl⟩ : ∃ m, nf = m + 1 := ⟨nf - 1, by omega⟩
    obtain ⟨y, μ', X', ex', pi', a1, a2, a3, a4⟩ := z_sendOn hN hn hBB hS (by omega)
    rw [f_M_findFlow_L12, if_neg (by decide), a1, z_b2]
    rcases a4 with ⟨rfl, b⟩ | ⟨rfl, rc, b1, b2, b3⟩
    · obtain ⟨μ2, X2, ex2, pi2, rc, c1, c2, c3, c4, c5, c6⟩ := ih nf μ' X' ex' pi' a3 (by omega) (by omega) (by omega)
      exact ⟨μ2, X2, ex2, pi2, rc, c1, fun k hk => by rw [c2 k hk, a2 k hk], c3, c4, c5, c6⟩
    · obtain ⟨nf, rfl⟩ : ∃ m, nf = m + 1 := ⟨nf - 1, by omega⟩
      rw [f_M_findFlow_L12, if_pos rfl]
      exact ⟨μ', X', ex', pi', rc, rfl, a2, a3, b1, b2, b3⟩
