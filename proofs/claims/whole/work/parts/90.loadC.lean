/-! the class's flow: laid, looked at, loaded -/
theorem layL48 {o : Nat} {n : Int} {K : q_M → Option q_M} (hn : ni n) : ∀ (dd nf : Nat) (i : Int) (μ : q_M), i + dd = n → 0 ≤ i → dd < nf → ∃ μ', f_Fl_layOut_L48 o n K nf i μ = K μ' ∧ (∀ k, k ≠ o + 3 → q_g μ' k = q_g μ k) ∧ ∀ u v, nd u → nd v → q_g μ' (o + 3) (u * 7 + v) = if v = 6 ∧ i ≤ u ∧ u < n then 1000 else q_g μ (o + 3) (u * 7 + v) := by
  have h5 : 2 ≤ n ∧ n ≤ 5 := by rcases hn with rfl | rfl | rfl | rfl <;> decide
  intro dd
  induction dd with
  | zero =>
    intro nf i μ h1 h2 h3
    obtain ⟨nf, rfl⟩ : ∃ m, nf = m + 1 := ⟨nf - 1, by omega⟩
    exact ⟨μ, by rw [f_Fl_layOut_L48, if_pos (by omega)], fun _ _ => rfl, fun u v _ _ => by rw [if_neg (by omega)]⟩
  | succ dd ih =>
    intro nf i μ h1 h2 h3
    obtain ⟨nf, rfl⟩ : ∃ m, nf = m + 1 := ⟨nf - 1, by omega⟩
    have hi : nd i := ⟨h2, by omega⟩
    have h6 : nd 6 := ⟨by decide, by decide⟩
    rw [f_Fl_layOut_L48, if_neg (by omega), z_arc hi h6, z_b, z_st (by omega) (by omega), z_ck (by omega) (by omega)]
    obtain ⟨μ', e1, e2, e3⟩ := ih nf (i + 1) (q_x μ (o + 3) (i * 7 + 6) 1000) (by omega) (by omega) (by omega)
    refine ⟨μ', e1, fun k hk => by rw [e2 k hk, g_sn hk], fun u v hu hv => ?_⟩
    have u1 := hu.1
    have u2 := hu.2
    have v1 := hv.1
    have v2 := hv.2
    rw [e3 u v hu hv, g_s (by omega)]
    by_cases z : u = i ∧ v = 6
    · rw [z.1, z.2, if_neg (by omega), u_s, if_pos ⟨rfl, Int.le_refl _, by omega⟩]
    · rw [u_n (by omega)]
      by_cases y : v = 6 ∧ i + 1 ≤ u ∧ u < n
      · rw [if_pos y, if_pos (by omega)]
      · rw [if_neg y, if_neg (by omega)]
theorem z_FlayOut {N o : Nat} {mv : Int → Int} {g b n st tr : Int} {S T R V : Int → Int} {μ : q_M} (hN : 1000 ≤ N) (ho : 60 ≤ o) (hn : ni n) (ht : 0 ≤ tr ∧ tr ≤ 51200) (hco : coM mv g b μ) : ∃ μ', f_Fl_layOut N o n μ = some μ' ∧ (∀ k, k < o + 1 ∨ o + 5 < k → q_g μ' k = q_g μ k) ∧ obS S T R V n st tr o 0 μ' ∧ ∀ u v, nd u → nd v → q_g μ' (o + 1) (u * 7 + v) = 0 ∧ q_g μ' (o + 4) (u * 7 + v) = prM mv g b n u v ∧ q_g μ' (o + 5) v = 0 := by
  have h5 : 2 ≤ n ∧ n ≤ 5 := by rcases hn with rfl | rfl | rfl | rfl <;> decide
  unfold f_Fl_layOut
  rw [z_fi, z_fi, z_fi, z_fi, z_fi]
  have co2 : coM mv g b (q_fill (q_fill (q_fill (q_fill (q_fill μ (o + 1) 49 0) (o + 2) 49 0) (o + 3) 49 0) (o + 4) 49 0) (o + 5) 7 0) := by
    unfold coM at hco ⊢
    rw [g_fn (by omega), g_fn (by omega), g_fn (by omega), g_fn (by omega), g_fn (by omega), g_fn (by omega), g_fn (by omega), g_fn (by omega), g_fn (by omega), g_fn (by omega)]
    exact hco
  obtain ⟨μ1, a1, a2, a3⟩ := z_layPricedArcs (N := N) (o := o) hN ho hn co2 (fun u v hu hv => by
    have u1 := hu.1
    have u2 := hu.2
    have v1 := hv.1
    have v2 := hv.2
    rw [g_fn (by omega), g_fn (by omega), g_f (by omega) (by omega), g_fn (by omega), g_f (by omega) (by omega)]
    exact ⟨rfl, rfl⟩)
  rw [a1, z_b]
  obtain ⟨μ2, b1, b2, b3⟩ := layL48 (K := fun μ10 => q_b (f_Fl_arc 6 5 μ10) fun x17 => q_ck (n * 1000) fun x18 => q_st μ10 (o + 3) 49 x17 x18 fun μ19 => some μ19) (o := o) hn n.toNat N 0 μ1 (by omega) (by omega) (by omega)
  have d6 : nd 6 := ⟨by decide, by decide⟩
  have d5 : nd 5 := ⟨by decide, by decide⟩
  rw [b1, z_arc d6 d5, z_b, z_ck (by omega) (by omega), z_st (by omega) (by omega)]
  refine ⟨_, rfl, fun k hk => ?_, fun u v hu hv => ?_, fun u v hu hv => ?_⟩
  · rw [g_sn (by omega), b2 k (by omega), a3 k (by omega) (by omega), g_fn (by omega), g_fn (by omega), g_fn (by omega), g_fn (by omega), g_fn (by omega)]
  · have u1 := hu.1
    have u2 := hu.2
    have v1 := hv.1
    have v2 := hv.2
    rw [g_sn (by omega), b2 _ (by omega), a3 _ (by omega) (by omega), g_fn (by omega), g_fn (by omega), g_fn (by omega), g_f (by omega) (by omega), g_s (by omega)]
    have hp := (a2 u v hu hv).1
    unfold loC hiC mx0 mnI fL fH
    refine ⟨?_, ?_⟩
    · by_cases y1 : v = 6 ∧ u < n
      · rw [if_pos y1]
      · rw [if_neg y1]
        by_cases y2 : u = 6 ∧ v = 5
        · rw [if_pos y2]
          by_cases q : 0 - tr < 0
          · rw [if_pos q]
          · rw [if_neg q]; omega
        · rw [if_neg y2]
    · by_cases z : u = 6 ∧ v = 5
      · rw [z.1, z.2, u_s, (plc6 hn d5).2, if_neg (show ¬ (0 : Int) ≤ -1 by decide), if_neg (fun h => absurd h.1 (by decide)), if_pos ⟨rfl, rfl⟩, if_neg (by omega)]
      · rw [u_n (by omega), b3 u v hu hv, hp]
        by_cases y1 : v = 6 ∧ u < n
        · rw [if_pos ⟨y1.1, u1, y1.2⟩, if_pos y1, y1.1, (plc6 hn hu).1, if_neg (show ¬ (0 : Int) ≤ -1 by decide)]
        · rw [if_neg (fun h => y1 ⟨h.1, h.2.2⟩), if_neg y1, if_neg z]
  · have u1 := hu.1
    have u2 := hu.2
    have v1 := hv.1
    have v2 := hv.2
    rw [g_sn (by omega), g_sn (by omega), g_sn (by omega), b2 _ (by omega), b2 _ (by omega), b2 _ (by omega), a3 (o + 1) (by omega) (by omega), a3 (o + 5) (by omega) (by omega), (a2 u v hu hv).2, g_fn (by omega), g_fn (by omega), g_fn (by omega), g_fn (by omega), g_f (by omega) (by omega), g_f (by omega) (by omega)]
    exact ⟨rfl, rfl, rfl⟩
/-- whether the bounds can be kept -/
def cbl (LO HI : Int → Int → Int) : Prop := ((LO 0 6 ≤ HI 0 6 ∧ LO 1 6 ≤ HI 1 6 ∧ LO 2 6 ≤ HI 2 6 ∧ LO 3 6 ≤ HI 3 6 ∧ LO 4 6 ≤ HI 4 6) ∧ LO 6 5 ≤ HI 6 5) ∧ LO 0 6 + LO 1 6 + LO 2 6 + LO 3 6 + LO 4 6 ≤ HI 6 5 ∧ LO 6 5 ≤ HI 0 6 + HI 1 6 + HI 2 6 + HI 3 6 + HI 4 6
theorem z_canBalance {N o : Nat} {LO HI : Int → Int → Int} {μ : q_M} (hN : 1000 ≤ N) (h : ∀ u v, nd u → nd v → q_g μ (o + 2) (u * 7 + v) = LO u v ∧ q_g μ (o + 3) (u * 7 + v) = HI u v) (hb : ∀ u v, nd u → nd v → (0 ≤ LO u v ∧ LO u v ≤ 100000) ∧ -100000 ≤ HI u v ∧ HI u v ≤ 1000000) : ∃ x, f_Fl_canBalance N o μ = some x ∧ ((x = 1 ∧ cbl LO HI) ∨ (x = 0 ∧ ¬ cbl LO HI)) := by
  obtain ⟨M, rfl⟩ : ∃ m, N = m + 6 := ⟨N - 6, by omega⟩
  have d6 : nd 6 := ⟨by decide, by decide⟩
  have d5 : nd 5 := ⟨by decide, by decide⟩
  have np : ∀ p : Int, 0 ≤ p → p < 5 → nd p := fun p a b => ⟨a, by omega⟩
  have step : ∀ (K0 : Option Int) (K : Int → Int → Option Int) (nf : Nat) (a b p : Int), 0 ≤ p → p < 5 → 0 ≤ a ∧ a ≤ 100000 * p → -100000 * p ≤ b ∧ b ≤ 1000000 * p → f_Fl_canBalance_L6 o μ K0 K (nf + 1) a b p = if LO p 6 ≤ HI p 6 then f_Fl_canBalance_L6 o μ K0 K nf (a + LO p 6) (b + HI p 6) (p + 1) else K0 := by
    intro K0 K nf a b p p1 p2 ha hb'
    have e := h p 6 (np p p1 p2) d6
    have q := hb p 6 (np p p1 p2) d6
    rw [f_Fl_canBalance_L6, if_neg (by omega), z_arc (np p p1 p2) d6, z_b, z_ld (by omega) (by omega), z_b, z_ld (by omega) (by omega), e.1, e.2]
    by_cases g : LO p 6 ≤ HI p 6
    · rw [if_pos g, if_pos g, z_b, z_ld (by omega) (by omega), e.1, z_ck (by omega) (by omega), z_b, z_ld (by omega) (by omega), e.2, z_ck (by omega) (by omega), z_ck (by omega) (by omega)]
    · rw [if_neg g, if_neg g]
  have b0 := hb 0 6 (np 0 (by decide) (by decide)) d6
  have b1 := hb 1 6 (np 1 (by decide) (by decide)) d6
  have b2 := hb 2 6 (np 2 (by decide) (by decide)) d6
  have b3 := hb 3 6 (np 3 (by decide) (by decide)) d6
  have b4 := hb 4 6 (np 4 (by decide) (by decide)) d6
  have b5 := hb 6 5 d6 d5
  have e5 := h 6 5 d6 d5
  unfold f_Fl_canBalance cbl
  rw [step _ _ (M + 5) 0 0 0 (by decide) (by decide) (by omega) (by omega)]
  by_cases g0 : LO 0 6 ≤ HI 0 6
  · rw [if_pos g0, step _ _ (M + 4) _ _ (0 + 1) (by decide) (by decide) (by omega) (by omega)]
    rw [show (0 : Int) + 1 = 1 from rfl]
    by_cases g1 : LO 1 6 ≤ HI 1 6
    · rw [if_pos g1, step _ _ (M + 3) _ _ (1 + 1) (by decide) (by decide) (by omega) (by omega)]
      rw [show (1 : Int) + 1 = 2 from rfl]
      by_cases g2 : LO 2 6 ≤ HI 2 6
      · rw [if_pos g2, step _ _ (M + 2) _ _ (2 + 1) (by decide) (by decide) (by omega) (by omega)]
        rw [show (2 : Int) + 1 = 3 from rfl]
        by_cases g3 : LO 3 6 ≤ HI 3 6
        · rw [if_pos g3, step _ _ (M + 1) _ _ (3 + 1) (by decide) (by decide) (by omega) (by omega)]
          rw [show (3 : Int) + 1 = 4 from rfl]
          by_cases g4 : LO 4 6 ≤ HI 4 6
          · rw [if_pos g4, f_Fl_canBalance_L6, if_pos (by omega), z_arc d6 d5, z_b, z_ld (by omega) (by omega), z_ld (by omega) (by omega), e5.1, e5.2]
            simp only [z_jn, z_rz0, z_rz1]
            by_cases q1 : HI 6 5 < LO 6 5
            · rw [if_pos q1]
              exact ⟨0, rfl, Or.inr ⟨rfl, fun c => by omega⟩⟩
            · rw [if_neg q1, z_ld (by omega) (by omega), e5.2]
              by_cases q2 : HI 6 5 < 0 + LO 0 6 + LO 1 6 + LO 2 6 + LO 3 6 + LO 4 6
              · rw [if_pos q2]
                exact ⟨0, rfl, Or.inr ⟨rfl, fun c => by omega⟩⟩
              · rw [if_neg q2, z_ld (by omega) (by omega), e5.1]
                by_cases q3 : 0 + HI 0 6 + HI 1 6 + HI 2 6 + HI 3 6 + HI 4 6 < LO 6 5
                · rw [if_pos q3]
                  exact ⟨0, rfl, Or.inr ⟨rfl, fun c => by omega⟩⟩
                · rw [if_neg q3]
                  exact ⟨1, rfl, Or.inl ⟨rfl, ⟨⟨g0, g1, g2, g3, g4⟩, by omega⟩, by omega, by omega⟩⟩
          · rw [if_neg g4]
            exact ⟨0, rfl, Or.inr ⟨rfl, fun c => by omega⟩⟩
        · rw [if_neg g3]
          exact ⟨0, rfl, Or.inr ⟨rfl, fun c => by omega⟩⟩
      · rw [if_neg g2]
        exact ⟨0, rfl, Or.inr ⟨rfl, fun c => by omega⟩⟩
    · rw [if_neg g1]
      exact ⟨0, rfl, Or.inr ⟨rfl, fun c => by omega⟩⟩
  · rw [if_neg g0]
    exact ⟨0, rfl, Or.inr ⟨rfl, fun c => by omega⟩⟩
def clp (lo hi v : Int) : Int := if lo < (if v < hi then v else hi) then (if v < hi then v else hi) else lo
theorem clp_bd {lo hi v : Int} (h : lo ≤ hi) : lo ≤ clp lo hi v ∧ clp lo hi v ≤ hi := by
  unfold clp
  by_cases g : v < hi
  · rw [if_pos g]
    by_cases q : lo < v
    · rw [if_pos q]; omega
    · rw [if_neg q]; omega
  · rw [if_neg g]
    by_cases q : lo < hi
    · rw [if_pos q]; omega
    · rw [if_neg q]; omega
theorem z_fit {o : Nat} {a lo hi v : Int} {μ : q_M} (h0 : 0 ≤ a) (h1 : a < 49) (h2 : q_g μ (o + 2) a = lo) (h3 : q_g μ (o + 3) a = hi) : f_Fl_fit o a v μ = some (clp lo hi v, q_x μ (o + 1) a (clp lo hi v)) := by
  unfold f_Fl_fit
  rw [z_ld h0 (by omega), h2, z_ld h0 (by omega), h3, z_mn, z_mx, z_st h0 (by omega), z_ld h0 (by omega), g_s h0, u_s]
  rfl
/-- what is kept at first, up to some process -/
def kpt (LO HI : Int → Int → Int) (f : Int → Int) (i : Int) : Int := sm (fun p => clp (LO p 6) (HI p 6) (f p)) 0 i.toNat
theorem loadL8 {o : Nat} {LO HI : Int → Int → Int} {n s : Int} {f : Int → Int → Int} {tr : Int → Int} {K : Int → Int → q_M → Option q_M} (ho : 59 ≤ o) (hn : ni n) (hs : 0 ≤ s ∧ s ≤ 1) (hb : stB n f tr) (hlh : ∀ p, 0 ≤ p → p < n → (0 ≤ LO p 6 ∧ LO p 6 ≤ HI p 6 ∧ HI p 6 ≤ 1000)) : ∀ (dd nf : Nat) (i : Int) (μ : q_M), i + dd = n → 0 ≤ i → dd < nf → stM μ n f tr → (∀ u v, nd u → nd v → q_g μ (o + 2) (u * 7 + v) = LO u v ∧ q_g μ (o + 3) (u * 7 + v) = HI u v) →
    ∃ μ', f_Fl_load_L8 o s K nf (kpt LO HI (fun p => f p s) i) (sm (fun p => f p s) 0 i.toNat) i μ = K (kpt LO HI (fun p => f p s) n) (sm (fun p => f p s) 0 n.toNat) μ' ∧ (∀ k, k ≠ o + 1 → k ≠ o + 5 → q_g μ' k = q_g μ k) ∧ (∀ u v, nd u → nd v → q_g μ' (o + 1) (u * 7 + v) = if v = 6 ∧ i ≤ u ∧ u < n then clp (LO u 6) (HI u 6) (f u s) else q_g μ (o + 1) (u * 7 + v)) ∧ (∀ v, nd v → q_g μ' (o + 5) v = if i ≤ v ∧ v < n then f v s - clp (LO v 6) (HI v 6) (f v s) else q_g μ (o + 5) v) := by
  have h5 : 2 ≤ n ∧ n ≤ 5 := by rcases hn with rfl | rfl | rfl | rfl <;> decide
  intro dd
  induction dd with
  | zero =>
    intro nf i μ h1 h2 h3 hm h
    obtain ⟨nf, rfl⟩ : ∃ m, nf = m + 1 := ⟨nf - 1, by omega⟩
    obtain rfl : i = n := by omega
    exact ⟨μ, by rw [f_Fl_load_L8, z_fl, Int.cast_ofNat_Int, hm.1, if_pos (Int.le_refl _)], fun _ _ _ => rfl, fun u v _ _ => by rw [if_neg (by omega)], fun v _ => by rw [if_neg (by omega)]⟩
  | succ dd ih =>
    intro nf i μ h1 h2 h3 hm h
    obtain ⟨nf, rfl⟩ : ∃ m, nf = m + 1 := ⟨nf - 1, by omega⟩
    have hi : nd i := ⟨h2, by omega⟩
    have d6 : nd 6 := ⟨by decide, by decide⟩
    have e := h i 6 hi d6
    have hc := hlh i h2 (by omega)
    have hcb := clp_bd (v := f i s) hc.2.1
    have hf := hb.2.1 i s h2 (by omega) hs.1 hs.2
    have hsf := smf_bd hb hs i h2 (by omega)
    have hkb : 0 ≤ kpt LO HI (fun p => f p s) i ∧ kpt LO HI (fun p => f p s) i ≤ 1000 * i := by
      have := sm_bd (f := fun p => clp (LO p 6) (HI p 6) (f p s)) (a := 0) (b := 1000) (d := i.toNat) (i := 0) (fun j a b => by
        have c := hlh j a (by omega)
        have d := clp_bd (v := f j s) c.2.1
        omega)
      rw [show kpt LO HI (fun p => f p s) i = sm (fun p => clp (LO p 6) (HI p 6) (f p s)) 0 i.toNat from rfl]
      omega
    have hi1 : (i + 1).toNat = i.toNat + 1 := by omega
    rw [f_Fl_load_L8, z_fl, Int.cast_ofNat_Int, hm.1, if_neg (by omega), z_slot h2 (by omega) hs.1 hs.2, z_b, z_ld (by omega) (by omega), hm.2.1 i s h2 (by omega) hs.1 hs.2, z_arc hi d6, z_b, z_fit (by omega) (by omega) e.1 e.2, z_b2, z_ck (by omega) (by omega), z_st (by omega) (by omega), z_ck (by omega) (by omega), z_ck (by omega) (by omega), z_ck (by omega) (by omega)]
    obtain ⟨μ', a1, a2, a3, a4⟩ := ih nf (i + 1) (q_x (q_x μ (o + 1) (i * 7 + 6) (clp (LO i 6) (HI i 6) (f i s))) (o + 5) i (f i s - clp (LO i 6) (HI i 6) (f i s))) (by omega) (by omega) (by omega) (stM_fr hm (fun k k1 k2 => by rw [g_sn (by omega), g_sn (by omega)])) (fun u v hu hv => by rw [g_sn (by omega), g_sn (by omega), g_sn (by omega), g_sn (by omega)]; exact h u v hu hv)
    refine ⟨μ', ?_, fun k k1 k2 => by rw [a2 k k1 k2, g_sn k2, g_sn k1], fun u v hu hv => ?_, fun v hv => ?_⟩
    · rw [← a1]
      unfold kpt
      rw [hi1, sm_last, sm_last, Int.zero_add, Int.toNat_of_nonneg h2]
    · have u1 := hu.1
      have u2 := hu.2
      have v1 := hv.1
      have v2 := hv.2
      rw [a3 u v hu hv, g_sn (by omega), g_s (by omega)]
      by_cases z : u = i ∧ v = 6
      · rw [z.1, z.2, if_neg (by omega), u_s, if_pos ⟨rfl, Int.le_refl _, by omega⟩]
      · rw [u_n (by omega)]
        by_cases y : v = 6 ∧ i + 1 ≤ u ∧ u < n
        · rw [if_pos y, if_pos (by omega)]
        · rw [if_neg y, if_neg (by omega)]
    · have v1 := hv.1
      rw [a4 v hv, g_s h2]
      by_cases z : v = i
      · rw [z, if_neg (by omega), u_s, if_pos ⟨Int.le_refl _, by omega⟩]
      · rw [u_n z, g_sn (by omega)]
        by_cases y : i + 1 ≤ v ∧ v < n
        · rw [if_pos y, if_pos (by omega)]
        · rw [if_neg y, if_neg (by omega)]
