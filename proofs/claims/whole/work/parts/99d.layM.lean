/-! the model's flow laid out -/
def gM (S T R V : Int → Int) (n K s tr : Int) : Prop := (fL S T R V 9 s K.toNat ≤ tr ∧ tr ≤ fH S T R V 9 s 100000 K.toNat) ∧ (∀ i, 0 ≤ i → i < n → fL S T R V i s K.toNat ≤ fH S T R V i s 1000 K.toNat) ∧ mx0 (fL S T R V 8 s K.toNat - tr) ≤ fH S T R V 8 s 100000 K.toNat - tr
theorem smF_5 {n : Int} {F : Int → Int} (hn : ni n) (h : ∀ p, n ≤ p → p < 5 → F p = 0) : sm F 0 n.toNat = F 0 + F 1 + F 2 + F 3 + F 4 := by
  rcases hn with rfl | rfl | rfl | rfl
  · rw [h 2 (by decide) (by decide), h 3 (by decide) (by decide), h 4 (by decide) (by decide)]
    show F 0 + (F (0 + 1) + 0) = _
    rw [show (0 : Int) + 1 = 1 from rfl]
    omega
  · rw [h 3 (by decide) (by decide), h 4 (by decide) (by decide)]
    show F 0 + (F (0 + 1) + (F (0 + 1 + 1) + 0)) = _
    rw [show (0 : Int) + 1 + 1 = 2 from rfl, show (0 : Int) + 1 = 1 from rfl]
    omega
  · rw [h 4 (by decide) (by decide)]
    show F 0 + (F (0 + 1) + (F (0 + 1 + 1) + (F (0 + 1 + 1 + 1) + 0))) = _
    rw [show (0 : Int) + 1 + 1 + 1 = 3 from rfl, show (0 : Int) + 1 + 1 = 2 from rfl, show (0 : Int) + 1 = 1 from rfl]
    omega
  · show F 0 + (F (0 + 1) + (F (0 + 1 + 1) + (F (0 + 1 + 1 + 1) + (F (0 + 1 + 1 + 1 + 1) + 0)))) = _
    rw [show (0 : Int) + 1 + 1 + 1 + 1 = 4 from rfl, show (0 : Int) + 1 + 1 + 1 = 3 from rfl, show (0 : Int) + 1 + 1 = 2 from rfl, show (0 : Int) + 1 = 1 from rfl]
    omega
theorem loC_k {S T R V : Int → Int} {n st tr : Int} {k : Nat} (hn : 2 ≤ n ∧ n ≤ 5) : ∀ u v, nd u → nd v → ¬ (v = 6 ∧ u < 5) → ¬ (u = 6 ∧ v = 5) → loC S T R V n st tr k u v = 0 := by
  intro u v hu hv h1 h2
  unfold loC
  rw [if_neg (fun q => h1 ⟨q.1, by omega⟩), if_neg h2]
theorem loC_hi {S T R V : Int → Int} {n st tr p : Int} {k : Nat} (hn : 2 ≤ n ∧ n ≤ 5) (h1 : n ≤ p) (h2 : p < 5) : loC S T R V n st tr k p 6 = 0 := by
  unfold loC
  rw [if_neg (by omega), if_neg (by omega)]
theorem exP_end {S T R V : Int → Int} {n st tr : Int} {k : Nat} {F : Int → Int} (hn : ni n) (w : Int) (hw : nd w) : exP n F (loC S T R V n st tr k) n w + (if w = 5 then mx0 (fL S T R V 8 st k - tr) else 0) - (if w = 6 then mx0 (fL S T R V 8 st k - tr) else 0) = ijv n F w + nt (loC S T R V n st tr k) w := by
  have h5 : 2 ≤ n ∧ n ≤ 5 := by rcases hn with rfl | rfl | rfl | rfl <;> decide
  have hk := nt_k (X := loC S T R V n st tr k) (loC_k h5)
  have w1 := hw.1
  have w2 := hw.2
  have h65 := loC_65 (S := S) (T := T) (R := R) (V := V) (n := n) (st := st) (tr := tr) (k := k)
  unfold exP ijv
  by_cases g : w < n
  · simp only [if_pos g, if_neg (show ¬ w = 5 by omega), if_neg (show ¬ w = 6 by omega)]
    rw [hk.2.2 w w1 (by omega)]
    omega
  · by_cases g5 : w = 5
    · simp only [if_neg g, if_pos g5, if_neg (show ¬ w = 6 by omega)]
      rw [g5, hk.2.1, h65]
      omega
    · by_cases g6 : w = 6
      · simp only [if_neg g, if_neg g5, if_pos g6]
        rw [g6, hk.1, h65, smF_5 (F := fun i => loC S T R V n st tr k i 6) hn (fun p a b => loC_hi h5 a b)]
        omega
      · simp only [if_neg g, if_neg g5, if_neg g6]
        rw [hk.2.2 w w1 (by omega), loC_hi h5 (by omega) (by omega)]
        omega
theorem z_layEdges {N : Nat} {n K c s g b : Int} {S T R V mv : Int → Int} {μ : q_M} (hN : 1000 ≤ N) (hs : s = 0 ∨ s = 1) (hB : ruB n K S T R V) (hv : rv n (q_g μ 1) c) (hn0 : q_g μ 0 0 = n) (h6 : q_g μ 0 6 = K) (h4 : q_g μ 4 = S) (h5 : q_g μ 5 = T) (h7 : q_g μ 6 = R) (h8 : q_g μ 7 = V) (hg : q_g μ 0 12 = g) (hb : q_g μ 0 13 = b) (h8c : ∀ i, 0 ≤ i → i < 25 → q_g μ 8 i = mv i) :
    ∃ (y : Int) (μ' : q_M), f_M_layEdges N s μ = some (y, μ') ∧ ((y = 1 ∧ gM S T R V n K s (trN (tran (q_g μ 1)) (q_g μ 1) s)) ∨ (y = 0 ∧ ¬ gM S T R V n K s (trN (tran (q_g μ 1)) (q_g μ 1) s))) ∧ eM n (fun p => sCut (q_g μ 1) p s) (coE mv g b n) (loC S T R V n s (trN (tran (q_g μ 1)) (q_g μ 1) s) K.toNat) (hiM S T R V n s (trN (tran (q_g μ 1)) (q_g μ 1) s) K.toNat) μ' (loC S T R V n s (trN (tran (q_g μ 1)) (q_g μ 1) s) K.toNat) ∧ exMM μ' (fun v => ijv n (fun p => sCut (q_g μ 1) p s) v + nt (loC S T R V n s (trN (tran (q_g μ 1)) (q_g μ 1) s) K.toNat) v) ∧ frL μ μ' := by
  have hn5 := hv.1
  have hn := ni_of hn5
  have hq := q_rng hn
  have hK := hB.1
  have htr := trN_bd (s := s) (f := tran (q_g μ 1)) hv
  generalize htrE : trN (tran (q_g μ 1)) (q_g μ 1) s = tr at *
  unfold f_M_layEdges
  rw [z_fl, Int.cast_ofNat_Int, hn0, z_fs, Int.cast_ofNat_Int]
  -- nothing is left over at first
  obtain ⟨μ1, a1, a2, a3⟩ := lp_fill (F := fun nf i ν => f_M_layEdges_L12 (fun μ5 => q_b (f_M_transitOf N s 1 μ5) fun x10 => q_b (f_M_findBounds N 9 s 100000 μ5) fun μ12 => q_fl μ12 0 23 fun x13 => q_fl μ12 0 24 fun x14 => q_b (f_M_in x10 x13 x14 μ12) fun x16 => f_M_layEdges_L67 n (fun x20 μ21 => f_M_layEdges_L131 N s n x20 (fun x43 μ44 => q_b (f_M_findBounds N 8 s 100000 μ44) fun μ77 => q_fl μ77 0 23 fun x78 => q_jn (fun (x79 : Int) => q_fs μ77 0 23 x79 fun μ80 => q_fl μ80 0 24 fun x81 => q_ck (x81 - x10) fun x82 => q_fs μ80 0 24 x82 fun μ83 => q_fl μ83 0 23 fun x84 => q_fl μ83 0 23 fun x85 => q_fl μ83 0 24 fun x86 => q_jn (fun (x87 : Int) => q_b (f_M_edge 5 6 x84 x87 0 ((-1)) μ83) fun μ89 => q_jn (fun (x90 : Int) => q_rz x90 (some (x90, μ89))) fun (j373 : Int → Option (Int × q_M)) => q_jn (j373 0) fun (j372 : Option (Int × q_M)) => if x43 = 0 then j372 else q_fl μ89 0 23 fun x91 => q_fl μ89 0 24 fun x92 => if x92 < x91 then j372 else j373 1) fun (j347 : Int → Option (Int × q_M)) => if x86 < x85 then q_fl μ83 0 23 fun x95 => j347 x95 else q_fl μ83 0 24 fun x96 => j347 x96) fun (j304 : Int → Option (Int × q_M)) => if x78 ≤ x10 then j304 0 else q_fl μ77 0 23 fun x98 => q_ck (x98 - x10) fun x99 => j304 x99) N x16 0 μ21) N 0 0 μ12) nf i ν) (E := fun μ5 => q_b (f_M_transitOf N s 1 μ5) fun x10 => q_b (f_M_findBounds N 9 s 100000 μ5) fun μ12 => q_fl μ12 0 23 fun x13 => q_fl μ12 0 24 fun x14 => q_b (f_M_in x10 x13 x14 μ12) fun x16 => f_M_layEdges_L67 n (fun x20 μ21 => f_M_layEdges_L131 N s n x20 (fun x43 μ44 => q_b (f_M_findBounds N 8 s 100000 μ44) fun μ77 => q_fl μ77 0 23 fun x78 => q_jn (fun (x79 : Int) => q_fs μ77 0 23 x79 fun μ80 => q_fl μ80 0 24 fun x81 => q_ck (x81 - x10) fun x82 => q_fs μ80 0 24 x82 fun μ83 => q_fl μ83 0 23 fun x84 => q_fl μ83 0 23 fun x85 => q_fl μ83 0 24 fun x86 => q_jn (fun (x87 : Int) => q_b (f_M_edge 5 6 x84 x87 0 ((-1)) μ83) fun μ89 => q_jn (fun (x90 : Int) => q_rz x90 (some (x90, μ89))) fun (j373 : Int → Option (Int × q_M)) => q_jn (j373 0) fun (j372 : Option (Int × q_M)) => if x43 = 0 then j372 else q_fl μ89 0 23 fun x91 => q_fl μ89 0 24 fun x92 => if x92 < x91 then j372 else j373 1) fun (j347 : Int → Option (Int × q_M)) => if x86 < x85 then q_fl μ83 0 23 fun x95 => j347 x95 else q_fl μ83 0 24 fun x96 => j347 x96) fun (j304 : Int → Option (Int × q_M)) => if x78 ≤ x10 then j304 0 else q_fl μ77 0 23 fun x98 => q_ck (x98 - x10) fun x99 => j304 x99) N x16 0 μ21) N 0 0 μ12) (k := 16) (b := 7) (off := 0) (v := 0) (by decide) (fun nf ν => by
    show f_M_layEdges_L12 _ (nf + 1) 7 ν = _
    rw [f_M_layEdges_L12, if_pos (by decide)]) (fun nf i ν h0 h1 => by
    show f_M_layEdges_L12 _ (nf + 1) i ν = f_M_layEdges_L12 _ nf (i + 1) (q_x ν 16 (0 + i) 0)
    rw [f_M_layEdges_L12, if_neg (by omega), z_st (by omega) (by omega), z_ck (by omega) (by omega), Int.zero_add]) 7 N 0 (q_x μ 0 14 0) (by decide) (by decide) (by omega)
  rw [a1]
  have fr1 : frL μ μ1 := ⟨fun k k0 k1 => by rw [a2 k (by omega), g_sn k0], fun j j1 _ _ => by rw [a2 0 (by omega), g_s (by omega), u_n j1]⟩
  have hv1 : rv n (q_g μ1 1) c := by rw [fr1.1 1 (by omega) (by omega)]; exact hv
  rw [z_transitOf hN hv1 (by omega), z_b, fr1.1 1 (by omega) (by omega), if_neg (show ¬ (1 : Int) = 0 by decide), htrE]
  obtain ⟨μ2, b1, b2, b3, b4, b5⟩ := z_findBounds (N := N) (subj := 9) (st := s) (most := 100000) (μ := μ1) hN hB (by decide) (by rw [fr1.2 6 (by decide) (by decide) (by decide)]; exact h6) (by rw [fr1.1 4 (by omega) (by omega)]; exact h4) (by rw [fr1.1 5 (by omega) (by omega)]; exact h5) (by rw [fr1.1 6 (by omega) (by omega)]; exact h7) (by rw [fr1.1 7 (by omega) (by omega)]; exact h8)
  have fr2 : frL μ μ2 := frL_tr fr1 ⟨fun k k0 _ => b2 k k0, fun j _ j1 j2 => b3 j j1 j2⟩
  rw [b1, z_b, z_fl, Int.cast_ofNat_Int, b4, z_fl, Int.cast_ofNat_Int, b5, z_in, z_b]
  have hL2 : LEM n (fun p => sCut (q_g μ 1) p s) (coE mv g b n) (loC S T R V n s tr K.toNat) (hiM S T R V n s tr K.toNat) 0 μ2 := by
    refine ⟨by rw [b3 14 (by decide) (by decide), a2 0 (by omega), g_s (by omega), u_s], fun u v hu hv h0 h1 => by omega, fun p p0 pn h => by omega⟩
  have hE2 : exMM μ2 (exP n (fun p => sCut (q_g μ 1) p s) (loC S T R V n s tr K.toNat) 0) := by
    intro w hw
    have w1 := hw.1
    have s1 := (sw_nd hw).1
    have s2 := (sw_nd hw).2
    rw [b2 16 (by omega), a3, if_pos (by omega)]
    unfold exP
    rw [if_neg (by omega)]
    by_cases g5 : w = 5
    · rw [if_pos g5]; rfl
    · rw [if_neg g5]
      by_cases g6 : w = 6
      · rw [if_pos g6]; rfl
      · rw [if_neg g6]
  have hE0 : ∀ w, nd w → -500000 ≤ exP n (fun p => sCut (q_g μ 1) p s) (loC S T R V n s tr K.toNat) 0 w ∧ exP n (fun p => sCut (q_g μ 1) p s) (loC S T R V n s tr K.toNat) 0 w ≤ 500000 := fun w hw => exP_bd (n := n) (p := 0) (w := w) (st := fun p => sCut (q_g μ 1) p s) (LO := loC S T R V n s tr K.toNat) hn5 (by omega) (fun i a c' => by
    have := sCut_bd (p := i) (s := s) hv a (by omega) (by omega) (by omega)
    omega) (fun i a c' => by
    rw [loC_p6 c']
    exact fL_bd hB K.toNat (by omega)) hw
  have hgood : ∀ x16, (x16 = 0 ∨ x16 = 1) → ((x16 = 1 ∧ (fL S T R V 9 s K.toNat ≤ tr ∧ tr ≤ fH S T R V 9 s 100000 K.toNat)) ∨ (x16 = 0 ∧ ¬ (fL S T R V 9 s K.toNat ≤ tr ∧ tr ≤ fH S T R V 9 s 100000 K.toNat))) → ∃ (y : Int) (μ' : q_M), f_M_layEdges_L67 n (fun x20 μ21 => f_M_layEdges_L131 N s n x20 (fun x43 μ44 => q_b (f_M_findBounds N 8 s 100000 μ44) fun μ77 => q_fl μ77 0 23 fun x78 => q_jn (fun (x79 : Int) => q_fs μ77 0 23 x79 fun μ80 => q_fl μ80 0 24 fun x81 => q_ck (x81 - tr) fun x82 => q_fs μ80 0 24 x82 fun μ83 => q_fl μ83 0 23 fun x84 => q_fl μ83 0 23 fun x85 => q_fl μ83 0 24 fun x86 => q_jn (fun (x87 : Int) => q_b (f_M_edge 5 6 x84 x87 0 ((-1)) μ83) fun μ89 => q_jn (fun (x90 : Int) => q_rz x90 (some (x90, μ89))) fun (j373 : Int → Option (Int × q_M)) => q_jn (j373 0) fun (j372 : Option (Int × q_M)) => if x43 = 0 then j372 else q_fl μ89 0 23 fun x91 => q_fl μ89 0 24 fun x92 => if x92 < x91 then j372 else j373 1) fun (j347 : Int → Option (Int × q_M)) => if x86 < x85 then q_fl μ83 0 23 fun x95 => j347 x95 else q_fl μ83 0 24 fun x96 => j347 x96) fun (j304 : Int → Option (Int × q_M)) => if x78 ≤ tr then j304 0 else q_fl μ77 0 23 fun x98 => q_ck (x98 - tr) fun x99 => j304 x99) N x16 0 μ21) N 0 0 μ2 = some (y, μ') ∧ ((y = 1 ∧ gM S T R V n K s tr) ∨ (y = 0 ∧ ¬ gM S T R V n K s tr)) ∧ eM n (fun p => sCut (q_g μ 1) p s) (coE mv g b n) (loC S T R V n s tr K.toNat) (hiM S T R V n s tr K.toNat) μ' (loC S T R V n s tr K.toNat) ∧ exMM μ' (fun v => ijv n (fun p => sCut (q_g μ 1) p s) v + nt (loC S T R V n s tr K.toNat) v) ∧ frL μ μ' := by
    intro x16 hx16 hgx
    obtain ⟨μ3, c1, c2, c3, c4, c5, c6⟩ := layL67 (K := fun x20 μ21 => f_M_layEdges_L131 N s n x20 (fun x43 μ44 => q_b (f_M_findBounds N 8 s 100000 μ44) fun μ77 => q_fl μ77 0 23 fun x78 => q_jn (fun (x79 : Int) => q_fs μ77 0 23 x79 fun μ80 => q_fl μ80 0 24 fun x81 => q_ck (x81 - tr) fun x82 => q_fs μ80 0 24 x82 fun μ83 => q_fl μ83 0 23 fun x84 => q_fl μ83 0 23 fun x85 => q_fl μ83 0 24 fun x86 => q_jn (fun (x87 : Int) => q_b (f_M_edge 5 6 x84 x87 0 ((-1)) μ83) fun μ89 => q_jn (fun (x90 : Int) => q_rz x90 (some (x90, μ89))) fun (j373 : Int → Option (Int × q_M)) => q_jn (j373 0) fun (j372 : Option (Int × q_M)) => if x43 = 0 then j372 else q_fl μ89 0 23 fun x91 => q_fl μ89 0 24 fun x92 => if x92 < x91 then j372 else j373 1) fun (j347 : Int → Option (Int × q_M)) => if x86 < x85 then q_fl μ83 0 23 fun x95 => j347 x95 else q_fl μ83 0 24 fun x96 => j347 x96) fun (j304 : Int → Option (Int × q_M)) => if x78 ≤ tr then j304 0 else q_fl μ77 0 23 fun x98 => q_ck (x98 - tr) fun x99 => j304 x99) N x16 0 μ21) (mv := mv) hn hE0 (fun u v u0 un v0 vn huv => by
      have hp := plc_mv un vn huv
      have hr := mv_rng hn u0 v0 un vn huv
      refine ⟨?_, ?_, ?_⟩
      · unfold loC
        rw [if_neg (by omega), if_neg (by omega)]
      · unfold hiM
        rw [if_pos (by omega)]
      · unfold coE cst
        rw [if_pos (by omega), if_neg (by omega), if_neg (by omega), show u * 5 + v = 5 * u + v by omega]) (n * n).toNat N 0 0 0 0 μ2 (by
      have : 0 ≤ n * n := by rcases hn with rfl | rfl | rfl | rfl <;> decide
      omega) (by omega) (by decide) (by decide) (by omega) (by
      have : n * n ≤ 25 := by rcases hn with rfl | rfl | rfl | rfl <;> decide
      omega) (by rw [if_neg (by decide)]; omega) hL2 hE2 (fun i i0 i1 => by rw [fr2.1 8 (by omega) (by omega)]; exact h8c i i0 i1)
    have fr3 := frL_tr fr2 c4
    rw [c1]
    obtain ⟨x', μ4, d1, d2, d3, d4, d5⟩ := layL131 (N := N) (μ0 := μ) (J := fun x43 μ44 => q_b (f_M_findBounds N 8 s 100000 μ44) fun μ77 => q_fl μ77 0 23 fun x78 => q_jn (fun (x79 : Int) => q_fs μ77 0 23 x79 fun μ80 => q_fl μ80 0 24 fun x81 => q_ck (x81 - tr) fun x82 => q_fs μ80 0 24 x82 fun μ83 => q_fl μ83 0 23 fun x84 => q_fl μ83 0 23 fun x85 => q_fl μ83 0 24 fun x86 => q_jn (fun (x87 : Int) => q_b (f_M_edge 5 6 x84 x87 0 ((-1)) μ83) fun μ89 => q_jn (fun (x90 : Int) => q_rz x90 (some (x90, μ89))) fun (j373 : Int → Option (Int × q_M)) => q_jn (j373 0) fun (j372 : Option (Int × q_M)) => if x43 = 0 then j372 else q_fl μ89 0 23 fun x91 => q_fl μ89 0 24 fun x92 => if x92 < x91 then j372 else j373 1) fun (j347 : Int → Option (Int × q_M)) => if x86 < x85 then q_fl μ83 0 23 fun x95 => j347 x95 else q_fl μ83 0 24 fun x96 => j347 x96) fun (j304 : Int → Option (Int × q_M)) => if x78 ≤ tr then j304 0 else q_fl μ77 0 23 fun x98 => q_ck (x98 - tr) fun x99 => j304 x99) hN hn hs hB hv h6 h4 h5 h7 h8 hg hb n.toNat N 0 x16 μ3 (by omega) (by omega) (by omega) hx16 (by rw [Int.mul_zero, Int.add_zero]; exact c2) c3 fr3
    rw [d1]
    obtain ⟨μ5, e1, e2, e3, e4, e5⟩ := z_findBounds (N := N) (subj := 8) (st := s) (most := 100000) (μ := μ4) hN hB (by decide) (by rw [d5.2 6 (by decide) (by decide) (by decide)]; exact h6) (by rw [d5.1 4 (by omega) (by omega)]; exact h4) (by rw [d5.1 5 (by omega) (by omega)]; exact h5) (by rw [d5.1 6 (by omega) (by omega)]; exact h7) (by rw [d5.1 7 (by omega) (by omega)]; exact h8)
    have l8 := fL_bd (subj := 8) (st := s) hB K.toNat (by omega)
    have u8 := fH_bd (subj := 8) (st := s) (most := 100000) hB (by decide) K.toNat (by omega)
    rw [e1, z_b, z_fl, Int.cast_ofNat_Int, e4]
    simp only [z_jn]
    have m0 : 0 ≤ mx0 (fL S T R V 8 s K.toNat - tr) ∧ mx0 (fL S T R V 8 s K.toNat - tr) ≤ 9999 := by
      unfold mx0
      by_cases q : fL S T R V 8 s K.toNat - tr < 0
      · rw [if_pos q]; omega
      · rw [if_neg q]; omega
    have d6 : nd 6 := ⟨by decide, by decide⟩
    have dd5 : nd 5 := ⟨by decide, by decide⟩
    have cont : ∀ x79, x79 = mx0 (fL S T R V 8 s K.toNat - tr) → ∃ (y : Int) (μ' : q_M), (q_fs μ5 0 23 x79 fun μ80 => q_fl μ80 0 24 fun x81 => q_ck (x81 - tr) fun x82 => q_fs μ80 0 24 x82 fun μ83 => q_fl μ83 0 23 fun x84 => q_fl μ83 0 23 fun x85 => q_fl μ83 0 24 fun x86 => if x86 < x85 then q_fl μ83 0 23 fun x95 => q_b (f_M_edge 5 6 x84 x95 0 ((-1)) μ83) fun μ89 => if x' = 0 then q_rz 0 (some (0, μ89)) else q_fl μ89 0 23 fun x91 => q_fl μ89 0 24 fun x92 => if x92 < x91 then q_rz 0 (some (0, μ89)) else q_rz 1 (some (1, μ89)) else q_fl μ83 0 24 fun x96 => q_b (f_M_edge 5 6 x84 x96 0 ((-1)) μ83) fun μ89 => if x' = 0 then q_rz 0 (some (0, μ89)) else q_fl μ89 0 23 fun x91 => q_fl μ89 0 24 fun x92 => if x92 < x91 then q_rz 0 (some (0, μ89)) else q_rz 1 (some (1, μ89))) = some (y, μ') ∧ ((y = 1 ∧ gM S T R V n K s tr) ∨ (y = 0 ∧ ¬ gM S T R V n K s tr)) ∧ eM n (fun p => sCut (q_g μ 1) p s) (coE mv g b n) (loC S T R V n s tr K.toNat) (hiM S T R V n s tr K.toNat) μ' (loC S T R V n s tr K.toNat) ∧ exMM μ' (fun v => ijv n (fun p => sCut (q_g μ 1) p s) v + nt (loC S T R V n s tr K.toNat) v) ∧ frL μ μ' := by
      intro x79 h79
      rw [z_fs, Int.cast_ofNat_Int, z_fl, Int.cast_ofNat_Int, g_s (by omega), u_n (by omega), e5, z_ck (by omega) (by omega), z_fs, Int.cast_ofNat_Int]
      generalize hν : q_x (q_x μ5 0 23 x79) 0 24 (fH S T R V 8 s 100000 K.toNat - tr) = ν
      have v23 : q_g ν 0 23 = x79 := by rw [← hν, g_s (by omega), u_n (by omega), g_s (by omega), u_s]
      have v24 : q_g ν 0 24 = fH S T R V 8 s 100000 K.toNat - tr := by rw [← hν, g_s (by omega), u_s]
      have frν : frL μ5 ν := ⟨fun k k0 _ => by rw [← hν, g_sn k0, g_sn k0], fun j _ j1 j2 => by rw [← hν, g_s (by omega), u_n j2, g_s (by omega), u_n j1]⟩
      have frν2 : ∀ k, k ≠ 0 → q_g ν k = q_g μ5 k := fun k k0 => by rw [← hν, g_sn k0, g_sn k0]
      have ν14 : q_g ν 0 14 = q_g μ5 0 14 := by rw [← hν, g_s (by omega), u_n (by omega), g_s (by omega), u_n (by omega)]
      have fr5 : frL μ ν := frL_tr (frL_tr d5 ⟨fun k k0 _ => e2 k k0, fun j _ j1 j2 => e3 j j1 j2⟩) frν
      have hLν : LEM n (fun p => sCut (q_g μ 1) p s) (coE mv g b n) (loC S T R V n s tr K.toNat) (hiM S T R V n s tr K.toNat) (n * (n - 1) + 4 * n) ν := LEM_fr d3 (by rw [ν14, e3 14 (by decide) (by decide)]) (fun k k1 k2 => by rw [frν2 k (by omega), e2 k (by omega)])
      have hEν : exMM ν (exP n (fun p => sCut (q_g μ 1) p s) (loC S T R V n s tr K.toNat) n) := fun w hw => by rw [frν2 16 (by omega), e2 16 (by omega)]; exact d4 w hw
      have hEb : ∀ w, nd w → -500000 ≤ exP n (fun p => sCut (q_g μ 1) p s) (loC S T R V n s tr K.toNat) n w ∧ exP n (fun p => sCut (q_g μ 1) p s) (loC S T R V n s tr K.toNat) n w ≤ 500000 := fun w hw => exP_bd (n := n) (p := n) (w := w) (st := fun p => sCut (q_g μ 1) p s) (LO := loC S T R V n s tr K.toNat) hn5 (by omega) (fun i a c' => by
        have := sCut_bd (p := i) (s := s) hv a (by omega) (by omega) (by omega)
        omega) (fun i a c' => by
        rw [loC_p6 c']
        exact fL_bd hB K.toNat (by omega)) hw
      have p65 := (plc6 hn dd5).2
      have e65 : ei n 6 5 = n * (n - 1) + 4 * n := by
        unfold ei
        rw [if_neg (by omega), if_neg (by omega), if_neg (by omega), if_neg (by omega), if_pos ⟨rfl, rfl⟩]
      have fin : ∀ h, h = hiM S T R V n s tr K.toNat 6 5 → ∃ (y : Int) (μ' : q_M), (q_b (f_M_edge 5 6 x79 h 0 ((-1)) ν) fun μ89 => if x' = 0 then q_rz 0 (some (0, μ89)) else q_fl μ89 0 23 fun x91 => q_fl μ89 0 24 fun x92 => if x92 < x91 then q_rz 0 (some (0, μ89)) else q_rz 1 (some (1, μ89))) = some (y, μ') ∧ ((y = 1 ∧ gM S T R V n K s tr) ∨ (y = 0 ∧ ¬ gM S T R V n K s tr)) ∧ eM n (fun p => sCut (q_g μ 1) p s) (coE mv g b n) (loC S T R V n s tr K.toNat) (hiM S T R V n s tr K.toNat) μ' (loC S T R V n s tr K.toNat) ∧ exMM μ' (fun v => ijv n (fun p => sCut (q_g μ 1) p s) v + nt (loC S T R V n s tr K.toNat) v) ∧ frL μ μ' := by
        intro h hh
        obtain ⟨μ6, f1, f2, f3, f4, f5, f6⟩ := LE_p (u := 6) (v := 5) (a := 5) (b := 6) (l := x79) (h := h) (co := 0) (p := -1) hn hLν hEν hEb d6 dd5 (by decide) e65 (by omega) rfl rfl (by rw [h79, loC_65]) hh (by unfold coE; rw [if_neg (by rw [p65]; decide)]) p65.symm (by omega)
        have hEM : eM n (fun p => sCut (q_g μ 1) p s) (coE mv g b n) (loC S T R V n s tr K.toNat) (hiM S T R V n s tr K.toNat) μ6 (loC S T R V n s tr K.toNat) := by
          refine ⟨f2.1, fun u v hu hv he => f2.2.1 u v hu hv he ?_, fun p p0 pn => f2.2.2 p p0 pn (by omega)⟩
          have := ei_bd hn hu hv
          omega
        have hEx : exMM μ6 (fun v => ijv n (fun p => sCut (q_g μ 1) p s) v + nt (loC S T R V n s tr K.toNat) v) := fun w hw => by
          rw [f3 w hw, h79]
          exact exP_end hn w hw
        have hfr := frL_tr fr5 f4
        rw [f1, z_b]
        have gsplit : gM S T R V n K s tr ↔ ((fL S T R V 9 s K.toNat ≤ tr ∧ tr ≤ fH S T R V 9 s 100000 K.toNat) ∧ (∀ i, 0 ≤ i → i < n → fL S T R V i s K.toNat ≤ fH S T R V i s 1000 K.toNat) ∧ x79 ≤ fH S T R V 8 s 100000 K.toNat - tr) := by
          rw [h79]; exact Iff.rfl
        rcases d2 with ⟨q1, q2, q3⟩ | ⟨q1, q2⟩
        · have hg9 : fL S T R V 9 s K.toNat ≤ tr ∧ tr ≤ fH S T R V 9 s 100000 K.toNat := by
            rcases hgx with ⟨-, h⟩ | ⟨h, -⟩
            · exact h
            · omega
          rw [if_neg (by omega), z_fl, Int.cast_ofNat_Int, f5, v23, z_fl, Int.cast_ofNat_Int, f6, v24]
          by_cases gg : fH S T R V 8 s 100000 K.toNat - tr < x79
          · rw [if_pos gg, z_rz0]
            exact ⟨0, μ6, rfl, Or.inr ⟨rfl, fun h => by have := (gsplit.mp h).2.2; omega⟩, hEM, hEx, hfr⟩
          · rw [if_neg gg, z_rz1]
            exact ⟨1, μ6, rfl, Or.inl ⟨rfl, gsplit.mpr ⟨hg9, q3, by omega⟩⟩, hEM, hEx, hfr⟩
        · rw [if_pos q1, z_rz0]
          refine ⟨0, μ6, rfl, Or.inr ⟨rfl, fun h => q2 ⟨?_, (gsplit.mp h).2.1⟩⟩, hEM, hEx, hfr⟩
          rcases hgx with ⟨h1, -⟩ | ⟨-, h1⟩
          · exact h1
          · exact absurd (gsplit.mp h).1 h1
      have hh65 : hiM S T R V n s tr K.toNat 6 5 = (if fH S T R V 8 s 100000 K.toNat - tr < x79 then x79 else fH S T R V 8 s 100000 K.toNat - tr) := by
        unfold hiM
        rw [if_neg (by rw [p65]; decide), if_neg (fun q => absurd q.1 (by decide)), if_pos ⟨rfl, rfl⟩, h79]
      rw [z_fl, Int.cast_ofNat_Int, v23, z_fl, Int.cast_ofNat_Int, v23, z_fl, Int.cast_ofNat_Int, v24]
      by_cases gg : fH S T R V 8 s 100000 K.toNat - tr < x79
      · rw [if_pos gg] at hh65 ⊢
        rw [z_fl, Int.cast_ofNat_Int, v23]
        exact fin _ hh65.symm
      · rw [if_neg gg] at hh65 ⊢
        rw [z_fl, Int.cast_ofNat_Int, v24]
        exact fin _ hh65.symm
    by_cases gt : fL S T R V 8 s K.toNat ≤ tr
    · rw [if_pos gt]
      exact cont 0 (by
        unfold mx0
        by_cases q : fL S T R V 8 s K.toNat - tr < 0
        · rw [if_pos q]
        · rw [if_neg q]; omega)
    · rw [if_neg gt, z_fl, Int.cast_ofNat_Int, e4, z_ck (by omega) (by omega)]
      exact cont _ (by
        unfold mx0
        rw [if_neg (by omega)])
  by_cases g9 : fL S T R V 9 s K.toNat ≤ tr ∧ tr ≤ fH S T R V 9 s 100000 K.toNat
  · rw [if_pos g9]
    exact hgood 1 (Or.inr rfl) (Or.inl ⟨rfl, g9⟩)
  · rw [if_neg g9]
    exact hgood 0 (Or.inl rfl) (Or.inr ⟨rfl, g9⟩)
