/-! all edges of a stock -/
def hiM (S T R V : Int → Int) (n st tr : Int) (k : Nat) (u v : Int) : Int := if 0 ≤ plc n u v then 100000 else if v = 6 ∧ u < n then (if fH S T R V u st 1000 k < fL S T R V u st k then fL S T R V u st k else fH S T R V u st 1000 k) else if u = 6 ∧ v = 5 then (if fH S T R V 8 st 100000 k - tr < mx0 (fL S T R V 8 st k - tr) then mx0 (fL S T R V 8 st k - tr) else fH S T R V 8 st 100000 k - tr) else 0
def coE (mv : Int → Int) (g b n u v : Int) : Int := if 0 ≤ plc n u v then cst mv g b u v else 0
def exP (n : Int) (st : Int → Int) (LO : Int → Int → Int) (p w : Int) : Int := if w < p then st w - LO w 6 else if w = 5 then -sm st 0 p.toNat else if w = 6 then sm (fun i => LO i 6) 0 p.toNat else 0
theorem LEM_fr {n c : Int} {st : Int → Int} {CO LO HI : Int → Int → Int} {μ μ' : q_M} (h : LEM n st CO LO HI c μ) (h0 : q_g μ' 0 14 = q_g μ 0 14) (hf : ∀ k, 9 ≤ k → k ≤ 15 → q_g μ' k = q_g μ k) : LEM n st CO LO HI c μ' := by
  unfold LEM
  rw [h0, hf 9 (by omega) (by omega), hf 10 (by omega) (by omega), hf 11 (by omega) (by omega), hf 12 (by omega) (by omega), hf 13 (by omega) (by omega), hf 14 (by omega) (by omega), hf 15 (by omega) (by omega)]
  exact h
theorem exP_bd {n p w : Int} {st : Int → Int} {LO : Int → Int → Int} (hn : 2 ≤ n ∧ n ≤ 5) (hp : 0 ≤ p ∧ p ≤ n) (hs : ∀ i, 0 ≤ i → i < n → -11000 ≤ st i ∧ st i ≤ 11000) (hl : ∀ i, 0 ≤ i → i < n → 0 ≤ LO i 6 ∧ LO i 6 ≤ 9999) (hw : nd w) : -500000 ≤ exP n st LO p w ∧ exP n st LO p w ≤ 500000 := by
  have h1 := sm_bd (f := st) (a := -11000) (b := 11000) (d := p.toNat) (i := 0) (fun j a b => hs j a (by omega))
  have h2 := sm_bd (f := fun i => LO i 6) (a := 0) (b := 9999) (d := p.toNat) (i := 0) (fun j a b => hl j a (by omega))
  have w1 := hw.1
  unfold exP
  by_cases g : w < p
  · have a := hs w w1 (by omega)
    have b := hl w w1 (by omega)
    rw [if_pos g]; omega
  · rw [if_neg g]
    by_cases g5 : w = 5
    · rw [if_pos g5]; omega
    · rw [if_neg g5]
      by_cases g6 : w = 6
      · rw [if_pos g6]; omega
      · rw [if_neg g6]; omega
theorem layL131 {N : Nat} {n K c s tr g b : Int} {S T R V mv : Int → Int} {μ0 : q_M} {J : Int → q_M → Option (Int × q_M)} (hN : 1000 ≤ N) (hn : ni n) (hs : s = 0 ∨ s = 1) (hB : ruB n K S T R V) (hv : rv n (q_g μ0 1) c) (h6 : q_g μ0 0 6 = K) (h4 : q_g μ0 4 = S) (h5 : q_g μ0 5 = T) (h7 : q_g μ0 6 = R) (h8 : q_g μ0 7 = V) (hg : q_g μ0 0 12 = g) (hb : q_g μ0 0 13 = b) : ∀ (dd nf : Nat) (p x : Int) (μ : q_M), p + dd = n → 0 ≤ p → dd < nf → (x = 0 ∨ x = 1) → LEM n (fun p => sCut (q_g μ0 1) p s) (coE mv g b n) (loC S T R V n s tr K.toNat) (hiM S T R V n s tr K.toNat) (n * (n - 1) + 4 * p) μ → exMM μ (exP n (fun p => sCut (q_g μ0 1) p s) (loC S T R V n s tr K.toNat) p) → frL μ0 μ →
    ∃ x' μ', f_M_layEdges_L131 N s n (n * (n - 1)) J nf x p μ = J x' μ' ∧ ((x' = 1 ∧ x = 1 ∧ ∀ i, p ≤ i → i < n → fL S T R V i s K.toNat ≤ fH S T R V i s 1000 K.toNat) ∨ (x' = 0 ∧ ¬ (x = 1 ∧ ∀ i, p ≤ i → i < n → fL S T R V i s K.toNat ≤ fH S T R V i s 1000 K.toNat))) ∧ LEM n (fun p => sCut (q_g μ0 1) p s) (coE mv g b n) (loC S T R V n s tr K.toNat) (hiM S T R V n s tr K.toNat) (n * (n - 1) + 4 * n) μ' ∧ exMM μ' (exP n (fun p => sCut (q_g μ0 1) p s) (loC S T R V n s tr K.toNat) n) ∧ frL μ0 μ' := by
  have hq := q_rng hn
  have hK := hB.1
  have hst : ∀ i, 0 ≤ i → i < n → -11000 ≤ sCut (q_g μ0 1) i s ∧ sCut (q_g μ0 1) i s ≤ 11000 := fun i a c' => by
    have := sCut_bd (p := i) (s := s) hv a (by omega) (by omega) (by omega)
    omega
  have hlo : ∀ i, 0 ≤ i → i < n → 0 ≤ loC S T R V n s tr K.toNat i 6 ∧ loC S T R V n s tr K.toNat i 6 ≤ 9999 := fun i a c' => by
    rw [loC_p6 c']
    exact fL_bd hB K.toNat (by omega)
  intro dd
  induction dd with
  | zero =>
    intro nf p x μ h1 h2 h3 hx hL hE hf
    obtain ⟨nf, rfl⟩ : ∃ m, nf = m + 1 := ⟨nf - 1, by omega⟩
    obtain rfl : p = n := by omega
    refine ⟨x, μ, by rw [f_M_layEdges_L131, if_pos (by omega)], ?_, hL, hE, hf⟩
    rcases hx with rfl | rfl
    · exact Or.inr ⟨rfl, fun q => absurd q.1 (by decide)⟩
    · exact Or.inl ⟨rfl, rfl, fun i a c' => by omega⟩
  | succ dd ih =>
    intro nf p x μ h1 h2 h3 hx hL hE hf
    obtain ⟨nf, rfl⟩ : ∃ m, nf = m + 1 := ⟨nf - 1, by omega⟩
    have dp : nd p := ⟨h2, by omega⟩
    have d5 : nd 5 := ⟨by decide, by decide⟩
    have d6 : nd 6 := ⟨by decide, by decide⟩
    have pn : p < n := by omega
    have hsp : sw p = p := sw_lt (by omega)
    have hv' : rv n (q_g μ 1) c := by rw [hf.1 1 (by omega) (by omega)]; exact hv
    have hEb := fun w hw => exP_bd (n := n) (p := p) (w := w) (st := fun p => sCut (q_g μ0 1) p s) (LO := loC S T R V n s tr K.toNat) ⟨hq.1, hq.2.1⟩ ⟨h2, by omega⟩ hst hlo hw
    obtain ⟨μ1, a1, a2, a3, a4, a5⟩ := z_findBounds (N := N) (subj := p) (st := s) (most := 1000) (μ := μ) hN hB (by decide) (by rw [hf.2 6 (by decide) (by decide) (by decide)]; exact h6) (by rw [hf.1 4 (by omega) (by omega)]; exact h4) (by rw [hf.1 5 (by omega) (by omega)]; exact h5) (by rw [hf.1 6 (by omega) (by omega)]; exact h7) (by rw [hf.1 7 (by omega) (by omega)]; exact h8)
    have hL1 := LEM_fr (μ' := μ1) hL (a3 14 (by decide) (by decide)) (fun k k1 k2 => a2 k (by omega))
    have hE1 : exMM μ1 (exP n (fun p => sCut (q_g μ0 1) p s) (loC S T R V n s tr K.toNat) p) := fun w hw => by rw [a2 16 (by omega)]; exact hE w hw
    have hf1 : frL μ0 μ1 := frL_tr hf ⟨fun k k0 _ => a2 k k0, fun j _ j1 j2 => a3 j j1 j2⟩
    rw [f_M_layEdges_L131, if_neg (by omega), z_stockThen hN hv' h2 (by omega) (by omega) (by omega), z_b, a1, z_b, hf.1 1 (by omega) (by omega)]
    simp only [z_jn]
    -- the four edges
    have hsb := hst p h2 pn
    have hlb := hlo p h2 pn
    obtain ⟨μ2, b1, b2, b3, b4, b5, b6⟩ := LE_f (p := p) hn hL1 hE1 hEb h2 pn rfl (by omega)
    have e5p : ei n 5 p = n * (n - 1) + 4 * p + 1 := by
      unfold ei
      rw [if_neg (by omega), if_pos ⟨rfl, pn⟩]
    have ep5 : ei n p 5 = n * (n - 1) + 4 * p + 2 := by
      unfold ei
      rw [if_neg (by omega), if_neg (by omega), if_pos ⟨rfl, pn⟩]
    have ep6 : ei n p 6 = n * (n - 1) + 4 * p + 3 := by
      unfold ei
      rw [if_neg (by omega), if_neg (by omega), if_neg (by omega), if_pos ⟨rfl, pn⟩]
    have p5p := plc_gr hn pn
    have pp5 := plc_bn hn pn
    have pp6 := (plc6 hn dp).1
    have lo5p : loC S T R V n s tr K.toNat 5 p = 0 := by
      unfold loC
      rw [if_neg (by omega), if_neg (by omega)]
    have lop5 : loC S T R V n s tr K.toNat p 5 = 0 := by
      unfold loC
      rw [if_neg (by omega), if_neg (by omega)]
    have hi5p : hiM S T R V n s tr K.toNat 5 p = 100000 := by
      unfold hiM
      rw [if_pos (by rw [p5p]; omega)]
    have hip5 : hiM S T R V n s tr K.toNat p 5 = 100000 := by
      unfold hiM
      rw [if_pos (by rw [pp5]; omega)]
    have hip6 : hiM S T R V n s tr K.toNat p 6 = (if fH S T R V p s 1000 K.toNat < fL S T R V p s K.toNat then fL S T R V p s K.toNat else fH S T R V p s 1000 K.toNat) := by
      unfold hiM
      rw [if_neg (by rw [pp6]; decide), if_pos ⟨rfl, pn⟩]
    have co5p : coE mv g b n 5 p = g := by
      unfold coE cst
      rw [if_pos (by rw [p5p]; omega), if_pos rfl]
    have cop5 : coE mv g b n p 5 = b := by
      unfold coE cst
      rw [if_pos (by rw [pp5]; omega), if_neg (by omega), if_pos rfl]
    have cop6 : coE mv g b n p 6 = 0 := by
      unfold coE
      rw [if_neg (by rw [pp6]; decide)]
    have hE2b : ∀ w, nd w → -500000 ≤ (exP n (fun p => sCut (q_g μ0 1) p s) (loC S T R V n s tr K.toNat) p w + (if w = p then sCut (q_g μ0 1) p s else 0) - (if w = 5 then sCut (q_g μ0 1) p s else 0)) ∧ (exP n (fun p => sCut (q_g μ0 1) p s) (loC S T R V n s tr K.toNat) p w + (if w = p then sCut (q_g μ0 1) p s else 0) - (if w = 5 then sCut (q_g μ0 1) p s else 0)) ≤ 500000 := by
      intro w hw
      have w1 := hw.1
      have h1' := sm_bd (f := fun p => sCut (q_g μ0 1) p s) (a := -11000) (b := 11000) (d := p.toNat) (i := 0) (fun j a b => hst j a (by omega))
      have h2' := sm_bd (f := fun i => loC S T R V n s tr K.toNat i 6) (a := 0) (b := 9999) (d := p.toNat) (i := 0) (fun j a b => hlo j a (by omega))
      unfold exP
      by_cases g1 : w < p
      · have := hst w w1 (by omega)
        have := hlo w w1 (by omega)
        show -500000 ≤ (if w < p then sCut (q_g μ0 1) w s - loC S T R V n s tr K.toNat w 6 else if w = 5 then -sm (fun p => sCut (q_g μ0 1) p s) 0 p.toNat else if w = 6 then sm (fun i => loC S T R V n s tr K.toNat i 6) 0 p.toNat else 0) + (if w = p then sCut (q_g μ0 1) p s else 0) - (if w = 5 then sCut (q_g μ0 1) p s else 0) ∧ (if w < p then sCut (q_g μ0 1) w s - loC S T R V n s tr K.toNat w 6 else if w = 5 then -sm (fun p => sCut (q_g μ0 1) p s) 0 p.toNat else if w = 6 then sm (fun i => loC S T R V n s tr K.toNat i 6) 0 p.toNat else 0) + (if w = p then sCut (q_g μ0 1) p s else 0) - (if w = 5 then sCut (q_g μ0 1) p s else 0) ≤ 500000
        rw [if_pos g1, if_neg (by omega), if_neg (by omega)]; omega
      · rw [if_neg g1]
        by_cases g2 : w = p
        · rw [if_neg (by omega), if_neg (by omega), if_pos g2, if_neg (by omega)]; omega
        · rw [if_neg g2]
          by_cases g5 : w = 5
          · rw [if_pos g5, if_pos g5]; omega
          · rw [if_neg g5, if_neg g5]
            by_cases g6 : w = 6
            · rw [if_pos g6]; omega
            · rw [if_neg g6]; omega
    obtain ⟨μ3, c1, c2, c3, c4, c5, c6⟩ := LE_p (u := 5) (v := p) (a := 6) (b := p) (l := 0) (h := 100000) (co := g) (p := n * (n - 1) + p) hn b2 b3 hE2b d5 dp (by omega) e5p (by omega) rfl hsp.symm lo5p.symm hi5p.symm co5p.symm p5p.symm (by decide)
    have c3' := exMM_0 c3 rfl
    obtain ⟨μ4, d1, d2, d3, d4, d5', d6'⟩ := LE_p (u := p) (v := 5) (a := p) (b := 6) (l := 0) (h := 100000) (co := b) (p := n * (n - 1) + n + p) hn c2 c3' hE2b dp d5 (by omega) (by rw [ep5]; omega) (by omega) hsp.symm rfl lop5.symm hip5.symm cop5.symm pp5.symm (by decide)
    have d3' := exMM_0 d3 rfl
    have lop6 := loC_p6 (S := S) (T := T) (R := R) (V := V) (st := s) (tr := tr) (k := K.toNat) pn
    rw [lop6] at hlb
    obtain ⟨μ5, f1, f2, f3, f4, f5, f6⟩ := LE_p (u := p) (v := 6) (a := p) (b := 5) (l := fL S T R V p s K.toNat) (h := if fH S T R V p s 1000 K.toNat < fL S T R V p s K.toNat then fL S T R V p s K.toNat else fH S T R V p s 1000 K.toNat) (co := 0) (p := -1) hn d2 d3' hE2b dp d6 (by omega) (by rw [ep6]; omega) (by omega) hsp.symm rfl lop6.symm hip6.symm cop6.symm pp6.symm (by omega)
    have frs := frL_tr (frL_tr (frL_tr (frL_tr hf1 b4) c4) d4) f4
    have hg2 : q_g μ2 0 12 = g := by rw [(frL_tr hf1 b4).2 12 (by decide) (by decide) (by decide)]; exact hg
    have hb3 : q_g μ3 0 13 = b := by rw [(frL_tr (frL_tr hf1 b4) c4).2 13 (by decide) (by decide) (by decide)]; exact hb
    have l4 : q_g μ4 0 23 = fL S T R V p s K.toNat := by rw [d5', c5, b5, a4]
    have h4' : q_g μ4 0 24 = fH S T R V p s 1000 K.toNat := by rw [d6', c6, b6, a5]
    have hE5 : exMM μ5 (exP n (fun p => sCut (q_g μ0 1) p s) (loC S T R V n s tr K.toNat) (p + 1)) := by
      intro w hw
      rw [f3 w hw]
      have w1 := hw.1
      have hp1 : (p + 1).toNat = p.toNat + 1 := by omega
      show exP n (fun p => sCut (q_g μ0 1) p s) (loC S T R V n s tr K.toNat) p w + (if w = p then sCut (q_g μ0 1) p s else 0) - (if w = 5 then sCut (q_g μ0 1) p s else 0) + (if w = 6 then fL S T R V p s K.toNat else 0) - (if w = p then fL S T R V p s K.toNat else 0) = exP n (fun p => sCut (q_g μ0 1) p s) (loC S T R V n s tr K.toNat) (p + 1) w
      unfold exP
      rw [hp1, sm_last, sm_last, Int.zero_add, Int.toNat_of_nonneg h2, lop6]
      by_cases g1 : w < p
      · simp only [if_pos g1, if_neg (show ¬ w = p by omega), if_neg (show ¬ w = 5 by omega), if_neg (show ¬ w = 6 by omega), if_pos (show w < p + 1 by omega)]
        omega
      · by_cases g2 : w = p
        · simp only [if_neg g1, if_pos g2, if_neg (show ¬ w = 5 by omega), if_neg (show ¬ w = 6 by omega), if_pos (show w < p + 1 by omega)]
          rw [g2, lop6]
          omega
        · by_cases g5 : w = 5
          · simp only [if_neg g1, if_neg g2, if_pos g5, if_neg (show ¬ w = 6 by omega), if_neg (show ¬ w < p + 1 by omega)]
            omega
          · by_cases g6 : w = 6
            · simp only [if_neg g1, if_neg g2, if_neg g5, if_pos g6, if_neg (show ¬ w < p + 1 by omega)]
              omega
            · simp only [if_neg g1, if_neg g2, if_neg g5, if_neg g6, if_neg (show ¬ w < p + 1 by omega)]
              omega
    have cont : ∀ y, (y = 0 ∨ y = 1) → ((y = 1 ∧ x = 1 ∧ fL S T R V p s K.toNat ≤ fH S T R V p s 1000 K.toNat) ∨ (y = 0 ∧ ¬ (x = 1 ∧ fL S T R V p s K.toNat ≤ fH S T R V p s 1000 K.toNat))) → ∃ x' μ', (q_b (f_M_edge 6 p (sCut (q_g μ0 1) p s) (sCut (q_g μ0 1) p s) 0 (-1) μ1) fun μ51 => q_fl μ51 0 12 fun x52 => q_ck (n * (n - 1) + p) fun x53 => q_b (f_M_edge 6 p 0 100000 x52 x53 μ51) fun μ55 => q_fl μ55 0 13 fun x56 => q_ck (n * (n - 1) + n) fun x57 => q_ck (x57 + p) fun x58 => q_b (f_M_edge p 6 0 100000 x56 x58 μ55) fun μ60 => q_fl μ60 0 23 fun x61 => q_fl μ60 0 23 fun x62 => q_fl μ60 0 24 fun x63 => if x63 < x62 then q_fl μ60 0 23 fun x68 => q_b (f_M_edge p 5 x61 x68 0 (-1) μ60) fun μ66 => q_ck (p + 1) fun x67 => f_M_layEdges_L131 N s n (n * (n - 1)) J nf y x67 μ66 else q_fl μ60 0 24 fun x69 => q_b (f_M_edge p 5 x61 x69 0 (-1) μ60) fun μ66 => q_ck (p + 1) fun x67 => f_M_layEdges_L131 N s n (n * (n - 1)) J nf y x67 μ66) = J x' μ' ∧ ((x' = 1 ∧ x = 1 ∧ ∀ i, p ≤ i → i < n → fL S T R V i s K.toNat ≤ fH S T R V i s 1000 K.toNat) ∨ (x' = 0 ∧ ¬ (x = 1 ∧ ∀ i, p ≤ i → i < n → fL S T R V i s K.toNat ≤ fH S T R V i s 1000 K.toNat))) ∧ LEM n (fun p => sCut (q_g μ0 1) p s) (coE mv g b n) (loC S T R V n s tr K.toNat) (hiM S T R V n s tr K.toNat) (n * (n - 1) + 4 * n) μ' ∧ exMM μ' (exP n (fun p => sCut (q_g μ0 1) p s) (loC S T R V n s tr K.toNat) n) ∧ frL μ0 μ' := by
      intro y hy hyx
      obtain ⟨x', μ', k1, k2, k3, k4, k5⟩ := ih nf (p + 1) y μ5 (by omega) (by omega) (by omega) hy (by rw [show n * (n - 1) + 4 * (p + 1) = n * (n - 1) + 4 * p + 1 + 1 + 1 + 1 by omega]; exact f2) hE5 frs
      refine ⟨x', μ', ?_, ?_, k3, k4, k5⟩
      · rw [b1, z_b, z_fl, Int.cast_ofNat_Int, hg2, z_ck (by omega) (by omega), c1, z_b, z_fl, Int.cast_ofNat_Int, hb3, z_ck (by omega) (by omega), z_ck (by omega) (by omega), d1, z_b, z_fl, Int.cast_ofNat_Int, l4, z_fl, Int.cast_ofNat_Int, l4, z_fl, Int.cast_ofNat_Int, h4']
        by_cases gg : fH S T R V p s 1000 K.toNat < fL S T R V p s K.toNat
        · rw [if_pos gg] at f1 ⊢
          rw [z_fl, Int.cast_ofNat_Int, l4, f1, z_b, z_ck (by omega) (by omega)]
          exact k1
        · rw [if_neg gg] at f1 ⊢
          rw [z_fl, Int.cast_ofNat_Int, h4', f1, z_b, z_ck (by omega) (by omega)]
          exact k1
      · have sp : (∀ i, p ≤ i → i < n → fL S T R V i s K.toNat ≤ fH S T R V i s 1000 K.toNat) ↔ (fL S T R V p s K.toNat ≤ fH S T R V p s 1000 K.toNat ∧ ∀ i, p + 1 ≤ i → i < n → fL S T R V i s K.toNat ≤ fH S T R V i s 1000 K.toNat) := by
          constructor
          · intro h
            exact ⟨h p (Int.le_refl _) pn, fun i a c' => h i (by omega) c'⟩
          · intro h i a c'
            by_cases e : i = p
            · rw [e]; exact h.1
            · exact h.2 i (by omega) c'
        rw [sp]
        rcases k2 with ⟨e1, e2, e3⟩ | ⟨e1, e2⟩
        · rcases hyx with ⟨-, q1, q2⟩ | ⟨q0, -⟩
          · exact Or.inl ⟨e1, q1, q2, e3⟩
          · omega
        · refine Or.inr ⟨e1, fun q => e2 ⟨?_, q.2.2⟩⟩
          rcases hyx with ⟨q0, -⟩ | ⟨-, q1⟩
          · exact q0
          · exact absurd ⟨q.1, q.2.1⟩ q1
    rcases hx with rfl | rfl
    · rw [if_pos rfl]
      exact cont 0 (Or.inl rfl) (Or.inr ⟨rfl, fun q => absurd q.1 (by decide)⟩)
    · rw [if_neg (by decide), z_fl, Int.cast_ofNat_Int, a4, z_fl, Int.cast_ofNat_Int, a5]
      by_cases gg : fH S T R V p s 1000 K.toNat < fL S T R V p s K.toNat
      · rw [if_pos gg]
        exact cont 0 (Or.inl rfl) (Or.inr ⟨rfl, fun q => by omega⟩)
      · rw [if_neg gg]
        exact cont 1 (Or.inr rfl) (Or.inl ⟨rfl, rfl, by omega⟩)
