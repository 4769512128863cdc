/-! the class's findRepair -/
def feas (S T R V : Int → Int) (n K : Int) (tr : Int → Int) (s : Int) : Prop := (fL S T R V 9 s K.toNat ≤ tr s ∧ tr s ≤ fH S T R V 9 s 100000 K.toNat) ∧ cbl (loC S T R V n s (tr s) K.toNat) (hiC S T R V n s (tr s) K.toNat)
def loaded (S T R V : Int → Int) (mv : Int → Int) (g b n K : Int) (f : Int → Int → Int) (tr : Int → Int) (s : Int) (μ : q_M) : Prop := (∀ u v, nd u → nd v → q_g μ (flo s + 1) (u * 7 + v) = ldX (loC S T R V n s (tr s) K.toNat) (hiC S T R V n s (tr s) K.toNat) n (fun p => f p s) u v ∧ q_g μ (flo s + 2) (u * 7 + v) = loC S T R V n s (tr s) K.toNat u v ∧ q_g μ (flo s + 3) (u * 7 + v) = hiC S T R V n s (tr s) K.toNat u v ∧ q_g μ (flo s + 4) (u * 7 + v) = prM mv g b n u v) ∧ exM (flo s) μ (fun v => ijv n (fun p => f p s) v + nt (ldX (loC S T R V n s (tr s) K.toNat) (hiC S T R V n s (tr s) K.toNat) n (fun p => f p s)) v)
theorem flo_in {s : Int} (hs : s = 0 ∨ s = 1) : (s = 0 ∧ flo s = 61) ∨ (s = 1 ∧ flo s = 69) := by
  rcases hs with rfl | rfl
  · exact Or.inl ⟨rfl, rfl⟩
  · exact Or.inr ⟨rfl, rfl⟩
theorem coM_of {mv : Int → Int} {g b : Int} {μ μ' : q_M} (h : coM mv g b μ) (hf : ∀ k, k < 59 → q_g μ' k = q_g μ k) : coM mv g b μ' := by
  unfold coM
  rw [hf 54 (by omega), hf 55 (by omega)]
  exact h
theorem lay_one {N nf : Nat} {S T R V : Int → Int} {mv : Int → Int} {g b n K s : Int} {f : Int → Int → Int} {tr : Int → Int} {μ : q_M} {k48 k69 : q_M → Option (Int × q_M)} (hN : 1000 ≤ N) (hs : s = 0 ∨ s = 1) (hb : stB n f tr) (hB : ruB n K S T R V) (hm : stM μ n f tr) (hr : ruC K S T R V μ) (hco : coM mv g b μ) :
    ∃ μ', (∀ k, k < flo s + 1 ∨ flo s + 5 < k → q_g μ' k = q_g μ k) ∧ ((feas S T R V n K tr s ∧ f_Re_layOut_L3 N k48 k69 (nf + 1) s μ = f_Re_layOut_L3 N k48 k69 nf (s + 1) μ' ∧ loaded S T R V mv g b n K f tr s μ') ∨ (¬ feas S T R V n K tr s ∧ f_Re_layOut_L3 N k48 k69 (nf + 1) s μ = k48 μ')) := by
  have hn := ni_of hb.1
  have h5 := hb.1
  have hfl := flo_in hs
  have htr := hb.2.2 s (by omega) (by omega)
  rw [f_Re_layOut_L3, if_neg (by omega), q_ao_flo hs, z_fl, Int.cast_ofNat_Int, hm.1]
  obtain ⟨μ1, a1, a2, a3, a4⟩ := z_FlayOut (N := N) (o := flo s) (S := S) (T := T) (R := R) (V := V) (st := s) (tr := tr s) hN (by omega) hn htr hco
  have hm1 : stM μ1 n f tr := stM_fr hm (fun k k1 k2 => a2 k (by omega))
  have hr1 : ruC K S T R V μ1 := ruC_fr hr (fun k k1 k2 => a2 k (by omega))
  rw [a1, z_b]
  obtain ⟨x, μ2, b1, b2, b3⟩ := z_obey (st := s) hN hs hb hB hm1 hr1 a3
  rw [b1, z_b2]
  have f2 : ∀ k, k < flo s + 1 ∨ flo s + 5 < k → q_g μ2 k = q_g μ k := fun k hk => by rw [b2 k (by omega) (by omega), a2 k hk]
  rcases b3 with ⟨rfl, c1, c2⟩ | ⟨rfl, c2⟩
  · rw [if_neg (by decide), q_ao_flo hs]
    have hl := lhB_C (S := S) (T := T) (R := R) (V := V) (K := K) (st := s) (tr := tr s) hn hB htr
    obtain ⟨y, d1, d2⟩ := z_canBalance (N := N) (o := flo s) hN c1 hl.1
    rw [d1, z_b]
    rcases d2 with ⟨rfl, d2⟩ | ⟨rfl, d2⟩
    · rw [if_neg (by decide), q_ao_flo hs]
      have hm2 : stM μ2 n f tr := stM_fr hm (fun k k1 k2 => f2 k (by omega))
      obtain ⟨μ3, e1, e2, e3, e4⟩ := z_load (N := N) (o := flo s) (s := s) (LO := loC S T R V n s (tr s) K.toNat) (HI := hiC S T R V n s (tr s) K.toNat) (f := f) hN (by omega) hn (by omega) hb hl d2 hm2 c1 (fun u v hu hv => by
        rw [b2 _ (by omega) (by omega), b2 _ (by omega) (by omega)]
        have := a4 u v hu hv
        exact ⟨this.1, this.2.2⟩)
      rw [e1, z_b, z_ck (by omega) (by omega)]
      refine ⟨μ3, fun k hk => by rw [e2 k (by omega) (by omega), f2 k hk], Or.inl ⟨⟨c2, d2⟩, rfl, fun u v hu hv => ⟨e3 u v hu hv, ?_, ?_, ?_⟩, e4⟩⟩
      · rw [e2 _ (by omega) (by omega)]
        exact (c1 u v hu hv).1
      · rw [e2 _ (by omega) (by omega)]
        exact (c1 u v hu hv).2
      · rw [e2 _ (by omega) (by omega), b2 _ (by omega) (by omega)]
        exact (a4 u v hu hv).2.1
    · rw [if_pos rfl]
      exact ⟨μ2, f2, Or.inr ⟨fun h => d2 h.2, rfl⟩⟩
  · rw [if_pos rfl]
    exact ⟨μ2, f2, Or.inr ⟨fun h => c2 h.1, rfl⟩⟩
/-- both stocks' best flows stand in the class -/
def bestC (S T R V : Int → Int) (mv : Int → Int) (g b n K : Int) (f : Int → Int → Int) (tr : Int → Int) (s : Int) (μ : q_M) : Prop := ∃ X pi, cM (flo s) μ (loC S T R V n s (tr s) K.toNat) (hiC S T R V n s (tr s) K.toNat) (prM mv g b n) X ∧ bst n (fun p => f p s) (loC S T R V n s (tr s) K.toNat) (hiC S T R V n s (tr s) K.toNat) (prM mv g b n) X pi
theorem z_findRepairC {N : Nat} {S T R V : Int → Int} {mv : Int → Int} {g b n K c : Int} {w : Int → Int} {μ : q_M} (hN : 200000 ≤ N) (hrr : rr_C 1 n μ w) (hv : rv n w c) (hB : ruB n K S T R V) (hr : ruC K S T R V μ) (hco : coM mv g b μ) :
    ∃ x μ', f_CR_findRepair N μ = some (x, μ') ∧ (∀ k, k < 56 → q_g μ' k = q_g μ k) ∧ ((0 < nOrph w ∧ x = -100004) ∨ (nOrph w ≤ 0 ∧ ¬ (feas S T R V n K (trN (tran w) w) 0 ∧ feas S T R V n K (trN (tran w) w) 1) ∧ x = -100006) ∨ (nOrph w ≤ 0 ∧ (feas S T R V n K (trN (tran w) w) 0 ∧ feas S T R V n K (trN (tran w) w) 1) ∧ x = 0 ∧ bestC S T R V mv g b n K (sCut w) (trN (tran w) w) 0 μ' ∧ bestC S T R V mv g b n K (sCut w) (trN (tran w) w) 1 μ')) := by
  obtain ⟨M, rfl⟩ : ∃ m, N = m + 3 := ⟨N - 3, by omega⟩
  unfold f_CR_findRepair
  rw [z_countOrphans (by omega) hrr hv, z_b]
  by_cases go : nOrph w ≤ 0
  · rw [if_pos go]
    obtain ⟨μ1, a1, a2, a3⟩ := z_readCut (N := M + 3) (by omega) (by omega) hrr hv
    have hb := stB_cut hv
    have hn := ni_of hb.1
    rw [a1, z_b]
    unfold f_Re_layOut
    have hr1 : ruC K S T R V μ1 := ruC_fr hr (fun k k1 k2 => a2 k (by omega))
    have hco1 : coM mv g b μ1 := by
      unfold coM
      rw [a2 54 (by omega), a2 55 (by omega)]
      exact hco
    obtain ⟨μ2, b1, b2⟩ := lay_one (N := M + 3) (nf := M + 2) (s := 0) (k48 := fun μ3 => some (0, μ3)) (k69 := fun μ4 => some (1, μ4)) (by omega) (Or.inl rfl) hb hB a3 hr1 hco1
    have e0 : flo 0 = 61 := rfl
    have e1 : flo 1 = 69 := rfl
    rw [e0] at b1
    rcases b2 with ⟨b3, b4, b5⟩ | ⟨b3, b4⟩
    · rw [b4, show (0 : Int) + 1 = 1 from rfl]
      obtain ⟨μ3, c1, c2⟩ := lay_one (N := M + 3) (nf := M + 1) (s := 1) (k48 := fun μ3 => some (0, μ3)) (k69 := fun μ4 => some (1, μ4)) (by omega) (Or.inr rfl) hb hB (stM_fr a3 (fun k k1 k2 => b1 k (by omega))) (ruC_fr hr1 (fun k k1 k2 => b1 k (by omega))) (coM_of hco1 (fun k hk => b1 k (by omega)))
      rw [e1] at c1
      rcases c2 with ⟨c3, c4, c5⟩ | ⟨c3, c4⟩
      · rw [c4, f_Re_layOut_L3, if_pos (by decide), z_b2, if_neg (by decide)]
        have ld0 : loaded S T R V mv g b n K (sCut w) (trN (tran w) w) 0 μ3 := by
          obtain ⟨p1, p2⟩ := b5
          refine ⟨fun u v hu hv => ?_, fun v hv => ?_⟩
          · rw [c1 _ (by omega), c1 _ (by omega), c1 _ (by omega), c1 _ (by omega)]
            exact p1 u v hu hv
          · rw [c1 _ (by omega)]
            exact p2 v hv
        have htr0 := hb.2.2 0 (by decide) (by decide)
        have htr1 := hb.2.2 1 (by decide) (by decide)
        obtain ⟨μ4, X0, pi0, d1, d2, d3, d4⟩ := z_bestC (N := M + 3) (o := flo 0) (s := 0) (LO := loC S T R V n 0 (trN (tran w) w 0) K.toNat) (HI := hiC S T R V n 0 (trN (tran w) w 0) K.toNat) (f := sCut w) (tr := trN (tran w) w) (μ := μ3) (μc := μ) hN hn (by decide) hb hco (lhB_C hn hB htr0) b3.2 ld0.1 ld0.2
        rw [e0] at d1 d2
        obtain ⟨μ5, X1, pi1, f1, f2, f3, f4⟩ := z_bestC (N := M + 3) (o := flo 1) (s := 1) (LO := loC S T R V n 1 (trN (tran w) w 1) K.toNat) (HI := hiC S T R V n 1 (trN (tran w) w 1) K.toNat) (f := sCut w) (tr := trN (tran w) w) (μ := μ4) (μc := μ) hN hn (by decide) hb hco (lhB_C hn hB htr1) c3.2 (fun u v hu hv => by
          rw [e1, d2 _ (by omega) (by omega) (by omega) (by omega), d2 _ (by omega) (by omega) (by omega) (by omega), d2 _ (by omega) (by omega) (by omega) (by omega), d2 _ (by omega) (by omega) (by omega) (by omega)]
          exact c5.1 u v hu hv) (fun v hv => by
          rw [e1, d2 _ (by omega) (by omega) (by omega) (by omega)]
          exact c5.2 v hv)
        rw [e1] at f1 f2
        rw [f_CR_findRepair_L62, if_neg (by decide), q_ao_flo (Or.inl rfl), e0, d1, z_b, z_ck (by decide) (by decide), f_CR_findRepair_L62, if_neg (by decide), show (0 : Int) + 1 = 1 from rfl, q_ao_flo (Or.inr rfl), e1, f1, z_b, z_ck (by decide) (by decide), f_CR_findRepair_L62, if_pos (by decide)]
        refine ⟨0, μ5, rfl, fun k hk => by rw [f2 k (by omega) (by omega) (by omega) (by omega), d2 k (by omega) (by omega) (by omega) (by omega), c1 k (by omega), b1 k (by omega), a2 k (by omega)], Or.inr (Or.inr ⟨go, ⟨b3, c3⟩, rfl, ⟨X0, pi0, ?_, d4⟩, X1, pi1, f3, f4⟩)⟩
        intro u v hu hv
        rw [e0, f2 _ (by omega) (by omega) (by omega) (by omega), f2 _ (by omega) (by omega) (by omega) (by omega), f2 _ (by omega) (by omega) (by omega) (by omega), f2 _ (by omega) (by omega) (by omega) (by omega)]
        exact d3 u v hu hv
      · rw [c4, z_b2, if_pos rfl]
        exact ⟨_, μ3, rfl, fun k hk => by rw [c1 k (by omega), b1 k (by omega), a2 k (by omega)], Or.inr (Or.inl ⟨go, fun h => c3 h.2, rfl⟩)⟩
    · rw [b4, z_b2, if_pos rfl]
      exact ⟨_, μ2, rfl, fun k hk => by rw [b1 k (by omega), a2 k (by omega)], Or.inr (Or.inl ⟨go, fun h => b3 h.1, rfl⟩)⟩
  · rw [if_neg go]
    exact ⟨_, μ, rfl, fun _ _ => rfl, Or.inl ⟨by omega, rfl⟩⟩
