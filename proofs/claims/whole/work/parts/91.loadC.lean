/-! the class's flow: from its load to its best -/
def ldX (LO HI : Int → Int → Int) (n : Int) (f : Int → Int) (u v : Int) : Int := if v = 6 ∧ u < n then clp (LO u 6) (HI u 6) (f u) else if u = 6 ∧ v = 5 then clp (LO 6 5) (HI 6 5) (kpt LO HI f n) else 0
def ijv (n : Int) (f : Int → Int) (v : Int) : Int := if v < n then f v else if v = 5 then -sm f 0 n.toNat else 0
theorem nt_k {X : Int → Int → Int} (h : ∀ u v, nd u → nd v → ¬ (v = 6 ∧ u < 5) → ¬ (u = 6 ∧ v = 5) → X u v = 0) : nt X 6 = X 0 6 + X 1 6 + X 2 6 + X 3 6 + X 4 6 - X 6 5 ∧ nt X 5 = X 6 5 ∧ ∀ p, 0 ≤ p → p < 5 → nt X p = -X p 6 := by
  have d : ∀ v : Int, 0 ≤ v → v < 7 → nd v := fun v a b => ⟨a, b⟩
  refine ⟨?_, ?_, fun p p0 p5 => ?_⟩
  · unfold nt
    simp only [sm, Int.zero_add, Int.reduceAdd, Int.add_zero]
    have a1 := h 6 0 (d 6 (by decide) (by decide)) (d 0 (by decide) (by decide)) (by omega) (by omega)
    have a2 := h 6 1 (d 6 (by decide) (by decide)) (d 1 (by decide) (by decide)) (by omega) (by omega)
    have a3 := h 6 2 (d 6 (by decide) (by decide)) (d 2 (by decide) (by decide)) (by omega) (by omega)
    have a4 := h 6 3 (d 6 (by decide) (by decide)) (d 3 (by decide) (by decide)) (by omega) (by omega)
    have a5 := h 6 4 (d 6 (by decide) (by decide)) (d 4 (by decide) (by decide)) (by omega) (by omega)
    have a6 := h 5 6 (d 5 (by decide) (by decide)) (d 6 (by decide) (by decide)) (by omega) (by omega)
    omega
  · unfold nt
    simp only [sm, Int.zero_add, Int.reduceAdd, Int.add_zero]
    have a1 := h 5 0 (d 5 (by decide) (by decide)) (d 0 (by decide) (by decide)) (by omega) (by omega)
    have a2 := h 5 1 (d 5 (by decide) (by decide)) (d 1 (by decide) (by decide)) (by omega) (by omega)
    have a3 := h 5 2 (d 5 (by decide) (by decide)) (d 2 (by decide) (by decide)) (by omega) (by omega)
    have a4 := h 5 3 (d 5 (by decide) (by decide)) (d 3 (by decide) (by decide)) (by omega) (by omega)
    have a5 := h 5 4 (d 5 (by decide) (by decide)) (d 4 (by decide) (by decide)) (by omega) (by omega)
    have a6 := h 5 6 (d 5 (by decide) (by decide)) (d 6 (by decide) (by decide)) (by omega) (by omega)
    have c1 := h 0 5 (d 0 (by decide) (by decide)) (d 5 (by decide) (by decide)) (by omega) (by omega)
    have c2 := h 1 5 (d 1 (by decide) (by decide)) (d 5 (by decide) (by decide)) (by omega) (by omega)
    have c3 := h 2 5 (d 2 (by decide) (by decide)) (d 5 (by decide) (by decide)) (by omega) (by omega)
    have c4 := h 3 5 (d 3 (by decide) (by decide)) (d 5 (by decide) (by decide)) (by omega) (by omega)
    have c5 := h 4 5 (d 4 (by decide) (by decide)) (d 5 (by decide) (by decide)) (by omega) (by omega)
    omega
  · have dp := d p p0 (by omega)
    unfold nt
    rw [sm_one (p := 6) (by decide) (by decide) (fun u u0 u7 hu => by
      have b1 := h u p ⟨u0, by omega⟩ dp (by omega) (by omega)
      have b2 := h p u dp ⟨u0, by omega⟩ (by omega) (by omega)
      omega)]
    have b1 := h 6 p (d 6 (by decide) (by decide)) dp (by omega) (by omega)
    omega
theorem ldX_0 {LO HI : Int → Int → Int} {n : Int} {f : Int → Int} {u v : Int} (h1 : ¬ (v = 6 ∧ u < n)) (h2 : ¬ (u = 6 ∧ v = 5)) : ldX LO HI n f u v = 0 := by
  unfold ldX
  rw [if_neg h1, if_neg h2]
theorem ldX_p {LO HI : Int → Int → Int} {n : Int} {f : Int → Int} {p : Int} (h1 : p < n) : ldX LO HI n f p 6 = clp (LO p 6) (HI p 6) (f p) := by
  unfold ldX
  rw [if_pos ⟨rfl, h1⟩]
theorem ldX_5 {LO HI : Int → Int → Int} {n : Int} {f : Int → Int} : ldX LO HI n f 6 5 = clp (LO 6 5) (HI 6 5) (kpt LO HI f n) := by
  unfold ldX
  rw [if_neg (fun h => absurd h.1 (by decide)), if_pos ⟨rfl, rfl⟩]
theorem kpt_X {LO HI : Int → Int → Int} {n : Int} {f : Int → Int} (hn : ni n) : kpt LO HI f n = ldX LO HI n f 0 6 + ldX LO HI n f 1 6 + ldX LO HI n f 2 6 + ldX LO HI n f 3 6 + ldX LO HI n f 4 6 := by
  unfold kpt
  have z : ∀ p : Int, ¬ p < n → p ≠ 6 → ldX LO HI n f p 6 = 0 := fun p h1 h2 => ldX_0 (fun h => h1 h.2) (fun h => h2 h.1)
  rcases hn with rfl | rfl | rfl | rfl
  · rw [ldX_p (p := 0) (by decide), ldX_p (p := 1) (by decide), z 2 (by decide) (by decide), z 3 (by decide) (by decide), z 4 (by decide) (by decide)]
    show clp (LO 0 6) (HI 0 6) (f 0) + (clp (LO (0 + 1) 6) (HI (0 + 1) 6) (f (0 + 1)) + 0) = _
    rw [show (0 : Int) + 1 = 1 from rfl]
    omega
  · rw [ldX_p (p := 0) (by decide), ldX_p (p := 1) (by decide), ldX_p (p := 2) (by decide), z 3 (by decide) (by decide), z 4 (by decide) (by decide)]
    show clp (LO 0 6) (HI 0 6) (f 0) + (clp (LO (0 + 1) 6) (HI (0 + 1) 6) (f (0 + 1)) + (clp (LO (0 + 1 + 1) 6) (HI (0 + 1 + 1) 6) (f (0 + 1 + 1)) + 0)) = _
    rw [show (0 : Int) + 1 + 1 = 2 from rfl, show (0 : Int) + 1 = 1 from rfl]
    omega
  · rw [ldX_p (p := 0) (by decide), ldX_p (p := 1) (by decide), ldX_p (p := 2) (by decide), ldX_p (p := 3) (by decide), z 4 (by decide) (by decide)]
    show clp (LO 0 6) (HI 0 6) (f 0) + (clp (LO (0 + 1) 6) (HI (0 + 1) 6) (f (0 + 1)) + (clp (LO (0 + 1 + 1) 6) (HI (0 + 1 + 1) 6) (f (0 + 1 + 1)) + (clp (LO (0 + 1 + 1 + 1) 6) (HI (0 + 1 + 1 + 1) 6) (f (0 + 1 + 1 + 1)) + 0))) = _
    rw [show (0 : Int) + 1 + 1 + 1 = 3 from rfl, show (0 : Int) + 1 + 1 = 2 from rfl, show (0 : Int) + 1 = 1 from rfl]
    omega
  · rw [ldX_p (p := 0) (by decide), ldX_p (p := 1) (by decide), ldX_p (p := 2) (by decide), ldX_p (p := 3) (by decide), ldX_p (p := 4) (by decide)]
    show clp (LO 0 6) (HI 0 6) (f 0) + (clp (LO (0 + 1) 6) (HI (0 + 1) 6) (f (0 + 1)) + (clp (LO (0 + 1 + 1) 6) (HI (0 + 1 + 1) 6) (f (0 + 1 + 1)) + (clp (LO (0 + 1 + 1 + 1) 6) (HI (0 + 1 + 1 + 1) 6) (f (0 + 1 + 1 + 1)) + (clp (LO (0 + 1 + 1 + 1 + 1) 6) (HI (0 + 1 + 1 + 1 + 1) 6) (f (0 + 1 + 1 + 1 + 1)) + 0)))) = _
    rw [show (0 : Int) + 1 + 1 + 1 + 1 = 4 from rfl, show (0 : Int) + 1 + 1 + 1 = 3 from rfl, show (0 : Int) + 1 + 1 = 2 from rfl, show (0 : Int) + 1 = 1 from rfl]
    omega
theorem ij_sum {n : Int} {f : Int → Int} (hn : ni n) : sm (ijv n f) 0 7 = 0 := by
  simp only [sm, Int.zero_add, Int.reduceAdd, Int.add_zero]
  unfold ijv
  rcases hn with rfl | rfl | rfl | rfl
  · have : sm f 0 (2 : Int).toNat = f 0 + f 1 := by
      show f 0 + (f (0 + 1) + 0) = _
      rw [show (0 : Int) + 1 = 1 from rfl]; omega
    rw [this]
    simp
    omega
  · have : sm f 0 (3 : Int).toNat = f 0 + f 1 + f 2 := by
      show f 0 + (f (0 + 1) + (f (0 + 1 + 1) + 0)) = _
      rw [show (0 : Int) + 1 + 1 = 2 from rfl, show (0 : Int) + 1 = 1 from rfl]; omega
    rw [this]
    simp
    omega
  · have : sm f 0 (4 : Int).toNat = f 0 + f 1 + f 2 + f 3 := by
      show f 0 + (f (0 + 1) + (f (0 + 1 + 1) + (f (0 + 1 + 1 + 1) + 0))) = _
      rw [show (0 : Int) + 1 + 1 + 1 = 3 from rfl, show (0 : Int) + 1 + 1 = 2 from rfl, show (0 : Int) + 1 = 1 from rfl]; omega
    rw [this]
    simp
    omega
  · have : sm f 0 (5 : Int).toNat = f 0 + f 1 + f 2 + f 3 + f 4 := by
      show f 0 + (f (0 + 1) + (f (0 + 1 + 1) + (f (0 + 1 + 1 + 1) + (f (0 + 1 + 1 + 1 + 1) + 0)))) = _
      rw [show (0 : Int) + 1 + 1 + 1 + 1 = 4 from rfl, show (0 : Int) + 1 + 1 + 1 = 3 from rfl, show (0 : Int) + 1 + 1 = 2 from rfl, show (0 : Int) + 1 = 1 from rfl]; omega
    rw [this]
    simp
    omega
/-- the bounds of a flow that can be balanced -/
def lhB (n : Int) (LO HI : Int → Int → Int) : Prop := (∀ u v, nd u → nd v → (0 ≤ LO u v ∧ LO u v ≤ 100000) ∧ -100000 ≤ HI u v ∧ HI u v ≤ 1000000) ∧ (∀ u v, nd u → nd v → 0 ≤ plc n u v → LO u v = 0 ∧ HI u v = 1000000) ∧ (∀ u v, nd u → nd v → plc n u v < 0 → ¬ (v = 6 ∧ u < n) → ¬ (u = 6 ∧ v = 5) → LO u v = 0 ∧ HI u v = 0) ∧ (∀ p, 0 ≤ p → p < n → HI p 6 ≤ 1000) ∧ LO 6 5 ≤ 9999 ∧ HI 6 5 ≤ 5000
theorem lhB_C {S T R V : Int → Int} {n K st tr : Int} (hn : ni n) (hB : ruB n K S T R V) (ht : 0 ≤ tr ∧ tr ≤ 51200) : lhB n (loC S T R V n st tr K.toNat) (hiC S T R V n st tr K.toNat) := by
  have h5 : 2 ≤ n ∧ n ≤ 5 := by rcases hn with rfl | rfl | rfl | rfl <;> decide
  have hK := hB.1
  have eL := fun q => fL_bd (subj := q) (st := st) hB K.toNat (by omega)
  have eH := fun q m (hm : 0 ≤ m) => fH_bd (subj := q) (st := st) (most := m) hB hm K.toNat (by omega)
  have l8 := eL 8
  have h8 := eH 8 100000 (by omega)
  have m0 : 0 ≤ mx0 (fL S T R V 8 st K.toNat - tr) ∧ mx0 (fL S T R V 8 st K.toNat - tr) ≤ 9999 := by
    unfold mx0
    by_cases q : fL S T R V 8 st K.toNat - tr < 0
    · rw [if_pos q]; omega
    · rw [if_neg q]; omega
  have mn : -51200 ≤ mnI (n * 1000) (fH S T R V 8 st 100000 K.toNat - tr) ∧ mnI (n * 1000) (fH S T R V 8 st 100000 K.toNat - tr) ≤ 5000 := by
    unfold mnI
    by_cases q : fH S T R V 8 st 100000 K.toNat - tr < n * 1000
    · rw [if_pos q]; omega
    · rw [if_neg q]; omega
  refine ⟨fun u v hu hv => ?_, fun u v hu hv hp => ?_, fun u v hu hv hp h1 h2 => ?_, fun p p0 pn => ?_, ?_, ?_⟩
  · refine ⟨?_, ?_⟩
    · unfold loC
      by_cases y1 : v = 6 ∧ u < n
      · rw [if_pos y1]
        have := eL u
        omega
      · rw [if_neg y1]
        by_cases y2 : u = 6 ∧ v = 5
        · rw [if_pos y2]; omega
        · rw [if_neg y2]; omega
    · unfold hiC
      by_cases y0 : 0 ≤ plc n u v
      · rw [if_pos y0]; omega
      · rw [if_neg y0]
        by_cases y1 : v = 6 ∧ u < n
        · rw [if_pos y1]
          have := eH u 1000 (by omega)
          omega
        · rw [if_neg y1]
          by_cases y2 : u = 6 ∧ v = 5
          · rw [if_pos y2]; omega
          · rw [if_neg y2]; omega
  · have d5 : nd 5 := ⟨by decide, by decide⟩
    have y1 : ¬ (v = 6 ∧ u < n) := fun h => by rw [h.1, (plc6 hn hu).1] at hp; exact absurd hp (by decide)
    have y2 : ¬ (u = 6 ∧ v = 5) := fun h => by rw [h.1, h.2, (plc6 hn d5).2] at hp; exact absurd hp (by decide)
    unfold loC hiC
    rw [if_neg y1, if_neg y2, if_pos hp]
    exact ⟨rfl, rfl⟩
  · unfold loC hiC
    rw [if_neg h1, if_neg h2, if_neg (by omega), if_neg h1, if_neg h2]
    exact ⟨rfl, rfl⟩
  · rw [hiC_p6 hn ⟨p0, by omega⟩ pn]
    exact (eH p 1000 (by omega)).2
  · rw [loC_65]; exact m0.2
  · rw [hiC_65 hn]; exact mn.2
theorem tp_k (e a b : Int) (h1 : -a ≤ e) (h2 : e ≤ b) (h3 : 0 ≤ a) (h4 : 0 ≤ b) : ∃ q : Int, (if 0 < e then e else 0) = q ∧ q ≤ b ∧ q - e ≤ a := by
  by_cases g : 0 < e
  · exact ⟨e, if_pos g, by omega, by omega⟩
  · exact ⟨0, if_neg g, by omega, by omega⟩
theorem tp_65 {ex : Int → Int} (h0 : sm ex 0 7 = 0) (hp : ∀ p, 0 ≤ p → p < 5 → -11000 ≤ ex p ∧ ex p ≤ 11000) (h6 : -9999 ≤ ex 6 ∧ ex 6 ≤ 5000) : tp ex ≤ 65000 := by
  unfold tp
  simp only [sm, Int.zero_add, Int.reduceAdd, Int.add_zero] at h0 ⊢
  have k := fun p a b => tp_k (ex p) 11000 11000 (hp p a b).1 (hp p a b).2 (by decide) (by decide)
  obtain ⟨q0, e0, x0, y0⟩ := k 0 (by decide) (by decide)
  obtain ⟨q1, e1, x1, y1⟩ := k 1 (by decide) (by decide)
  obtain ⟨q2, e2, x2, y2⟩ := k 2 (by decide) (by decide)
  obtain ⟨q3, e3, x3, y3⟩ := k 3 (by decide) (by decide)
  obtain ⟨q4, e4, x4, y4⟩ := k 4 (by decide) (by decide)
  obtain ⟨q6, e6, x6, y6⟩ := tp_k (ex 6) 9999 5000 h6.1 h6.2 (by decide) (by decide)
  rw [e0, e1, e2, e3, e4, e6]
  clear e0 e1 e2 e3 e4 e6 hp k h6
  by_cases g : 0 < ex 5
  · rw [if_pos g]
    have e : q0 + (q1 + (q2 + (q3 + (q4 + (ex 5 + q6))))) = (q0 - ex 0) + (q1 - ex 1) + (q2 - ex 2) + (q3 - ex 3) + (q4 - ex 4) + (q6 - ex 6) := by omega
    rw [e]
    clear h0 g e x0 x1 x2 x3 x4 x6
    omega
  · rw [if_neg g]
    clear h0 g y0 y1 y2 y3 y4 y6
    omega
theorem z_load {N o : Nat} {LO HI : Int → Int → Int} {n s : Int} {f : Int → Int → Int} {tr : Int → Int} {μ : q_M} (hN : 1000 ≤ N) (ho : 59 ≤ o) (hn : ni n) (hs : 0 ≤ s ∧ s ≤ 1) (hb : stB n f tr) (hl : lhB n LO HI) (hcb : cbl LO HI) (hm : stM μ n f tr) (h : ∀ u v, nd u → nd v → q_g μ (o + 2) (u * 7 + v) = LO u v ∧ q_g μ (o + 3) (u * 7 + v) = HI u v) (h0 : ∀ u v, nd u → nd v → q_g μ (o + 1) (u * 7 + v) = 0 ∧ q_g μ (o + 5) v = 0) :
    ∃ μ', f_Fl_load N o s μ = some μ' ∧ (∀ k, k ≠ o + 1 → k ≠ o + 5 → q_g μ' k = q_g μ k) ∧ (∀ u v, nd u → nd v → q_g μ' (o + 1) (u * 7 + v) = ldX LO HI n (fun p => f p s) u v) ∧ exM o μ' (fun v => ijv n (fun p => f p s) v + nt (ldX LO HI n (fun p => f p s)) v) := by
  have h5 : 2 ≤ n ∧ n ≤ 5 := by rcases hn with rfl | rfl | rfl | rfl <;> decide
  obtain ⟨l1, l2, l3, l4, l5, l6⟩ := hl
  have d6 : nd 6 := ⟨by decide, by decide⟩
  have d5 : nd 5 := ⟨by decide, by decide⟩
  have hlp : ∀ p, 0 ≤ p → p < n → (0 ≤ LO p 6 ∧ LO p 6 ≤ HI p 6 ∧ HI p 6 ≤ 1000) := fun p a b => by
    obtain ⟨⟨⟨c0, c1, c2, c3, c4⟩, -⟩, -⟩ := hcb
    refine ⟨(l1 p 6 ⟨a, by omega⟩ d6).1.1, ?_, l4 p a b⟩
    have : p = 0 ∨ p = 1 ∨ p = 2 ∨ p = 3 ∨ p = 4 := by omega
    rcases this with rfl | rfl | rfl | rfl | rfl <;> assumption
  unfold f_Fl_load
  obtain ⟨μ1, a1, a2, a3, a4⟩ := loadL8 (o := o) (K := fun x5 x6 μ7 => q_b (f_Fl_arc 6 5 μ7) fun x24 => q_b2 (f_Fl_fit o x24 x5 μ7) fun x26 μ27 => q_ck (x5 - x26) fun x28 => q_st μ27 (o + 5) 7 6 x28 fun μ29 => q_ck (x26 - x6) fun x30 => q_st μ29 (o + 5) 7 5 x30 fun μ31 => some μ31) ho hn hs hb hlp n.toNat N 0 μ (by omega) (by omega) (by omega) hm h
  have e0 : kpt LO HI (fun p => f p s) 0 = 0 := rfl
  rw [e0, show sm (fun p => f p s) 0 (0 : Int).toNat = 0 from rfl] at a1
  have hkb : 0 ≤ kpt LO HI (fun p => f p s) n ∧ kpt LO HI (fun p => f p s) n ≤ 5000 := by
    have := sm_bd (f := fun p => clp (LO p 6) (HI p 6) (f p s)) (a := 0) (b := 1000) (d := n.toNat) (i := 0) (fun j a b => by
      have c := hlp j a (by omega)
      have d := clp_bd (v := f j s) c.2.1
      omega)
    rw [show kpt LO HI (fun p => f p s) n = sm (fun p => clp (LO p 6) (HI p 6) (f p s)) 0 n.toNat from rfl]
    omega
  have hc5 := clp_bd (v := kpt LO HI (fun p => f p s) n) hcb.1.2
  have hl5 := l1 6 5 d6 d5
  have hsf := smf_bd hb hs n (by omega) (Int.le_refl _)
  have c5 : q_g μ1 (o + 2) (6 * 7 + 5) = LO 6 5 ∧ q_g μ1 (o + 3) (6 * 7 + 5) = HI 6 5 := by
    rw [a2 _ (by omega) (by omega), a2 _ (by omega) (by omega)]
    exact h 6 5 d6 d5
  rw [a1, z_arc d6 d5, z_b, z_fit (by omega) (by omega) c5.1 c5.2, z_b2, z_ck (by omega) (by omega), z_st (by omega) (by omega), z_ck (by omega) (by omega), z_st (by omega) (by omega)]
  have hk := nt_k (X := ldX LO HI n (fun p => f p s)) (fun u v hu hv y1 y2 => ldX_0 (fun q => y1 ⟨q.1, by omega⟩) y2)
  refine ⟨_, rfl, fun k k1 k2 => by rw [g_sn k2, g_sn k2, g_sn k1, a2 k k1 k2], fun u v hu hv => ?_, fun v hv => ?_⟩
  · have u1 := hu.1
    have u2 := hu.2
    have v1 := hv.1
    have v2 := hv.2
    rw [g_sn (by omega), g_sn (by omega), g_s (by omega)]
    by_cases z : u = 6 ∧ v = 5
    · rw [z.1, z.2, u_s, ldX_5]
    · rw [u_n (by omega), a3 u v hu hv, (h0 u v hu hv).1]
      by_cases y : v = 6 ∧ u < n
      · rw [if_pos ⟨y.1, u1, y.2⟩, y.1, ldX_p y.2]
      · rw [if_neg (fun q => y ⟨q.1, q.2.2⟩), ldX_0 y z]
  · show _ = ijv n (fun p => f p s) v + nt (ldX LO HI n (fun p => f p s)) v
    have v1 := hv.1
    have v2 := hv.2
    rw [g_s (by omega), g_s (by omega)]
    by_cases z5 : v = 5
    · rw [z5, u_s, hk.2.1, ldX_5]
      unfold ijv
      rw [if_neg (by omega), if_pos rfl]
      omega
    · rw [u_n z5]
      by_cases z6 : v = 6
      · rw [z6, u_s, hk.1, ← kpt_X hn, ldX_5]
        unfold ijv
        rw [if_neg (by omega), if_neg (by omega)]
        omega
      · rw [u_n z6, g_sn (by omega), a4 v hv, (h0 v v hv hv).2, hk.2.2 v v1 (by omega)]
        unfold ijv
        by_cases y : v < n
        · rw [if_pos ⟨v1, y⟩, if_pos y, ldX_p y]
          show f v s - clp (LO v 6) (HI v 6) (f v s) = f v s + -clp (LO v 6) (HI v 6) (f v s)
          omega
        · rw [if_neg (fun q => y q.2), if_neg y, if_neg z5, ldX_0 (u := v) (v := 6) (fun q => y q.2) (fun q => absurd q.2 (by decide))]
          rfl
