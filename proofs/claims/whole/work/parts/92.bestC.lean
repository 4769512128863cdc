/-! the class's best flow of one stock -/
theorem prM_bd {mv : Int → Int} {g b n u v : Int} {μ : q_M} (hn : ni n) (hco : coM mv g b μ) (hu : nd u) (hv : nd v) : 0 ≤ prM mv g b n u v ∧ prM mv g b n u v < 2199023255552 := by
  have h5 : 2 ≤ n ∧ n ≤ 5 := by rcases hn with rfl | rfl | rfl | rfl <;> decide
  have u1 := hu.1
  have v1 := hv.1
  unfold prM
  by_cases q : 0 ≤ plc n u v
  · rw [if_pos q]
    have hp := plc_bd hn hu hv
    have hw := pw_bd (29 - plc n u v).toNat (by omega)
    have hc : 1 ≤ cst mv g b u v ∧ cst mv g b u v ≤ 1000 := by
      unfold cst
      rcases plc_sp hn hu hv with h | ⟨a, c, e, -⟩ | ⟨a, c, -⟩ | ⟨a, c, -⟩
      · omega
      · rw [if_neg (by omega), if_neg (by omega)]
        exact (hco.1 _ (by omega) (by omega)).2
      · rw [if_pos a]
        exact hco.2.1.2
      · rw [if_neg (by omega), if_pos a]
        exact hco.2.2.2
    omega
  · rw [if_neg q]; omega
theorem nt_6 {X LO HI : Int → Int → Int} {n : Int} (hn : ni n) (hl : lhB n LO HI) (hX : ∀ u v, nd u → nd v → LO u v ≤ X u v ∧ X u v ≤ HI u v) : nt X 6 = X 0 6 + X 1 6 + X 2 6 + X 3 6 + X 4 6 - X 6 5 := by
  have h5 : 2 ≤ n ∧ n ≤ 5 := by rcases hn with rfl | rfl | rfl | rfl <;> decide
  have d : ∀ v : Int, 0 ≤ v → v < 7 → nd v := fun v a b => ⟨a, b⟩
  have d6 := d 6 (by decide) (by decide)
  have z1 : ∀ v, nd v → v ≠ 5 → v ≠ 6 → X 6 v = 0 := fun v hv h h' => by
    have a := hl.2.2.1 6 v d6 hv (by rw [(plc6 hn hv).2]; decide) (fun q => h' q.1) (fun q => h q.2)
    have := hX 6 v d6 hv
    omega
  have z2 : X 5 6 = 0 := by
    have d5 := d 5 (by decide) (by decide)
    have a := hl.2.2.1 5 6 d5 d6 (by rw [(plc6 hn d5).1]; decide) (fun q => by omega) (fun q => absurd q.1 (by decide))
    have := hX 5 6 d5 d6
    omega
  unfold nt
  simp only [sm, Int.zero_add, Int.reduceAdd, Int.add_zero]
  have a0 := z1 0 (d 0 (by decide) (by decide)) (by decide) (by decide)
  have a1 := z1 1 (d 1 (by decide) (by decide)) (by decide) (by decide)
  have a2 := z1 2 (d 2 (by decide) (by decide)) (by decide) (by decide)
  have a3 := z1 3 (d 3 (by decide) (by decide)) (by decide) (by decide)
  have a4 := z1 4 (d 4 (by decide) (by decide)) (by decide) (by decide)
  omega
theorem nt_un {X LO HI : Int → Int → Int} {n p : Int} (hn : ni n) (hl : lhB n LO HI) (hX : ∀ u v, nd u → nd v → LO u v ≤ X u v ∧ X u v ≤ HI u v) (h1 : n ≤ p) (h2 : p < 5) : nt X p = 0 ∧ LO p 6 = 0 ∧ HI p 6 = 0 := by
  have h5 : 2 ≤ n ∧ n ≤ 5 := by rcases hn with rfl | rfl | rfl | rfl <;> decide
  have dp : nd p := ⟨by omega, by omega⟩
  have neg : ∀ u, nd u → plc n u p < 0 ∧ plc n p u < 0 := fun u hu => by
    have u1 := hu.1
    refine ⟨?_, ?_⟩
    · rcases plc_sp hn hu dp with h | ⟨a, c, e, -⟩ | ⟨a, c, -⟩ | ⟨a, c, -⟩ <;> omega
    · rcases plc_sp hn dp hu with h | ⟨a, c, e, -⟩ | ⟨a, c, -⟩ | ⟨a, c, -⟩ <;> omega
  refine ⟨?_, hl.2.2.1 p 6 dp ⟨by decide, by decide⟩ (neg 6 ⟨by decide, by decide⟩).2 (by omega) (by omega)⟩
  unfold nt
  refine sm_zero (fun u a b => ?_)
  have hu : nd u := ⟨a, by omega⟩
  have c1 := hl.2.2.1 u p hu dp (neg u hu).1 (by omega) (by omega)
  have c2 := hl.2.2.1 p u dp hu (neg u hu).2 (by omega) (by omega)
  have e1 := hX u p hu dp
  have e2 := hX p u dp hu
  omega
/-- what a best flow is -/
def bst (n : Int) (f : Int → Int) (LO HI PR : Int → Int → Int) (X : Int → Int → Int) (pi : Int → Int) : Prop := (∀ u v, nd u → nd v → LO u v ≤ X u v ∧ X u v ≤ HI u v) ∧ mp LO HI PR X pi ∧ (∀ v, nd v → nt X v = -ijv n f v) ∧ (∀ u v, nd u → nd v → 0 ≤ plc n u v → X u v ≤ 65000) ∧ tX X ≤ 400000
theorem ldX_in {LO HI : Int → Int → Int} {n : Int} {f : Int → Int} (hn : ni n) (hl : lhB n LO HI) (hcb : cbl LO HI) {u v : Int} (hu : nd u) (hv : nd v) : LO u v ≤ ldX LO HI n f u v ∧ ldX LO HI n f u v ≤ HI u v := by
  have h5 : 2 ≤ n ∧ n ≤ 5 := by rcases hn with rfl | rfl | rfl | rfl <;> decide
  have u1 := hu.1
  by_cases y1 : v = 6 ∧ u < n
  · rw [y1.1, ldX_p y1.2]
    refine clp_bd ?_
    obtain ⟨⟨⟨c0, c1, c2, c3, c4⟩, -⟩, -⟩ := hcb
    have : u = 0 ∨ u = 1 ∨ u = 2 ∨ u = 3 ∨ u = 4 := by omega
    rcases this with rfl | rfl | rfl | rfl | rfl <;> assumption
  · by_cases y2 : u = 6 ∧ v = 5
    · rw [y2.1, y2.2, ldX_5]
      exact clp_bd hcb.1.2
    · rw [ldX_0 y1 y2]
      by_cases q : 0 ≤ plc n u v
      · have := hl.2.1 u v hu hv q; omega
      · have := hl.2.2.1 u v hu hv (by omega) y1 y2; omega
theorem ldX_sum {LO HI : Int → Int → Int} {n : Int} {f : Int → Int} : tX (ldX LO HI n f) = ldX LO HI n f 0 6 + ldX LO HI n f 1 6 + ldX LO HI n f 2 6 + ldX LO HI n f 3 6 + ldX LO HI n f 4 6 + ldX LO HI n f 5 6 + ldX LO HI n f 6 6 + ldX LO HI n f 6 5 := by
  have z : ∀ u v : Int, ¬ (v = 6) → ¬ (u = 6 ∧ v = 5) → ldX LO HI n f u v = 0 := fun u v h1 h2 => ldX_0 (fun h => h1 h.1) h2
  unfold tX
  simp only [sm, Int.zero_add, Int.reduceAdd, Int.reduceDiv, Int.reduceMod, Int.add_zero]
  simp (disch := decide) only [z, Int.zero_add, Int.add_zero]
  omega
theorem z_bestC {N o : Nat} {LO HI : Int → Int → Int} {mv : Int → Int} {g b n s : Int} {f : Int → Int → Int} {tr : Int → Int} {μ μc : q_M} (hN : 200000 ≤ N) (hn : ni n) (hs : 0 ≤ s ∧ s ≤ 1) (hb : stB n f tr) (hco : coM mv g b μc) (hl : lhB n LO HI) (hcb : cbl LO HI) (h1 : ∀ u v, nd u → nd v → q_g μ (o + 1) (u * 7 + v) = ldX LO HI n (fun p => f p s) u v ∧ q_g μ (o + 2) (u * 7 + v) = LO u v ∧ q_g μ (o + 3) (u * 7 + v) = HI u v ∧ q_g μ (o + 4) (u * 7 + v) = prM mv g b n u v) (hx : exM o μ (fun v => ijv n (fun p => f p s) v + nt (ldX LO HI n (fun p => f p s)) v)) :
    ∃ μ' X pi, f_Fl_balance N o μ = some μ' ∧ (∀ k, k ≠ o + 1 → k ≠ o + 5 → k ≠ o + 6 → k ≠ o + 7 → q_g μ' k = q_g μ k) ∧ cM o μ' LO HI (prM mv g b n) X ∧ bst n (fun p => f p s) LO HI (prM mv g b n) X pi := by
  have h5 : 2 ≤ n ∧ n ≤ 5 := by rcases hn with rfl | rfl | rfl | rfl <;> decide
  have d : ∀ v : Int, 0 ≤ v → v < 7 → nd v := fun v a b => ⟨a, b⟩
  have d6 := d 6 (by decide) (by decide)
  have d5 := d 5 (by decide) (by decide)
  generalize hF : (fun p => f p s) = F at *
  have hk := nt_k (X := ldX LO HI n F) (fun u v hu hv y1 y2 => ldX_0 (fun q => y1 ⟨q.1, by omega⟩) y2)
  have hX0 := fun u v hu hv => ldX_in (f := F) hn hl hcb (u := u) (v := v) hu hv
  have hFb : ∀ p, 0 ≤ p → p < n → -10000 ≤ F p ∧ F p ≤ 11000 := fun p a c => by rw [← hF]; exact hb.2.1 p s a c hs.1 hs.2
  have hkp : ∀ p, 0 ≤ p → p < 5 → 0 ≤ ldX LO HI n F p 6 ∧ ldX LO HI n F p 6 ≤ 1000 := fun p a c => by
    have e := hX0 p 6 (d p a (by omega)) d6
    have l0 := (hl.1 p 6 (d p a (by omega)) d6).1.1
    by_cases y : p < n
    · have := hl.2.2.2.1 p a y
      omega
    · rw [ldX_0 (fun q => y q.2) (fun q => absurd q.2 (by decide))]
      omega
  have hs0 : sm (fun v => ijv n F v + nt (ldX LO HI n F) v) 0 7 = 0 := by
    have a := ij_sum (f := F) hn
    simp only [sm, Int.zero_add, Int.reduceAdd, Int.add_zero] at a ⊢
    rw [hk.1, hk.2.1, hk.2.2 0 (by decide) (by decide), hk.2.2 1 (by decide) (by decide), hk.2.2 2 (by decide) (by decide), hk.2.2 3 (by decide) (by decide), hk.2.2 4 (by decide) (by decide)]
    omega
  have hT : tp (fun v => ijv n F v + nt (ldX LO HI n F) v) ≤ 65000 := by
    refine tp_65 hs0 (fun p a c => ?_) ?_
    · show -11000 ≤ ijv n F p + nt (ldX LO HI n F) p ∧ ijv n F p + nt (ldX LO HI n F) p ≤ 11000
      rw [hk.2.2 p a c]
      have := hkp p a c
      unfold ijv
      by_cases y : p < n
      · rw [if_pos y]
        have := hFb p a y
        omega
      · rw [if_neg y, if_neg (by omega)]
        omega
    · show -9999 ≤ ijv n F 6 + nt (ldX LO HI n F) 6 ∧ ijv n F 6 + nt (ldX LO HI n F) 6 ≤ 5000
      have e0 := hkp 0 (by decide) (by decide)
      have e1 := hkp 1 (by decide) (by decide)
      have e2 := hkp 2 (by decide) (by decide)
      have e3 := hkp 3 (by decide) (by decide)
      have e4 := hkp 4 (by decide) (by decide)
      have e5 := hX0 6 5 d6 d5
      have e6 := hl.1 6 5 d6 d5
      have e7 := hl.2.2.2.2.2
      rw [hk.1]
      have : ijv n F 6 = 0 := by
        unfold ijv
        rw [if_neg (by omega), if_neg (by decide)]
      omega
  have hBi : bI o 400000 LO HI (prM mv g b n) (fun a c => ldX LO HI n F a c + 65000) (ijv n F) μ (ldX LO HI n F) (fun v => ijv n F v + nt (ldX LO HI n F) v) (fun _ => 0) := by
    refine ⟨h1, fun u v hu hv => ⟨⟨(hl.1 u v hu hv).1.1, (hX0 u v hu hv).1, (hX0 u v hu hv).2, (hl.1 u v hu hv).2.2⟩, prM_bd hn hco hu hv⟩, fun u v hu hv => ⟨fun _ => ?_, fun q => ?_⟩, hx, hs0, fun v hv => ?_, fun a c _ _ => ?_, ?_⟩
    · have := (prM_bd hn hco hu hv).1
      show 0 ≤ prM mv g b n u v + 0 - 0
      omega
    · show prM mv g b n u v + 0 - 0 ≤ 0
      have hp : prM mv g b n u v = 0 := by
        unfold prM
        refine if_neg (fun y => ?_)
        have a1 := hl.2.1 u v hu hv y
        have : ldX LO HI n F u v = 0 := ldX_0 (fun z => by rw [z.1, (plc6 hn hu).1] at y; exact absurd y (by decide)) (fun z => by rw [z.1, z.2, (plc6 hn d5).2] at y; exact absurd y (by decide))
        omega
      omega
    · show ijv n F v + nt (ldX LO HI n F) v - nt (ldX LO HI n F) v = ijv n F v
      omega
    · show ldX LO HI n F a c + tp (fun v => ijv n F v + nt (ldX LO HI n F) v) ≤ ldX LO HI n F a c + 65000
      omega
    · have hs49 : tX (ldX LO HI n F) ≤ 10000 := by
        have e0 := hkp 0 (by decide) (by decide)
        have e1 := hkp 1 (by decide) (by decide)
        have e2 := hkp 2 (by decide) (by decide)
        have e3 := hkp 3 (by decide) (by decide)
        have e4 := hkp 4 (by decide) (by decide)
        have e5 := hX0 6 5 d6 d5
        have e7 := hl.2.2.2.2.2
        have e8 : ldX LO HI n F 5 6 = 0 := ldX_0 (fun h => by omega) (fun h => absurd h.1 (by decide))
        have e9 : ldX LO HI n F 6 6 = 0 := ldX_0 (fun h => by omega) (fun h => absurd h.2 (by decide))
        rw [ldX_sum]
        omega
      show tX (ldX LO HI n F) + 6 * tp (fun v => ijv n F v + nt (ldX LO HI n F) v) ≤ 400000
      omega
  have hdg : ∀ u, nd u → LO u u = HI u u := fun u hu => by
    have u1 := hu.1
    by_cases q : 0 ≤ plc n u u
    · rcases plc_sp hn hu hu with h | ⟨a, c, e, -⟩ | ⟨a, c, -⟩ | ⟨a, c, -⟩ <;> omega
    · have := hl.2.2.1 u u hu hu (by omega) (by omega) (by omega)
      omega
  obtain ⟨μ', X, ex, pi, rc, e1, e2, e3, e4, e5, e6⟩ := z_balance (K := fun μ4 => some μ4) (CAP := fun a c => ldX LO HI n F a c + 65000) hN hdg 65000 N 0 μ _ _ _ hBi (by omega) (by omega) (by omega) (by omega)
  obtain ⟨f1, f2, f3, f4, f5, f6, f7, f8⟩ := e3
  have hXb : ∀ u v, nd u → nd v → LO u v ≤ X u v ∧ X u v ≤ HI u v := fun u v hu hv => ⟨(f2 u v hu hv).1.2.1, (f2 u v hu hv).1.2.2.1⟩
  have hcap : ∀ u v, nd u → nd v → 0 ≤ plc n u v → X u v ≤ 65000 := fun u v hu hv y => by
    have a1 : X u v + tp ex ≤ ldX LO HI n F u v + 65000 := f7 u v hu hv
    have a2 := tp_nn (ex := ex)
    have : ldX LO HI n F u v = 0 := ldX_0 (fun z => by rw [z.1, (plc6 hn hu).1] at y; exact absurd y (by decide)) (fun z => by rw [z.1, z.2, (plc6 hn d5).2] at y; exact absurd y (by decide))
    omega
  have hz := exz (n := n) hXb f5 e4 e5 e6 (fun p p0 pn => by
    have dp := d p p0 (by omega)
    have y1 : 0 ≤ plc n p 5 := by rw [plc_bn hn pn]; rcases hn with rfl | rfl | rfl | rfl <;> omega
    have y2 : 0 ≤ plc n 5 p := by rw [plc_gr hn pn]; rcases hn with rfl | rfl | rfl | rfl <;> omega
    have a1 := hl.2.1 p 5 dp d5 y1
    have a2 := hl.2.1 5 p d5 dp y2
    have a3 := hcap p 5 dp d5 y1
    have a4 := hcap 5 p d5 dp y2
    omega) (fun p pn p0 p5 => by
    have a1 := nt_un hn hl hXb pn p5
    have a2 := f6 p (d p p0 (by omega))
    have : ijv n F p = 0 := by
      unfold ijv
      rw [if_neg (by omega), if_neg (by omega)]
    exact ⟨by omega, a1.2⟩) (by
    have a1 := nt_6 hn hl hXb
    have a2 := f6 6 d6
    have : ijv n F 6 = 0 := by
      unfold ijv
      rw [if_neg (by omega), if_neg (by decide)]
    omega) hcb.2.1 hcb.2.2
  exact ⟨μ', X, pi, e1, e2, f1, hXb, f3, fun v hv => by
    have a1 := f6 v hv
    have a2 := hz v hv
    omega, hcap, by have := tp_nn (ex := ex); omega⟩
