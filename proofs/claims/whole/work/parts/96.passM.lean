/-! the model's passes -/
def dV (B : Int) (V : Int → Nat → Int) (v : Int) : Int := hx B (V v) 0 31
theorem dV_up {B t : Int} {V : Int → Nat → Int} {g : Nat → Int} : dV B (vup V t g) = q_u (dV B V) t (hx B g 0 31) := by
  funext v
  unfold dV vup q_u
  by_cases e : v = t
  · simp only [e, if_pos]
  · simp only [e, if_neg, if_false]
def rRM (n : Int) (μ : q_M) (rc : Int → Bool) (pa : Int → Int) : Prop := ∀ v, nd v → q_g μ 17 (sw v) = bi (rc v) ∧ q_g μ 19 (sw v) = (if pa v = -1 then -1 else cwM n (pa v))
def SM (n : Int) (LO HI X PR : Int → Int → Int) (B C : Int) (src : Int → Prop) (μ : q_M) (V : Int → Nat → Int) (rc : Int → Bool) (pa : Int → Int) (ln : Int → Nat) : Prop := cV μ V ∧ bV C V ∧ rRM n μ rc pa ∧ wI (okM n LO HI X) wfM wtM (wpM PR) src (dV B V) rc pa ln
theorem SM_up {n B C C' : Int} {LO HI X PR : Int → Int → Int} {src : Int → Prop} {μ : q_M} {V : Int → Nat → Int} {rc : Int → Bool} {pa : Int → Int} {ln : Int → Nat} (h : SM n LO HI X PR B C src μ V rc pa ln) (hc : C ≤ C') : SM n LO HI X PR B C' src μ V rc pa ln :=
  ⟨h.1, fun v hv k hk => by have := h.2.1 v hv k hk; omega, h.2.2⟩
theorem z_roomM {n u v : Int} {st : Int → Int} {CO LO HI X : Int → Int → Int} {μ : q_M} (hn : ni n) (hE : eM n st CO LO HI μ X) (hB : eB n st CO LO HI X) (hu : nd u) (hv : nd v) (h : 0 ≤ ei n u v) : f_M_room (ei n u v) μ = some (HI u v - X u v) ∧ f_M_room (ei n u v + 100) μ = some (X u v - LO u v) := by
  have hq := q_rng hn
  have hb := ei_bd hn hu hv
  obtain ⟨-, -, e3, e4, -, -, e7⟩ := hE.2.1 u v hu hv h
  have bb := (hB.1 u v hu hv).1
  unfold f_M_room q_rm
  rw [if_pos ⟨by omega, by decide⟩, if_pos ⟨by omega, by decide⟩, show ei n u v % 100 = ei n u v by omega, show (ei n u v + 100) % 100 = ei n u v by omega]
  simp only [z_jn]
  rw [if_neg (by omega), if_pos (by omega), z_ld h (by omega), e3, z_ld h (by omega), e7, z_ck (by omega) (by omega), z_ld h (by omega), z_ld h (by omega), e7, e4, z_ck (by omega) (by omega)]
  exact ⟨rfl, rfl⟩
theorem z_roomF {n p : Int} {st : Int → Int} {CO LO HI X : Int → Int → Int} {μ : q_M} (hn : ni n) (hE : eM n st CO LO HI μ X) (hB : eB n st CO LO HI X) (h0 : 0 ≤ p) (h1 : p < n) : f_M_room (n * (n - 1) + 4 * p) μ = some 0 ∧ f_M_room (n * (n - 1) + 4 * p + 100) μ = some 0 := by
  have hq := q_rng hn
  obtain ⟨-, -, e3, e4, -, -, e7⟩ := hE.2.2 p h0 h1
  have bb := hB.2 p h0 h1
  unfold f_M_room q_rm
  rw [if_pos ⟨by omega, by decide⟩, if_pos ⟨by omega, by decide⟩, show (n * (n - 1) + 4 * p) % 100 = n * (n - 1) + 4 * p by omega, show (n * (n - 1) + 4 * p + 100) % 100 = n * (n - 1) + 4 * p by omega]
  simp only [z_jn]
  rw [if_neg (by omega), if_pos (by omega), z_ld (by omega) (by omega), e3, z_ld (by omega) (by omega), e7, z_ck (by omega) (by omega), z_ld (by omega) (by omega), z_ld (by omega) (by omega), e7, e4, z_ck (by omega) (by omega), Int.sub_self]
  exact ⟨rfl, rfl⟩
theorem relM {N : Nat} {n B C : Int} {st : Int → Int} {CO LO HI X : Int → Int → Int} {src : Int → Prop} {μ : q_M} {V : Int → Nat → Int} {rc : Int → Bool} {pa : Int → Int} {ln : Int → Nat} {w : Int} (hN : 1000 ≤ N) (hn : ni n) (hBB : 2000000 ≤ B) (hC : 0 ≤ C ∧ C ≤ 900000) (hE : eM n st CO LO HI μ X) (hB : eB n st CO LO HI X) (hS : SM n LO HI X (PMt B n CO) B C src μ V rc pa ln) (hw : okM n LO HI X w) (hf : rc (wfM w) = true) :
    ∃ y μ' V' rc' pa' ln', f_M_relaxes N (sw (wfM w)) (sw (wtM w)) (cwM n w) μ = some (y, μ') ∧ (y = 0 ∨ y = 1) ∧ (∀ k, k ≠ 17 → k ≠ 18 → k ≠ 19 → q_g μ' k = q_g μ k) ∧ SM n LO HI X (PMt B n CO) B (C + 1000) src μ' V' rc' pa' ln' ∧ (∀ v, rc v = true → rc' v = true ∧ dV B V' v ≤ dV B V v) ∧ (rc' (wtM w) = true ∧ dV B V' (wtM w) ≤ dV B V (wfM w) + wpM (PMt B n CO) w) ∧ (y = 0 → V' = V ∧ rc' = rc) ∧ ((rc (wtM w) = true ∧ dV B V (wtM w) ≤ dV B V (wfM w) + wpM (PMt B n CO) w) → y = 0) := by
  obtain ⟨u, v, hu, hv, huv, hcase⟩ := wM_on hw
  have hq := q_rng hn
  have hei := ei_bd hn hu hv
  have hB1 := hB.1 u v hu hv
  have he0 : 0 ≤ ei n u v := by
    refine Classical.byContradiction fun g => ?_
    have := hB1.2.2 (by omega)
    omega
  obtain ⟨e1, e2, e3, e4, e5, e6, e7⟩ := hE.2.1 u v hu hv he0
  have hwN := wN_M w hw
  have hdir : ∃ sgn, ((cwM n w = ei n u v ∧ sgn = 1) ∨ (cwM n w = ei n u v + 100 ∧ sgn = -1)) ∧ hx B (dM n CO sgn u v) 0 31 = wpM (PMt B n CO) w := by
    rcases hcase with ⟨rfl, g⟩ | ⟨rfl, g⟩
    · obtain ⟨a, b, c, d, -⟩ := wM_f (PR := PMt B n CO) (LO := LO) (HI := HI) (X := X) (n := n) hu hv
      exact ⟨1, Or.inl ⟨d, rfl⟩, by rw [c]; exact hx_dM.1⟩
    · obtain ⟨a, b, c, d, -⟩ := wM_b (PR := PMt B n CO) (LO := LO) (HI := HI) (X := X) (n := n) hu hv
      exact ⟨-1, Or.inr ⟨d, rfl⟩, by rw [c]; exact hx_dM.2⟩
  obtain ⟨sgn, hd1, hd2⟩ := hdir
  obtain ⟨s1, s2, s3, s4⟩ := hS
  obtain ⟨y, μ', a1, a2⟩ := z_relaxes (N := N) (n := n) (e := ei n u v) (sgn := sgn) (u := u) (v := v) (f := wfM w) (t := wtM w) (w := cwM n w) (B := B) (C := C) (CO := CO) (rt := rc (wtM w)) hN hBB hC (by omega) hd1 e5 e6 hB1.2.1 s1 s2 hwN.2.1 hwN.2.2.1 hwN.2.2.2 (s3 _ hwN.2.2.1).1
  have hnew : hx B (fun j => V (wfM w) j + dM n CO sgn u v j) 0 31 = dV B V (wfM w) + wpM (PMt B n CO) w := by
    rw [hx_add, hd2]
    rfl
  rw [hnew] at a2
  rcases a2 with ⟨y0, m0, r0, l0⟩ | ⟨y1, l1, c1, c2, c3, c4⟩
  · exact ⟨y, μ', V, rc, pa, ln, a1, Or.inl y0, fun _ _ _ _ => by rw [m0], by rw [m0]; exact SM_up ⟨s1, s2, s3, s4⟩ (by omega), fun v hv => ⟨hv, Int.le_refl _⟩, ⟨r0, l0⟩, fun _ => ⟨rfl, rfl⟩, fun _ => y0⟩
  · have hs : sgn = 1 ∨ sgn = -1 := by omega
    have hl : rc (wtM w) = false ∨ dV B V (wfM w) + wpM (PMt B n CO) w < dV B V (wtM w) := l1
    have st := wI_step wN_M s4 hw hf hl
    have hd' : dV B (vup V (wtM w) (fun j => V (wfM w) j + dM n CO sgn u v j)) = q_u (dV B V) (wtM w) (dV B V (wfM w) + wpM (PMt B n CO) w) := by rw [dV_up, hnew]
    refine ⟨y, μ', vup V (wtM w) (fun j => V (wfM w) j + dM n CO sgn u v j), rcu rc (wtM w), q_u pa (wtM w) w, _, a1, Or.inr y1, c1, ⟨c2, ?_, ?_, by rw [hd']; exact st⟩, ?_, ?_, fun q => absurd (y1.symm.trans q) (by decide), fun q => ?_⟩
    · intro x hx k hk
      unfold vup
      by_cases g : x = wtM w
      · rw [if_pos g]
        have b1 := s2 _ hwN.2.1 k hk
        have b2 := dM_bd (n := n) (k := k) (CO := CO) (u := u) (v := v) hs hB1.2.1
        show -(C + 1000) ≤ V (wfM w) k + dM n CO sgn u v k ∧ V (wfM w) k + dM n CO sgn u v k ≤ C + 1000
        omega
      · rw [if_neg g]
        have := s2 x hx k hk
        omega
    · intro x hx
      have hw1 := hwN.1
      rw [c3, c4]
      by_cases g : x = wtM w
      · rw [g, u_s, u_s, rcu_s, u_s, if_neg (by omega)]
        exact ⟨rfl, rfl⟩
      · rw [u_n (fun q => g (sw_inj q)), u_n (fun q => g (sw_inj q)), rcu_n g, u_n g]
        exact s3 x hx
    · intro x hx
      rw [hd']
      refine ⟨rcu_t hx, ?_⟩
      by_cases g : x = wtM w
      · rw [g, u_s]
        rw [g] at hx
        rcases hl with hl | hl
        · rw [hl] at hx; cases hx
        · omega
      · rw [u_n g]
        exact Int.le_refl _
    · rw [hd', u_s]
      exact ⟨rcu_s, Int.le_refl _⟩
    · rcases hl with hl | hl
      · rw [hl] at q; cases q.1
      · omega
/-- one try of a way in a pass -/
def frM (N : Nat) (a b w x : Int) (μ : q_M) (J : Int → q_M → Option q_M) : Option q_M := q_ld μ 17 7 a fun x27 => if x27 = 0 then J x μ else q_b (f_M_room w μ) fun x50 => if x50 ≤ 0 then J x μ else q_b2 (f_M_relaxes N a b w μ) fun x54 μ55 => if x54 = 0 then if x = 0 then J 0 μ55 else J 1 μ55 else J 1 μ55
theorem tryM {N : Nat} {n B C x : Int} {st : Int → Int} {CO LO HI X : Int → Int → Int} {src : Int → Prop} {μ : q_M} {V : Int → Nat → Int} {rc : Int → Bool} {pa : Int → Int} {ln : Int → Nat} {w : Int} {J : Int → q_M → Option q_M} (hN : 1000 ≤ N) (hn : ni n) (hBB : 2000000 ≤ B) (hC : 0 ≤ C ∧ C ≤ 900000) (hE : eM n st CO LO HI μ X) (hB : eB n st CO LO HI X) (hS : SM n LO HI X (PMt B n CO) B C src μ V rc pa ln) (hx : x = 0 ∨ x = 1) (hfn : nd (wfM w)) (hrm : f_M_room (cwM n w) μ = some (rmM LO HI X w)) (hok : okM n LO HI X w ↔ 0 < rmM LO HI X w) :
    ∃ x' μ' V' rc' pa' ln', frM N (sw (wfM w)) (sw (wtM w)) (cwM n w) x μ J = J x' μ' ∧ (x' = 0 ∨ x' = 1) ∧ (∀ k, k ≠ 17 → k ≠ 18 → k ≠ 19 → q_g μ' k = q_g μ k) ∧ SM n LO HI X (PMt B n CO) B (C + 1000) src μ' V' rc' pa' ln' ∧ (∀ v, rc v = true → rc' v = true ∧ dV B V' v ≤ dV B V v) ∧ (okM n LO HI X w → rc (wfM w) = true → rc' (wtM w) = true ∧ dV B V' (wtM w) ≤ dV B V (wfM w) + wpM (PMt B n CO) w) ∧ (x' = 0 → x = 0 ∧ V' = V ∧ rc' = rc) ∧ (stb (okM n LO HI X) wfM wtM (wpM (PMt B n CO)) (dV B V) rc → x' = x ∧ V' = V ∧ rc' = rc) := by
  have a1 := (sw_nd hfn).1
  have a2 := (sw_nd hfn).2
  have hS3 := (hS.2.2.1 _ hfn).1
  unfold frM
  rw [z_ld a1 (by omega), hS3]
  simp only [z_bib]
  have skip : ¬ (okM n LO HI X w ∧ rc (wfM w) = true) → ∃ x' μ' V' rc' pa' ln', J x μ = J x' μ' ∧ (x' = 0 ∨ x' = 1) ∧ (∀ k, k ≠ 17 → k ≠ 18 → k ≠ 19 → q_g μ' k = q_g μ k) ∧ SM n LO HI X (PMt B n CO) B (C + 1000) src μ' V' rc' pa' ln' ∧ (∀ v, rc v = true → rc' v = true ∧ dV B V' v ≤ dV B V v) ∧ (okM n LO HI X w → rc (wfM w) = true → rc' (wtM w) = true ∧ dV B V' (wtM w) ≤ dV B V (wfM w) + wpM (PMt B n CO) w) ∧ (x' = 0 → x = 0 ∧ V' = V ∧ rc' = rc) ∧ (stb (okM n LO HI X) wfM wtM (wpM (PMt B n CO)) (dV B V) rc → x' = x ∧ V' = V ∧ rc' = rc) :=
    fun h => ⟨x, μ, V, rc, pa, ln, rfl, hx, fun _ _ _ _ => rfl, SM_up hS (by omega), fun v hv => ⟨hv, Int.le_refl _⟩, fun q1 q2 => absurd ⟨q1, q2⟩ h, fun q => ⟨q, rfl, rfl⟩, fun _ => ⟨rfl, rfl, rfl⟩⟩
  by_cases g : rc (wfM w) = true
  · rw [if_neg (by rw [g]; decide), hrm, z_b]
    by_cases g2 : rmM LO HI X w ≤ 0
    · rw [if_pos g2]
      exact skip (fun q => by have := hok.mp q.1; omega)
    · rw [if_neg g2]
      have hw := hok.mpr (by omega)
      obtain ⟨y, μ', V', rc', pa', ln', b1, b2, b3, b4, b5, b6, b7, b8⟩ := relM hN hn hBB hC hE hB hS hw g
      rw [b1, z_b2]
      by_cases gy : y = 0
      · have := b7 gy
        rw [if_pos gy]
        by_cases gx : x = 0
        · rw [if_pos gx]
          exact ⟨0, μ', V', rc', pa', ln', rfl, Or.inl rfl, b3, b4, b5, fun _ _ => b6, fun _ => ⟨gx, this⟩, fun _ => ⟨gx.symm, this⟩⟩
        · rw [if_neg gx]
          exact ⟨1, μ', V', rc', pa', ln', rfl, Or.inr rfl, b3, b4, b5, fun _ _ => b6, fun q => absurd q (by decide), fun _ => ⟨by omega, this⟩⟩
      · rw [if_neg gy]
        exact ⟨1, μ', V', rc', pa', ln', rfl, Or.inr rfl, b3, b4, b5, fun _ _ => b6, fun q => absurd q (by decide), fun q => absurd (b8 (q w hw g)) gy⟩
  · rw [if_pos (by simpa using g)]
    exact skip (fun q => g q.2)
def eI (n w : Int) : Int := if w < 49 then ei n (w / 7) (w % 7) else ei n ((w - 49) / 7) ((w - 49) % 7)
theorem eI_f {n u v : Int} (hu : nd u) (hv : nd v) : eI n (u * 7 + v) = ei n u v ∧ eI n (49 + (u * 7 + v)) = ei n u v := by
  have h1 := hu.1
  have h2 := hu.2
  have h3 := hv.1
  have h4 := hv.2
  unfold eI
  rw [if_pos (by omega), if_neg (by omega), show (u * 7 + v) / 7 = u by omega, show (u * 7 + v) % 7 = v by omega, show (49 + (u * 7 + v) - 49) / 7 = u by omega, show (49 + (u * 7 + v) - 49) % 7 = v by omega]
  exact ⟨rfl, rfl⟩
def fr1 (N : Nat) (i x : Int) (μ : q_M) (J : Int → q_M → Option q_M) : Option q_M := q_ld μ 9 48 i fun x26 => q_ld μ 17 7 x26 fun x27 => if x27 = 0 then J x μ else q_b (f_M_room i μ) fun x50 => if x50 ≤ 0 then J x μ else q_ld μ 9 48 i fun x51 => q_ld μ 10 48 i fun x52 => q_b2 (f_M_relaxes N x51 x52 i μ) fun x54 μ55 => if x54 = 0 then if x = 0 then J 0 μ55 else J 1 μ55 else J 1 μ55
def fr2 (N : Nat) (i x : Int) (μ : q_M) (J : Int → q_M → Option q_M) : Option q_M := q_ld μ 10 48 i fun x30 => q_ld μ 17 7 x30 fun x31 => if x31 = 0 then J x μ else q_ck (i + 100) fun x35 => q_b (f_M_room x35 μ) fun x37 => if x37 ≤ 0 then J x μ else q_ld μ 10 48 i fun x38 => q_ld μ 9 48 i fun x39 => q_ck (i + 100) fun x40 => q_b2 (f_M_relaxes N x38 x39 x40 μ) fun x42 μ43 => if x42 = 0 then if x = 0 then J 0 μ43 else J 1 μ43 else J 1 μ43
theorem L73_eq {N nf : Nat} {K : Int → q_M → Option q_M} {x i : Int} {μ : q_M} : f_M_findWays_L73 N K (nf + 1) x i μ = q_fl μ 0 14 fun x25 => if x25 ≤ i then K x μ else fr1 N i x μ (fun y ν => fr2 N i y ν (fun z ξ => q_ck (i + 1) fun x34 => f_M_findWays_L73 N K nf z x34 ξ)) := by
  rw [f_M_findWays_L73]
  rfl
theorem fr1_eq {N : Nat} {i x a b : Int} {μ : q_M} {J : Int → q_M → Option q_M} (h0 : 0 ≤ i) (h1 : i < 48) (e1 : q_g μ 9 i = a) (e2 : q_g μ 10 i = b) : fr1 N i x μ J = frM N a b i x μ J := by
  unfold fr1 frM
  rw [z_ld h0 (by omega), e1]
  congr 1
  funext x27
  by_cases g : x27 = 0
  · rw [if_pos g, if_pos g]
  · rw [if_neg g, if_neg g]
    congr 1
    funext x50
    by_cases g2 : x50 ≤ 0
    · rw [if_pos g2, if_pos g2]
    · rw [if_neg g2, if_neg g2, z_ld h0 (by omega), z_ld h0 (by omega), e1, e2]
theorem fr2_eq {N : Nat} {i x a b : Int} {μ : q_M} {J : Int → q_M → Option q_M} (h0 : 0 ≤ i) (h1 : i < 48) (e1 : q_g μ 9 i = a) (e2 : q_g μ 10 i = b) : fr2 N i x μ J = frM N b a (i + 100) x μ J := by
  unfold fr2 frM
  rw [z_ld h0 (by omega), e2]
  congr 1
  funext x27
  by_cases g : x27 = 0
  · rw [if_pos g, if_pos g]
  · rw [if_neg g, if_neg g, z_ck (by omega) (by omega)]
    congr 1
    funext x50
    by_cases g2 : x50 ≤ 0
    · rw [if_pos g2, if_pos g2]
    · rw [if_neg g2, if_neg g2, z_ld h0 (by omega), z_ld h0 (by omega), e1, e2, z_ck (by omega) (by omega)]
theorem frM_0 {N : Nat} {a b w x : Int} {μ : q_M} {J : Int → q_M → Option q_M} (h0 : 0 ≤ a) (h1 : a < 7) (h : f_M_room w μ = some 0) : frM N a b w x μ J = J x μ := by
  unfold frM
  rw [z_ld h0 (by omega), h, z_b]
  by_cases g : q_g μ 17 a = 0
  · rw [if_pos g]
  · rw [if_neg g, if_pos (Int.le_refl 0)]
theorem passM {N : Nat} {n B : Int} {st : Int → Int} {CO LO HI X : Int → Int → Int} {src : Int → Prop} {K : Int → q_M → Option q_M} (hN : 1000 ≤ N) (hn : ni n) (hBB : 2000000 ≤ B) (hB : eB n st CO LO HI X) : ∀ (dd nf : Nat) (i x C : Int) (μ : q_M) (V : Int → Nat → Int) (rc : Int → Bool) (pa : Int → Int) (ln : Int → Nat), i + dd = n * (n - 1) + 4 * n + 1 → 0 ≤ i → dd < nf → (x = 0 ∨ x = 1) → (0 ≤ C ∧ C + 2000 * dd ≤ 900000) → eM n st CO LO HI μ X → SM n LO HI X (PMt B n CO) B C src μ V rc pa ln →
    ∃ x' μ' V' rc' pa' ln', f_M_findWays_L73 N K nf x i μ = K x' μ' ∧ (x' = 0 ∨ x' = 1) ∧ (∀ k, k ≠ 17 → k ≠ 18 → k ≠ 19 → q_g μ' k = q_g μ k) ∧ SM n LO HI X (PMt B n CO) B (C + 2000 * dd) src μ' V' rc' pa' ln' ∧ (∀ v, rc v = true → rc' v = true ∧ dV B V' v ≤ dV B V v) ∧ (∀ w, okM n LO HI X w → i ≤ eI n w → rc (wfM w) = true → rc' (wtM w) = true ∧ dV B V' (wtM w) ≤ dV B V (wfM w) + wpM (PMt B n CO) w) ∧ (x' = 0 → x = 0 ∧ V' = V ∧ rc' = rc) ∧ (stb (okM n LO HI X) wfM wtM (wpM (PMt B n CO)) (dV B V) rc → x' = x ∧ V' = V ∧ rc' = rc) := by
  have hq := q_rng hn
  intro dd
  induction dd with
  | zero =>
    intro nf i x C μ V rc pa ln h1 h2 h3 hx hC hE hS
    obtain ⟨nf, rfl⟩ : ∃ m, nf = m + 1 := ⟨nf - 1, by omega⟩
    refine ⟨x, μ, V, rc, pa, ln, ?_, hx, fun _ _ _ _ => rfl, SM_up hS (by omega), fun v hv => ⟨hv, Int.le_refl _⟩, fun w hw hiw _ => ?_, fun q => ⟨q, rfl, rfl⟩, fun _ => ⟨rfl, rfl, rfl⟩⟩
    · rw [f_M_findWays_L73, z_fl, Int.cast_ofNat_Int, hE.1, if_pos (by omega)]
    · obtain ⟨u, v, hu, hv, -, ⟨rfl, -⟩ | ⟨rfl, -⟩⟩ := wM_on hw
      · have := ei_bd hn hu hv
        rw [(eI_f hu hv).1] at hiw
        omega
      · have := ei_bd hn hu hv
        rw [(eI_f hu hv).2] at hiw
        omega
  | succ dd ih =>
    intro nf i x C μ V rc pa ln h1 h2 h3 hx hC hE hS
    obtain ⟨nf, rfl⟩ : ∃ m, nf = m + 1 := ⟨nf - 1, by omega⟩
    rw [L73_eq, z_fl, Int.cast_ofNat_Int, hE.1, if_neg (by omega)]
    rcases ei_on hn h2 (by omega) with ⟨u, v, hu, hv, huv, he⟩ | ⟨p, hp0, hp1, he⟩
    · have he0 : 0 ≤ ei n u v := by omega
      obtain ⟨f1, f2, f3, f4, f5⟩ := wM_f (PR := PMt B n CO) (LO := LO) (HI := HI) (X := X) (n := n) hu hv
      obtain ⟨g1, g2, g3, g4, g5⟩ := wM_b (PR := PMt B n CO) (LO := LO) (HI := HI) (X := X) (n := n) hu hv
      have hr := z_roomM hn hE hB hu hv he0
      obtain ⟨e1, e2, -⟩ := hE.2.1 u v hu hv he0
      rw [he] at e1 e2
      have t1 := tryM (N := N) (w := u * 7 + v) (x := x) (J := fun y ν => fr2 N i y ν (fun z ξ => q_ck (i + 1) fun x34 => f_M_findWays_L73 N K nf z x34 ξ)) hN hn hBB (by omega) hE hB hS hx (by rw [f1]; exact hu) (by rw [f4, f5]; exact hr.1) (by rw [f5]; exact okM_f hu hv huv)
      rw [f1, f2, f3, f4, he] at t1
      obtain ⟨y, μ1, V1, rc1, pa1, ln1, a1, a2, a3, a4, a5, a6, a7, a8⟩ := t1
      have hE1 : eM n st CO LO HI μ1 X := eM_fr hE (by rw [a3 _ (by omega) (by omega) (by omega)]) (fun k k1 k2 => a3 k (by omega) (by omega) (by omega))
      have hr1 := z_roomM hn hE1 hB hu hv he0
      obtain ⟨c1, c2, -⟩ := hE1.2.1 u v hu hv he0
      rw [he] at c1 c2
      have t2 := tryM (N := N) (w := 49 + (u * 7 + v)) (x := y) (J := fun z ξ => q_ck (i + 1) fun x34 => f_M_findWays_L73 N K nf z x34 ξ) hN hn hBB (by omega) hE1 hB a4 a2 (by rw [g1]; exact hv) (by rw [g4, g5]; exact hr1.2) (by rw [g5]; exact okM_b hu hv huv)
      rw [g1, g2, g3, g4, he] at t2
      obtain ⟨z, μ2, V2, rc2, pa2, ln2, b1, b2, b3, b4, b5, b6, b7, b8⟩ := t2
      have hE2 : eM n st CO LO HI μ2 X := eM_fr hE1 (by rw [b3 _ (by omega) (by omega) (by omega)]) (fun k k1 k2 => b3 k (by omega) (by omega) (by omega))
      rw [fr1_eq h2 (by omega) e1 e2, a1, fr2_eq h2 (by omega) c1 c2, b1, z_ck (by omega) (by omega)]
      obtain ⟨x', μ', V', rc', pa', ln', d1, d2, d3, d4, d5, d6, d7, d8⟩ := ih nf (i + 1) z (C + 2000) μ2 V2 rc2 pa2 ln2 (by omega) (by omega) (by omega) b2 (by omega) hE2 (SM_up b4 (by omega))
      refine ⟨x', μ', V', rc', pa', ln', d1, d2, fun k k1 k2 k3 => by rw [d3 k k1 k2 k3, b3 k k1 k2 k3, a3 k k1 k2 k3], SM_up d4 (by omega), fun w hw => ?_, fun w hw hiw hrw => ?_, fun q => ?_, fun q => ?_⟩
      · have h1 := a5 w hw
        have h2 := b5 w h1.1
        have h3 := d5 w h2.1
        exact ⟨h3.1, by omega⟩
      · by_cases hei : eI n w = i
        · obtain ⟨u', v', hu', hv', -, hc⟩ := wM_on hw
          have huv' : u' = u ∧ v' = v := by
            rcases hc with ⟨rfl, -⟩ | ⟨rfl, -⟩
            · rw [(eI_f hu' hv').1] at hei
              exact ei_inj hn hu' hv' hu hv (by omega) (by omega)
            · rw [(eI_f hu' hv').2] at hei
              exact ei_inj hn hu' hv' hu hv (by omega) (by omega)
          rw [huv'.1, huv'.2] at hc
          rcases hc with ⟨rfl, -⟩ | ⟨rfl, -⟩
          · rw [f1] at hrw
            have h1 := a6 hw hrw
            have h2 := b5 _ h1.1
            have h3 := d5 _ h2.1
            rw [f1, f2, f3]
            exact ⟨h3.1, by omega⟩
          · rw [g1] at hrw
            have h1 := a5 v hrw
            have h2 := b6 hw h1.1
            have h3 := d5 _ h2.1
            rw [g1, g2, g3]
            exact ⟨h3.1, by omega⟩
        · have h1 := a5 _ hrw
          have h2 := b5 _ h1.1
          have h3 := d6 w hw (by omega) h2.1
          exact ⟨h3.1, by omega⟩
      · have h1 := d7 q
        have h2 := b7 h1.1
        have h3 := a7 h2.1
        exact ⟨h3.1, by rw [h1.2.1, h2.2.1, h3.2.1], by rw [h1.2.2, h2.2.2, h3.2.2]⟩
      · have h1 := a8 q
        have q1 : stb (okM n LO HI X) wfM wtM (wpM (PMt B n CO)) (dV B V1) rc1 := by rw [h1.2.1, h1.2.2]; exact q
        have h2 := b8 q1
        have q2 : stb (okM n LO HI X) wfM wtM (wpM (PMt B n CO)) (dV B V2) rc2 := by rw [h2.2.1, h2.2.2]; exact q1
        have h3 := d8 q2
        exact ⟨by rw [h3.1, h2.1, h1.1], by rw [h3.2.1, h2.2.1, h1.2.1], by rw [h3.2.2, h2.2.2, h1.2.2]⟩
    · have hr := z_roomF hn hE hB hp0 hp1
      obtain ⟨e1, e2, -⟩ := hE.2.2 p hp0 hp1
      rw [← he] at hr e1 e2
      rw [fr1_eq h2 (by omega) e1 e2, frM_0 (by decide) (by decide) hr.1, fr2_eq h2 (by omega) e1 e2, frM_0 hp0 (by omega) hr.2, z_ck (by omega) (by omega)]
      obtain ⟨x', μ', V', rc', pa', ln', d1, d2, d3, d4, d5, d6, d7, d8⟩ := ih nf (i + 1) x C μ V rc pa ln (by omega) (by omega) (by omega) hx (by omega) hE hS
      refine ⟨x', μ', V', rc', pa', ln', d1, d2, d3, SM_up d4 (by omega), d5, fun w hw hiw hrw => d6 w hw ?_ hrw, d7, d8⟩
      have hne : eI n w ≠ i := by
        obtain ⟨u', v', hu', hv', -, ⟨rfl, -⟩ | ⟨rfl, -⟩⟩ := wM_on hw
        · rw [(eI_f hu' hv').1, he]
          exact ei_nf hn hu' hv' hp0 hp1
        · rw [(eI_f hu' hv').2, he]
          exact ei_nf hn hu' hv' hp0 hp1
      omega
