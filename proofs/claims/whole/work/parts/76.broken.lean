/-! rules kept and broken -/
def vl (n : Int) (f : Int → Int → Int) (tr : Int → Int) (subj s : Int) : Int := if subj = 9 then tr s else if subj = 8 then tr s + sm (fun p => f p s) 0 n.toNat else f subj s
def stB (n : Int) (f : Int → Int → Int) (tr : Int → Int) : Prop := (2 ≤ n ∧ n ≤ 5) ∧ (∀ p s, 0 ≤ p → p < n → 0 ≤ s → s ≤ 1 → -10000 ≤ f p s ∧ f p s ≤ 11000) ∧ ∀ s, 0 ≤ s → s ≤ 1 → 0 ≤ tr s ∧ tr s ≤ 51200
theorem stB_now {n c : Int} {w : Int → Int} (hv : rv n w c) : stB n (fun p s => w (2 * p + s)) (trN (prs w) w) :=
  ⟨hv.1, fun p s a b c d => by have := hv.2.1 (2 * p + s) (by omega) (by have := hv.1; omega); dsimp only; omega, fun s _ _ => trN_bd hv⟩
theorem stB_cut {n c : Int} {w : Int → Int} (hv : rv n w c) : stB n (sCut w) (trN (tran w) w) :=
  ⟨hv.1, fun p s a b c d => sCut_bd hv a (by have := hv.1; omega) c d, fun s _ _ => trN_bd hv⟩
theorem smf_bd {n s : Int} {f : Int → Int → Int} {tr : Int → Int} (h : stB n f tr) (hs : 0 ≤ s ∧ s ≤ 1) (i : Int) (h0 : 0 ≤ i) (h1 : i ≤ n) : -10000 * i ≤ sm (fun p => f p s) 0 i.toNat ∧ sm (fun p => f p s) 0 i.toNat ≤ 11000 * i := by
  have := sm_bd (f := fun p => f p s) (a := -10000) (b := 11000) (d := i.toNat) (i := 0) (fun j a b => h.2.1 j s a (by omega) hs.1 hs.2)
  omega
theorem vl_bd {n subj s : Int} {f : Int → Int → Int} {tr : Int → Int} (h : stB n f tr) (hs : 0 ≤ s ∧ s ≤ 1) (hj : (0 ≤ subj ∧ subj < n) ∨ subj = 8 ∨ subj = 9) : -200000 ≤ vl n f tr subj s ∧ vl n f tr subj s ≤ 200000 := by
  have h1 := h.2.2 s hs.1 hs.2
  have h2 := smf_bd h hs n (by have := h.1; omega) (Int.le_refl _)
  have h3 := h.1
  unfold vl
  by_cases g9 : subj = 9
  · rw [if_pos g9]; omega
  · rw [if_neg g9]
    by_cases g8 : subj = 8
    · rw [if_pos g8]; omega
    · rw [if_neg g8]
      have := h.2.1 subj s (by omega) (by omega) hs.1 hs.2
      omega
theorem z_valueOf {N : Nat} {n subj s : Int} {f : Int → Int → Int} {tr : Int → Int} {μ : q_M} (hN : 1000 ≤ N) (hm : stM μ n f tr) (h : stB n f tr) (hs : 0 ≤ s ∧ s ≤ 1) (hj : (0 ≤ subj ∧ subj < n) ∨ subj = 8 ∨ subj = 9) : f_St_valueOf N subj s μ = some (vl n f tr subj s) := by
  obtain ⟨m1, m2, m3⟩ := hm
  have h1 := h.2.2 s hs.1 hs.2
  have h3 := h.1
  unfold f_St_valueOf vl
  by_cases g9 : subj = 9
  · rw [if_pos g9, if_pos g9, z_ld (by omega) (by omega), m3 s hs.1 hs.2]
  · rw [if_neg g9, if_neg g9]
    by_cases g8 : subj = 8
    · rw [if_pos g8, if_pos g8, z_ld (by omega) (by omega), m3 s hs.1 hs.2]
      refine ((lp_sum (F := f_St_valueOf_L58 s μ fun x4 => some x4) (E := some) (f := fun p => f p s) (b := n) (fun x i => 0 ≤ i ∧ -10000 * i ≤ x ∧ x ≤ 51200 + 11000 * i) ?_ ?_ n.toNat N (tr s) 0 (by omega) (by omega) (by omega)).1)
      · intro nf x hP
        rw [f_St_valueOf_L58, z_fl, Int.cast_ofNat_Int, m1, if_pos (Int.le_refl _)]
      · intro nf x i hi hP
        have hb := h.2.1 i s hP.1 hi hs.1 hs.2
        refine ⟨?_, by omega, by omega, by omega⟩
        rw [f_St_valueOf_L58, z_fl, Int.cast_ofNat_Int, m1, if_neg (by omega), z_slot hP.1 (by omega) hs.1 hs.2, z_b, z_ld (by omega) (by omega), m2 i s hP.1 hi hs.1 hs.2, z_ck (by omega) (by omega), z_ck (by omega) (by omega)]
    · rw [if_neg g8, if_neg g8, z_fl, Int.cast_ofNat_Int, m1, z_ck (by omega) (by omega), z_within, z_b]
      simp only [z_jn]
      rw [if_pos (show 0 ≤ subj ∧ subj ≤ n - 1 by omega), if_neg (by decide), z_slot (by omega) (by omega) hs.1 hs.2, z_b, z_ld (by omega) (by omega), m2 subj s (by omega) (by omega) hs.1 hs.2]
def kpb (R V : Int → Int) (r v : Int) : Bool := decide ((if R r = 0 then -1000000 else V r) ≤ v) && decide (v ≤ (if R r = 1 then 1000000 else V r))
def ruB (n K : Int) (S T R V : Int → Int) : Prop := (0 ≤ K ∧ K ≤ 12) ∧ ∀ i, 0 ≤ i → i < K → ((0 ≤ S i ∧ S i < n) ∨ S i = 8 ∨ S i = 9) ∧ (0 ≤ T i ∧ T i ≤ 1) ∧ (0 ≤ R i ∧ R i ≤ 2) ∧ (0 ≤ V i ∧ V i ≤ 9999)
def ruC (K : Int) (S T R V : Int → Int) (μ : q_M) : Prop := q_g μ 49 0 = K ∧ ∀ i, 0 ≤ i → i < K → q_g μ 50 i = S i ∧ q_g μ 51 i = T i ∧ q_g μ 52 i = R i ∧ q_g μ 53 i = V i
theorem ru_of {n : Int} {μC μM : q_M} (h : vU n μC μM) : ruB n (q_g μM 0 6) (q_g μM 4) (q_g μM 5) (q_g μM 6) (q_g μM 7) ∧ ruC (q_g μM 0 6) (q_g μM 4) (q_g μM 5) (q_g μM 6) (q_g μM 7) μC := by
  obtain ⟨h1, h2, h3⟩ := h
  refine ⟨⟨h2, fun i a b => ?_⟩, h1, fun i a b => ?_⟩
  · obtain ⟨-, -, -, -, c⟩ := h3 i a b
    exact c
  · obtain ⟨c1, c2, c3, c4, -⟩ := h3 i a b
    exact ⟨c1, c2, c3, c4⟩
theorem ruC_fr {K : Int} {S T R V : Int → Int} {μ μ' : q_M} (h : ruC K S T R V μ) (hf : ∀ k, 49 ≤ k → k ≤ 53 → q_g μ' k = q_g μ k) : ruC K S T R V μ' := by
  unfold ruC
  rw [hf 49 (by omega) (by omega), hf 50 (by omega) (by omega), hf 51 (by omega) (by omega), hf 52 (by omega) (by omega), hf 53 (by omega) (by omega)]
  exact h
theorem z_lowest {K r : Int} {S T R V : Int → Int} {μ : q_M} (hr : ruC K S T R V μ) (hK : K ≤ 12) (h0 : 0 ≤ r) (h1 : r < K) : f_RB_lowest r μ = some (if R r = 0 then -1000000 else V r) := by
  obtain ⟨-, -, c3, c4⟩ := hr.2 r h0 h1
  unfold f_RB_lowest
  simp (disch := omega) only [z_ld, z_jn, c3, c4]
  by_cases g : R r = 0
  · rw [if_pos g, if_pos g]
  · rw [if_neg g, if_neg g]
theorem z_highest {K r : Int} {S T R V : Int → Int} {μ : q_M} (hr : ruC K S T R V μ) (hK : K ≤ 12) (h0 : 0 ≤ r) (h1 : r < K) : f_RB_highest r μ = some (if R r = 1 then 1000000 else V r) := by
  obtain ⟨-, -, c3, c4⟩ := hr.2 r h0 h1
  unfold f_RB_highest
  simp (disch := omega) only [z_ld, z_jn, c3, c4]
  by_cases g : R r = 1
  · rw [if_pos g, if_pos g]
  · rw [if_neg g, if_neg g]
theorem z_isKept {N : Nat} {n K r : Int} {S T R V : Int → Int} {f : Int → Int → Int} {tr : Int → Int} {μ : q_M} (hN : 1000 ≤ N) (hm : stM μ n f tr) (h : stB n f tr) (hB : ruB n K S T R V) (hr : ruC K S T R V μ) (h0 : 0 ≤ r) (h1 : r < K) : f_RB_isKept N r μ = some (bi (kpb R V r (vl n f tr (S r) (T r)))) := by
  obtain ⟨c1, c2, -, -⟩ := hr.2 r h0 h1
  obtain ⟨hK, hb⟩ := hB
  obtain ⟨b1, b2, b3, b4⟩ := hb r h0 h1
  unfold f_RB_isKept
  rw [z_ld (by omega) (by omega), z_ld (by omega) (by omega), c1, c2, z_valueOf hN hm h b2 b1, z_b, z_lowest hr hK.2 h0 h1, z_b, z_highest hr hK.2 h0 h1, z_b, z_within, z_b, z_rzi]
  congr 1
  unfold kpb bi
  generalize (if R r = 0 then -1000000 else V r) = a
  generalize (if R r = 1 then 1000000 else V r) = d
  by_cases g1 : a ≤ vl n f tr (S r) (T r)
  · by_cases g2 : vl n f tr (S r) (T r) ≤ d
    · rw [if_pos ⟨g1, g2⟩, decide_eq_true g1, decide_eq_true g2]; rfl
    · rw [if_neg (fun q => g2 q.2), decide_eq_true g1, decide_eq_false g2]; rfl
  · rw [if_neg (fun q => g1 q.1), decide_eq_false g1]; rfl
/-- the set of the broken rules -/
def brk (k : Int → Bool) : Nat → Int → Int → Int
  | 0, _, x => x
  | d + 1, i, x => brk k d (i + 1) (if k i = true then x else (q_I x ||| (q_I 1 <<< (q_I i &&& 31))).toInt)
theorem z_brokenIn {N : Nat} {n K : Int} {S T R V : Int → Int} {f : Int → Int → Int} {tr : Int → Int} {μ : q_M} (hN : 1000 ≤ N) (hm : stM μ n f tr) (h : stB n f tr) (hB : ruB n K S T R V) (hr : ruC K S T R V μ) : f_RB_brokenIn N μ = some (brk (fun r => kpb R V r (vl n f tr (S r) (T r))) K.toNat 0 0) := by
  have lp : ∀ (d nf : Nat) (x i : Int), i + d = K → 0 ≤ i → d < nf → f_RB_brokenIn_L4 N μ (fun x3 => some x3) nf x i = some (brk (fun r => kpb R V r (vl n f tr (S r) (T r))) d i x) := by
    intro d
    induction d with
    | zero =>
      intro nf x i h1 h2 h3
      obtain ⟨nf, rfl⟩ : ∃ m, nf = m + 1 := ⟨nf - 1, by omega⟩
      rw [f_RB_brokenIn_L4, z_fl, Int.cast_ofNat_Int, hr.1, if_pos (by omega)]
      rfl
    | succ d ih =>
      intro nf x i h1 h2 h3
      obtain ⟨nf, rfl⟩ : ∃ m, nf = m + 1 := ⟨nf - 1, by omega⟩
      have hK := hB.1
      rw [f_RB_brokenIn_L4, z_fl, Int.cast_ofNat_Int, hr.1, if_neg (by omega), z_isKept hN hm h hB hr h2 (by omega), z_b]
      simp only [z_jn, z_bib, brk]
      by_cases g : kpb R V i (vl n f tr (S i) (T i)) = true
      · rw [if_neg (by rw [g]; decide), z_ck (by omega) (by omega), if_pos g]
        exact ih nf x (i + 1) (by omega) (by omega) (by omega)
      · rw [if_pos (by simpa using g), if_neg g]
        unfold q_sl q_or
        dsimp only
        rw [z_ck (by omega) (by omega)]
        rw [ih nf _ (i + 1) (by omega) (by omega) (by omega)]
        rw [show q_I (q_I 1 <<< (q_I i &&& 31)).toInt = q_I 1 <<< (q_I i &&& 31) from q_asI _]
  exact lp K.toNat N 0 0 (by have := hB.1; omega) (by omega) (by have := hB.1; omega)
/-! the model's side -/
theorem z_transitOf {N : Nat} {n c s b : Int} {μ : q_M} (hN : 1000 ≤ N) (hv : rv n (q_g μ 1) c) (hs : 0 ≤ s ∧ s ≤ 1) : f_M_transitOf N s b μ = some (trN (if b = 0 then prs (q_g μ 1) else tran (q_g μ 1)) (q_g μ 1) s) := by
  have hl := hv.2.2.2.1
  unfold f_M_transitOf
  refine ((lp_sum (F := f_M_transitOf_L5 s b μ fun x3 => some x3) (E := some) (f := trS (if b = 0 then prs (q_g μ 1) else tran (q_g μ 1)) (q_g μ 1) s) (b := q_g μ 1 37) (fun x i => 0 ≤ i ∧ 0 ≤ x ∧ x ≤ 100 * i) ?_ ?_ (q_g μ 1 37).toNat N 0 0 (by omega) (by omega) (by omega)).1).trans (by rw [Int.zero_add]; rfl)
  · intro nf x hP
    rw [f_M_transitOf_L5, z_ld (by omega) (by omega), if_pos (Int.le_refl _)]
  · intro nf x i hi hP
    have hb := trS_bd (s := s) (f := if b = 0 then prs (q_g μ 1) else tran (q_g μ 1)) hv hP.1 hi
    have hm := (hv.2.2.2.2.2.2.2.2.2.2.2.2.1 i hP.1 hi).2.2.2.2.1
    refine ⟨?_, by omega, by omega, by omega⟩
    rw [f_M_transitOf_L5, z_ld (by omega) (by omega), if_neg (by omega)]
    simp only [z_jn]
    have fin : ∀ q : Bool, (if b = 0 then prs (q_g μ 1) else tran (q_g μ 1)) i = q → (if bi q = 0 then (q_ck (x + 0) fun x7 => q_ck (i + 1) fun x8 => f_M_transitOf_L5 s b μ (fun x3 => some x3) nf x7 x8) else q_b (f_M_ofMessage i 2 μ) fun x10 => if x10 = s then q_b (f_M_ofMessage i 3 μ) fun x12 => (q_ck (x + x12) fun x7 => q_ck (i + 1) fun x8 => f_M_transitOf_L5 s b μ (fun x3 => some x3) nf x7 x8) else (q_ck (x + 0) fun x7 => q_ck (i + 1) fun x8 => f_M_transitOf_L5 s b μ (fun x3 => some x3) nf x7 x8)) = f_M_transitOf_L5 s b μ (fun x3 => some x3) nf (x + trS (if b = 0 then prs (q_g μ 1) else tran (q_g μ 1)) (q_g μ 1) s i) (i + 1) := by
      intro q hq
      unfold trS
      rw [hq]
      cases q with
      | false =>
        rw [if_pos (by decide), if_neg (fun h => Bool.false_ne_true h.1), z_ck (by omega) (by omega), z_ck (by omega) (by omega)]
      | true =>
        rw [if_neg (by decide), z_ofMessage hP.1 (by omega) (by decide) (by decide), z_b]
        by_cases g : mg (q_g μ 1) i 2 = s
        · rw [if_pos g, if_pos ⟨rfl, g⟩, z_ofMessage hP.1 (by omega) (by decide) (by decide), z_b, z_ck (by omega) (by omega), z_ck (by omega) (by omega)]
        · rw [if_neg g, if_neg (fun h => g h.2), z_ck (by omega) (by omega), z_ck (by omega) (by omega)]
    by_cases g : b = 0
    · rw [if_pos g, z_ofMessage hP.1 (by omega) (by decide) (by decide), z_b]
      by_cases g2 : 0 ≤ mg (q_g μ 1) i 5
      · rw [if_pos g2]
        exact fin false (by rw [if_pos g]; unfold prs; exact decide_eq_false (by omega))
      · rw [if_neg g2]
        exact fin true (by rw [if_pos g]; unfold prs; exact decide_eq_true (by omega))
    · rw [if_neg g, z_isInTransit hv hP.1 hi, z_b]
      exact fin _ (by rw [if_neg g])
/-- the state that the model looks at -/
def fM (w : Int → Int) (b p s : Int) : Int := if b = 0 then w (2 * p + s) else sCut w p s
def tM (w : Int → Int) (b : Int) : Int → Int := trN (if b = 0 then prs w else tran w) w
theorem stB_M {n c b : Int} {w : Int → Int} (hv : rv n w c) : stB n (fM w b) (tM w b) := by
  by_cases g : b = 0
  · have := stB_now hv
    have e1 : fM w b = fun p s => w (2 * p + s) := by funext p s; exact if_pos g
    have e2 : tM w b = trN (prs w) w := by unfold tM; rw [if_pos g]
    rw [e1, e2]; exact this
  · have := stB_cut hv
    have e1 : fM w b = sCut w := by funext p s; exact if_neg g
    have e2 : tM w b = trN (tran w) w := by unfold tM; rw [if_neg g]
    rw [e1, e2]; exact this
theorem sm_one {f : Int → Int} {p : Int} : ∀ {d : Nat} {i : Int}, i ≤ p → p < i + d → (∀ m, i ≤ m → m < i + d → m ≠ p → f m = 0) → sm f i d = f p
  | 0, _, h0, h1, _ => absurd h1 (by omega)
  | d + 1, i, h0, h1, h => by
    unfold sm
    by_cases e : i = p
    · subst e
      rw [sm_zero (fun m a b => h m (by omega) (by omega) (by omega))]
      omega
    · rw [h i (by omega) (by omega) e, sm_one (p := p) (d := d) (i := i + 1) (by omega) (by omega) (fun m a b c => h m (by omega) (by omega) c)]
      omega
theorem z_valueOfM {N : Nat} {n c b r : Int} {μ : q_M} (hN : 1000 ≤ N) (hv : rv n (q_g μ 1) c) (hn : q_g μ 0 0 = n) (h0 : 0 ≤ r) (h12 : r < 12) (hs : 0 ≤ q_g μ 5 r ∧ q_g μ 5 r ≤ 1) (hj : (0 ≤ q_g μ 4 r ∧ q_g μ 4 r < n) ∨ q_g μ 4 r = 8 ∨ q_g μ 4 r = 9) : f_M_valueOf N r b μ = some (vl n (fM (q_g μ 1) b) (tM (q_g μ 1) b) (q_g μ 4 r) (q_g μ 5 r)) := by
  have hst := stB_M (b := b) hv
  generalize hS : q_g μ 4 r = S at hj
  generalize hT : q_g μ 5 r = T at hs
  have hn5 := hv.1
  have htr := hst.2.2 T hs.1 hs.2
  have main : ∀ x0 : Int, 0 ≤ x0 → x0 ≤ 51200 → f_M_valueOf_L33 N r b T μ (fun x6 => some x6) N x0 0 = some (x0 + sm (fun p => if S = 8 ∨ S = p then fM (q_g μ 1) b p T else 0) 0 n.toNat) := by
    intro x0 x1 x2
    refine (lp_sum (F := f_M_valueOf_L33 N r b T μ fun x6 => some x6) (E := some) (f := fun p => if S = 8 ∨ S = p then fM (q_g μ 1) b p T else 0) (b := n) (fun x i => 0 ≤ i ∧ -10000 * i ≤ x ∧ x ≤ 51200 + 11000 * i) ?_ ?_ n.toNat N x0 0 (by omega) (by omega) (by omega)).1
    · intro nf x hP
      rw [f_M_valueOf_L33, z_fl, Int.cast_ofNat_Int, hn, if_pos (Int.le_refl _)]
    · intro nf x i hi hP
      have hb := hst.2.1 i T hP.1 hi hs.1 hs.2
      have yes : (if b = 0 then q_ck (2 * i) fun x13 => q_ck (0 + x13) fun x14 => q_ck (x14 + T) fun x15 => q_ld μ 1 5104 x15 fun x16 => (q_ck (x + x16) fun x11 => q_ck (i + 1) fun x12 => f_M_valueOf_L33 N r b T μ (fun x6 => some x6) nf x11 x12) else q_b (f_M_stockThen N i T μ) fun x18 => (q_ck (x + x18) fun x11 => q_ck (i + 1) fun x12 => f_M_valueOf_L33 N r b T μ (fun x6 => some x6) nf x11 x12)) = f_M_valueOf_L33 N r b T μ (fun x6 => some x6) nf (x + fM (q_g μ 1) b i T) (i + 1) := by
        unfold fM at hb ⊢
        by_cases g : b = 0
        · rw [if_pos g] at hb ⊢
          rw [if_pos g, z_ck (by omega) (by omega), z_ck (by omega) (by omega), z_ck (by omega) (by omega), z_ld (by omega) (by omega), Int.zero_add, z_ck (by omega) (by omega), z_ck (by omega) (by omega)]
        · rw [if_neg g] at hb ⊢
          rw [if_neg g, z_stockThen hN hv hP.1 (by omega) hs.1 hs.2, z_b, z_ck (by omega) (by omega), z_ck (by omega) (by omega)]
      by_cases g8 : S = 8
      · refine ⟨?_, by omega, ?_⟩
        · rw [f_M_valueOf_L33, z_fl, Int.cast_ofNat_Int, hn, if_neg (by omega), z_ld (by omega) (by omega), hS]
          simp only [z_jn]
          rw [if_pos g8, if_neg (by decide), if_pos (Or.inl g8)]
          exact yes
        · rw [if_pos (Or.inl g8)]; omega
      · by_cases gp : S = i
        · refine ⟨?_, by omega, ?_⟩
          · rw [f_M_valueOf_L33, z_fl, Int.cast_ofNat_Int, hn, if_neg (by omega), z_ld (by omega) (by omega), hS]
            simp only [z_jn]
            rw [if_neg g8, z_ld (by omega) (by omega), hS, if_pos gp, if_neg (by decide), if_pos (Or.inr gp)]
            exact yes
          · rw [if_pos (Or.inr gp)]; omega
        · have no : ¬ (S = 8 ∨ S = i) := fun h => h.elim g8 gp
          refine ⟨?_, by omega, ?_⟩
          · rw [f_M_valueOf_L33, z_fl, Int.cast_ofNat_Int, hn, if_neg (by omega), z_ld (by omega) (by omega), hS]
            simp only [z_jn]
            rw [if_neg g8, z_ld (by omega) (by omega), hS, if_neg gp, if_pos trivial, if_neg no, z_ck (by omega) (by omega), z_ck (by omega) (by omega)]
          · rw [if_neg no]; omega
  unfold f_M_valueOf
  rw [z_ld (by omega) (by omega), z_ld (by omega) (by omega), hS, hT]
  simp only [z_jn]
  unfold vl
  by_cases g9 : S = 9
  · rw [if_neg (by omega), z_transitOf hN hv hs, z_b, if_pos g9]
    rw [show trN (if b = 0 then prs (q_g μ 1) else tran (q_g μ 1)) (q_g μ 1) T = tM (q_g μ 1) b T from rfl, main _ htr.1 htr.2, sm_zero (fun j a b => if_neg (by omega))]
    show some (tM (q_g μ 1) b T + 0) = _
    rw [Int.add_zero]
  · by_cases g8 : S = 8
    · rw [if_neg (by omega), z_transitOf hN hv hs, z_b, if_neg g9, if_pos g8]
      rw [show trN (if b = 0 then prs (q_g μ 1) else tran (q_g μ 1)) (q_g μ 1) T = tM (q_g μ 1) b T from rfl, main _ htr.1 htr.2, sm_cong (g := fun p => fM (q_g μ 1) b p T) (fun j _ _ => if_pos (Or.inl g8))]
    · rw [if_pos (by omega), if_neg g9, if_neg g8, main 0 (by omega) (by omega), sm_one (p := S) (by omega) (by omega) (fun m a b c => if_neg (fun h => h.elim g8 (fun q => c q.symm))), if_pos (Or.inr rfl), Int.zero_add]
theorem z_keeps {r v : Int} {μ : q_M} (h0 : 0 ≤ r) (h12 : r < 12) (h2 : 0 ≤ q_g μ 6 r ∧ q_g μ 6 r ≤ 2) (h3 : 0 ≤ q_g μ 7 r ∧ q_g μ 7 r ≤ 9999) (hv : -200000 ≤ v ∧ v ≤ 200000) : f_M_keeps r v μ = some (bi (kpb (q_g μ 6) (q_g μ 7) r v)) := by
  unfold f_M_keeps kpb bi
  simp (disch := omega) only [z_ld, z_jn, z_rz0, z_rz1]
  by_cases g0 : q_g μ 6 r = 0
  · rw [if_pos g0, if_pos g0, if_neg (show ¬ q_g μ 6 r = 1 by omega), decide_eq_true (show -1000000 ≤ v by omega)]
    by_cases g : q_g μ 7 r < v
    · rw [if_pos g, decide_eq_false (by omega)]; rfl
    · rw [if_neg g, decide_eq_true (by omega)]; rfl
  · rw [if_neg g0, if_neg g0]
    by_cases g1 : q_g μ 6 r = 1
    · rw [if_pos g1, if_pos g1, decide_eq_true (show v ≤ 1000000 by omega)]
      by_cases g : v < q_g μ 7 r
      · rw [if_pos g, decide_eq_false (by omega)]; rfl
      · rw [if_neg g, decide_eq_true (by omega)]; rfl
    · rw [if_neg g1, if_neg g1]
      by_cases g : v = q_g μ 7 r
      · rw [if_pos g, decide_eq_true (by omega), decide_eq_true (by omega)]; rfl
      · rw [if_neg g]
        by_cases g2 : q_g μ 7 r ≤ v
        · rw [decide_eq_true g2, decide_eq_false (by omega)]; rfl
        · rw [decide_eq_false g2]; rfl
theorem brk_r {k : Int → Bool} : ∀ {d : Nat} {i x : Int}, q_R x → q_R (brk k d i x)
  | 0, _, _, h => h
  | d + 1, i, x, h => by
    unfold brk
    refine brk_r ?_
    by_cases g : k i = true
    · rw [if_pos g]; exact h
    · rw [if_neg g]; exact q_rI _
theorem z_brokenNow {N : Nat} {n c b : Int} {μ : q_M} (hN : 1000 ≤ N) (hv : rv n (q_g μ 1) c) (hn : q_g μ 0 0 = n) (hB : ruB n (q_g μ 0 6) (q_g μ 4) (q_g μ 5) (q_g μ 6) (q_g μ 7)) : f_M_brokenNow N b μ = some (brk (fun r => kpb (q_g μ 6) (q_g μ 7) r (vl n (fM (q_g μ 1) b) (tM (q_g μ 1) b) (q_g μ 4 r) (q_g μ 5 r))) (q_g μ 0 6).toNat 0 0) := by
  have lp : ∀ (d nf : Nat) (x i : Int), i + d = q_g μ 0 6 → 0 ≤ i → d < nf → q_R x → f_M_brokenNow_L4 N b μ (fun x3 => some x3) nf x i = some (brk (fun r => kpb (q_g μ 6) (q_g μ 7) r (vl n (fM (q_g μ 1) b) (tM (q_g μ 1) b) (q_g μ 4 r) (q_g μ 5 r))) d i x) := by
    intro d
    induction d with
    | zero =>
      intro nf x i h1 h2 h3 hx
      obtain ⟨nf, rfl⟩ : ∃ m, nf = m + 1 := ⟨nf - 1, by omega⟩
      rw [f_M_brokenNow_L4, z_fl, Int.cast_ofNat_Int, if_pos (by omega)]
      rfl
    | succ d ih =>
      intro nf x i h1 h2 h3 hx
      obtain ⟨nf, rfl⟩ : ∃ m, nf = m + 1 := ⟨nf - 1, by omega⟩
      obtain ⟨hK, hb⟩ := hB
      obtain ⟨b1, b2, b3, b4⟩ := hb i h2 (by omega)
      have hvb := vl_bd (stB_M (b := b) hv) b2 b1
      rw [f_M_brokenNow_L4, z_fl, Int.cast_ofNat_Int, if_neg (by omega), z_valueOfM hN hv hn h2 (by omega) b2 b1, z_b, z_keeps h2 (by omega) b3 b4 hvb, z_b]
      simp only [z_jn, z_bib, brk]
      by_cases g : kpb (q_g μ 6) (q_g μ 7) i (vl n (fM (q_g μ 1) b) (tM (q_g μ 1) b) (q_g μ 4 i) (q_g μ 5 i)) = true
      · rw [if_neg (by rw [g]; decide), if_pos g]
        unfold q_or
        dsimp only
        rw [z_ck (by omega) (by omega), show q_I 0 = 0 from rfl, Int32.or_zero, q_toI hx]
        exact ih nf x (i + 1) (by omega) (by omega) (by omega) hx
      · rw [if_pos (by simpa using g), if_neg g]
        unfold q_sl q_or
        dsimp only
        rw [z_ck (by omega) (by omega), show q_I (q_I 1 <<< (q_I i &&& 31)).toInt = q_I 1 <<< (q_I i &&& 31) from q_asI _]
        exact ih nf _ (i + 1) (by omega) (by omega) (by omega) (q_rI _)
  exact lp _ N 0 0 (by have := hB.1; omega) (by omega) (by have := hB.1; omega) q_r0
theorem s_broken {N : Nat} (hN : 1000 ≤ N) : q_st_broken N vI := by
  intro c μC μM hc hI a0 h0
  obtain ⟨n, hr, hv, hn, hA, hT, hU, hK⟩ := hI
  obtain ⟨hB, hRc⟩ := ru_of hU
  have fin : ∀ μ1, (∀ k, k < 56 ∨ 58 < k → q_g μ1 k = q_g μC k) → vI (c + 1) μ1 μM := fun μ1 hf => vI_out hr hv hA hn hc (fun k hk => hf k (by omega)) rfl rfl rfl rfl (vT_out hT (hf 47 (by omega)) (hf 48 (by omega)) rfl rfl) (vU_out hU (fun k h1 h2 => hf k (by omega)) rfl (fun _ _ _ => rfl)) (vK_out hK (hf 54 (by omega)) (hf 55 (by omega)) rfl rfl rfl)
  unfold f_CR_broken f_M_broken
  simp only [z_jn]
  by_cases g : a0 = 0
  · obtain ⟨μ1, a1, a2, a3⟩ := z_readPresent hN (by omega) hr hv
    rw [if_pos g, if_pos g, a1, z_b, z_brokenIn hN a3 (stB_now hv) hB (ruC_fr hRc (fun k h1 h2 => a2 k (by omega))), z_b, z_brokenNow hN hv hn hB, z_b]
    have e1 : fM (q_g μM 1) a0 = fun p s => q_g μM 1 (2 * p + s) := by funext p s; exact if_pos g
    have e2 : tM (q_g μM 1) a0 = trN (prs (q_g μM 1)) (q_g μM 1) := by unfold tM; rw [if_pos g]
    rw [e1, e2]
    exact ⟨_, _, rfl, rfl, fin μ1 a2⟩
  · rw [if_neg g, if_neg g, z_countOrphans hN hr hv, z_b, z_orphansNow hN hv, z_b]
    by_cases go : nOrph (q_g μM 1) ≤ 0
    · obtain ⟨μ1, a1, a2, a3⟩ := z_readCut hN (by omega) hr hv
      rw [if_pos go, if_pos go, a1, z_b, z_brokenIn hN a3 (stB_cut hv) hB (ruC_fr hRc (fun k h1 h2 => a2 k (by omega))), z_b, z_brokenNow hN hv hn hB, z_b]
      have e1 : fM (q_g μM 1) a0 = sCut (q_g μM 1) := by funext p s; exact if_neg g
      have e2 : tM (q_g μM 1) a0 = trN (tran (q_g μM 1)) (q_g μM 1) := by unfold tM; rw [if_neg g]
      rw [e1, e2]
      exact ⟨_, _, rfl, rfl, fin μ1 a2⟩
    · rw [if_neg go, if_neg go]
      exact ⟨_, _, rfl, rfl, fin μC (fun _ _ => rfl)⟩
