/-! the class's flow laid out and narrowed -/
def fL (S T R V : Int → Int) (subj st : Int) : Nat → Int
  | 0 => 0
  | k + 1 => if (S k = subj ∧ T k = st) ∧ 0 < R k ∧ fL S T R V subj st k < V k then V k else fL S T R V subj st k
def fH (S T R V : Int → Int) (subj st most : Int) : Nat → Int
  | 0 => most
  | k + 1 => if (S k = subj ∧ T k = st) ∧ R k ≠ 1 ∧ V k < fH S T R V subj st most k then V k else fH S T R V subj st most k
theorem fL_s {S T R V : Int → Int} {subj st : Int} {k : Nat} : fL S T R V subj st (k + 1) = if (S k = subj ∧ T k = st) ∧ 0 < R k ∧ fL S T R V subj st k < V k then V k else fL S T R V subj st k := rfl
theorem fH_s {S T R V : Int → Int} {subj st most : Int} {k : Nat} : fH S T R V subj st most (k + 1) = if (S k = subj ∧ T k = st) ∧ R k ≠ 1 ∧ V k < fH S T R V subj st most k then V k else fH S T R V subj st most k := rfl
theorem fL_bd {n K subj st : Int} {S T R V : Int → Int} (hB : ruB n K S T R V) : ∀ k : Nat, (k : Int) ≤ K → 0 ≤ fL S T R V subj st k ∧ fL S T R V subj st k ≤ 9999
  | 0, _ => by simp [fL]
  | k + 1, h => by
    have ih := fL_bd (subj := subj) (st := st) hB k (by omega)
    have hb := (hB.2 k (by omega) (by omega)).2.2.2
    rw [fL_s]
    by_cases g : (S k = subj ∧ T k = st) ∧ 0 < R k ∧ fL S T R V subj st k < V k
    · rw [if_pos g]; exact hb
    · rw [if_neg g]; exact ih
theorem fH_bd {n K subj st most : Int} {S T R V : Int → Int} (hB : ruB n K S T R V) (hm : 0 ≤ most) : ∀ k : Nat, (k : Int) ≤ K → 0 ≤ fH S T R V subj st most k ∧ fH S T R V subj st most k ≤ most
  | 0, _ => by simp [fH, hm]
  | k + 1, h => by
    have ih := fH_bd (subj := subj) (st := st) hB hm k (by omega)
    have hb := (hB.2 k (by omega) (by omega)).2.2.2
    rw [fH_s]
    by_cases g : (S k = subj ∧ T k = st) ∧ R k ≠ 1 ∧ V k < fH S T R V subj st most k
    · rw [if_pos g]; omega
    · rw [if_neg g]; exact ih
/-- what the rules ask of the transit -/
theorem f9_iff {n K st tr : Int} {S T R V : Int → Int} (hB : ruB n K S T R V) (ht : 0 ≤ tr ∧ tr ≤ 100000) : ∀ k : Nat, (k : Int) ≤ K → ((∀ r : Int, 0 ≤ r → r < k → T r = st → S r = 9 → kpb R V r tr = true) ↔ (fL S T R V 9 st k ≤ tr ∧ tr ≤ fH S T R V 9 st 100000 k))
  | 0, _ => by
    constructor
    · intro _
      exact ⟨ht.1, ht.2⟩
    · intro _ r h0 h1
      omega
  | k + 1, h => by
    have ih := f9_iff (st := st) hB ht k (by omega)
    obtain ⟨-, -, hR, hV⟩ := hB.2 k (by omega) (by omega)
    have step : kpb R V k tr = true ↔ ((0 < R k → V k ≤ tr) ∧ (R k ≠ 1 → tr ≤ V k)) := by
      unfold kpb
      rw [Bool.and_eq_true, decide_eq_true_eq, decide_eq_true_eq]
      by_cases a : R k = 0
      · rw [if_pos a, if_neg (by omega)]
        omega
      · rw [if_neg a]
        by_cases b : R k = 1
        · rw [if_pos b]; omega
        · rw [if_neg b]; omega
    have split : (∀ r : Int, 0 ≤ r → r < (k + 1 : Nat) → T r = st → S r = 9 → kpb R V r tr = true) ↔ ((∀ r : Int, 0 ≤ r → r < k → T r = st → S r = 9 → kpb R V r tr = true) ∧ (T k = st → S k = 9 → kpb R V k tr = true)) := by
      constructor
      · intro g
        exact ⟨fun r a b => g r a (by omega), g k (by omega) (by omega)⟩
      · intro g r a b
        by_cases e : r = k
        · rw [e]; exact g.2
        · exact g.1 r a (by omega)
    rw [split, ih, step]
    simp only [fL_s, fH_s]
    by_cases m : S k = 9 ∧ T k = st
    · have m2 : (T k = st → S k = 9 → (0 < R k → V k ≤ tr) ∧ (R k ≠ 1 → tr ≤ V k)) ↔ ((0 < R k → V k ≤ tr) ∧ (R k ≠ 1 → tr ≤ V k)) := ⟨fun g => g m.2 m.1, fun g _ _ => g⟩
      rw [m2]
      by_cases a : 0 < R k
      · by_cases b : fL S T R V 9 st k < V k
        · rw [if_pos ⟨m, a, b⟩]
          by_cases c : R k ≠ 1
          · by_cases d : V k < fH S T R V 9 st 100000 k
            · rw [if_pos ⟨m, c, d⟩]; omega
            · rw [if_neg (fun g => d g.2.2)]; omega
          · rw [if_neg (fun g => c g.2.1)]; omega
        · rw [if_neg (fun g => b g.2.2)]
          by_cases c : R k ≠ 1
          · by_cases d : V k < fH S T R V 9 st 100000 k
            · rw [if_pos ⟨m, c, d⟩]; omega
            · rw [if_neg (fun g => d g.2.2)]; omega
          · rw [if_neg (fun g => c g.2.1)]; omega
      · rw [if_neg (fun g => a g.2.1)]
        by_cases c : R k ≠ 1
        · by_cases d : V k < fH S T R V 9 st 100000 k
          · rw [if_pos ⟨m, c, d⟩]; omega
          · rw [if_neg (fun g => d g.2.2)]; omega
        · rw [if_neg (fun g => c g.2.1)]; omega
    · rw [if_neg (fun g => m g.1), if_neg (fun g => m g.1)]
      constructor
      · intro g; exact g.1
      · intro g; exact ⟨g, fun a b => absurd ⟨b, a⟩ m⟩
def mx0 (x : Int) : Int := if x < 0 then 0 else x
def mnI (a b : Int) : Int := if b < a then b else a
/-- lowest and highest flows of the class after k rules -/
def loC (S T R V : Int → Int) (n st tr : Int) (k : Nat) (u v : Int) : Int := if v = 6 ∧ u < n then fL S T R V u st k else if u = 6 ∧ v = 5 then mx0 (fL S T R V 8 st k - tr) else 0
def hiC (S T R V : Int → Int) (n st tr : Int) (k : Nat) (u v : Int) : Int := if 0 ≤ plc n u v then 1000000 else if v = 6 ∧ u < n then fH S T R V u st 1000 k else if u = 6 ∧ v = 5 then mnI (n * 1000) (fH S T R V 8 st 100000 k - tr) else 0
theorem z_narrow {o : Nat} {u v l h lo hi : Int} {μ : q_M} (hu : nd u) (hv : nd v) (h2 : q_g μ (o + 2) (u * 7 + v) = l) (h3 : q_g μ (o + 3) (u * 7 + v) = h) : f_Fl_narrow o u v lo hi μ = some (q_x (q_x μ (o + 2) (u * 7 + v) (if l < lo then lo else l)) (o + 3) (u * 7 + v) (if hi < h then hi else h)) := by
  have a1 := hu.1
  have a2 := hu.2
  have a3 := hv.1
  have a4 := hv.2
  unfold f_Fl_narrow
  rw [z_arc hu hv, z_b, z_ld (by omega) (by omega), h2, z_mx, z_st (by omega) (by omega), z_ld (by omega) (by omega), g_sn (by omega), h3, z_mn, z_st (by omega) (by omega)]
def obS (S T R V : Int → Int) (n st tr : Int) (o : Nat) (k : Nat) (μ : q_M) : Prop := ∀ u v, nd u → nd v → q_g μ (o + 2) (u * 7 + v) = loC S T R V n st tr k u v ∧ q_g μ (o + 3) (u * 7 + v) = hiC S T R V n st tr k u v
theorem plc6 {n u : Int} (hn : ni n) (hu : nd u) : plc n u 6 = -1 ∧ plc n 6 u = -1 := by
  have h5 : n ≤ 5 := by rcases hn with rfl | rfl | rfl | rfl <;> decide
  unfold plc
  rw [if_neg (by omega), if_neg (by omega), if_neg (by omega), if_neg (by omega), if_neg (by omega), if_neg (by omega)]
  exact ⟨rfl, rfl⟩
theorem loC_65 {S T R V : Int → Int} {n st tr : Int} {k : Nat} : loC S T R V n st tr k 6 5 = mx0 (fL S T R V 8 st k - tr) := by
  unfold loC
  rw [if_neg (fun h => absurd h.1 (by decide)), if_pos ⟨rfl, rfl⟩]
theorem hiC_65 {S T R V : Int → Int} {n st tr : Int} {k : Nat} (hn : ni n) : hiC S T R V n st tr k 6 5 = mnI (n * 1000) (fH S T R V 8 st 100000 k - tr) := by
  unfold hiC
  rw [(plc6 hn (u := 5) ⟨by decide, by decide⟩).2, if_neg (show ¬ (0 : Int) ≤ -1 by decide), if_neg (fun h => absurd h.1 (by decide)), if_pos ⟨rfl, rfl⟩]
theorem loC_p6 {S T R V : Int → Int} {n st tr a : Int} {k : Nat} (h : a < n) : loC S T R V n st tr k a 6 = fL S T R V a st k := by
  unfold loC
  rw [if_pos ⟨rfl, h⟩]
theorem hiC_p6 {S T R V : Int → Int} {n st tr a : Int} {k : Nat} (hn : ni n) (ha : nd a) (h : a < n) : hiC S T R V n st tr k a 6 = fH S T R V a st 1000 k := by
  unfold hiC
  rw [(plc6 hn ha).1, if_neg (show ¬ (0 : Int) ≤ -1 by decide), if_pos ⟨rfl, h⟩]
theorem ob_step {S T R V : Int → Int} {n st tr K : Int} {o k : Nat} {μ : q_M} (hn : ni n) (hB : ruB n K S T R V) (ht : 0 ≤ tr ∧ tr ≤ 51200) (hk : (k : Int) < K) (h : obS S T R V n st tr o k μ) (hT : T k = st) (h9 : S k ≠ 9) {a b lo hi : Int} (hab : (S k = 8 ∧ a = 6 ∧ b = 5 ∧ lo = (if R k = 0 then -1000000 else V k) - tr ∧ hi = (if R k = 1 then 1000000 else V k) - tr) ∨ (S k ≠ 8 ∧ a = S k ∧ b = 6 ∧ lo = (if R k = 0 then -1000000 else V k) ∧ hi = (if R k = 1 then 1000000 else V k))) : ∃ μ', f_Fl_narrow o a b lo hi μ = some μ' ∧ obS S T R V n st tr o (k + 1) μ' ∧ ∀ j, j ≠ o + 2 → j ≠ o + 3 → q_g μ' j = q_g μ j := by
  have h5 : 2 ≤ n ∧ n ≤ 5 := by rcases hn with rfl | rfl | rfl | rfl <;> decide
  obtain ⟨hS, -, hR, hV⟩ := hB.2 k (by omega) hk
  have na : nd a := by rcases hab with ⟨-, q, -⟩ | ⟨q0, q, -⟩ <;> rw [q] <;> exact ⟨by omega, by omega⟩
  have nb : nd b := by rcases hab with ⟨-, -, q, -⟩ | ⟨-, -, q, -⟩ <;> rw [q] <;> exact ⟨by omega, by omega⟩
  obtain ⟨c1, c2⟩ := h a b na nb
  refine ⟨_, z_narrow na nb c1 c2, fun u v hu hv => ?_, fun j j1 j2 => by rw [g_sn j2, g_sn j1]⟩
  have a1 := na.1
  have a2 := na.2
  have b1 := nb.1
  have b2 := nb.2
  have u1 := hu.1
  have u2 := hu.2
  have v1 := hv.1
  have v2 := hv.2
  have e8 := fL_bd (subj := 8) (st := st) hB k (by omega)
  have e8h := fH_bd (subj := 8) (st := st) (most := 100000) hB (by omega) k (by omega)
  rw [g_sn (show o + 2 ≠ o + 3 by omega), g_s (by omega), g_s (by omega), g_sn (show o + 3 ≠ o + 2 by omega)]
  by_cases z : u = a ∧ v = b
  · rw [z.1, z.2, u_s, u_s]
    rcases hab with ⟨s8, qa, qb, ql, qh⟩ | ⟨s8, qa, qb, ql, qh⟩
    · rw [qa, qb, ql, qh]
      rw [loC_65, hiC_65 hn, loC_65, hiC_65 hn, fL_s, fH_s]
      unfold mx0 mnI
      generalize hfl : fL S T R V 8 st k = fl at e8
      generalize hfh : fH S T R V 8 st 100000 k = fh at e8h
      refine ⟨?_, ?_⟩
      · by_cases q0 : R k = 0
        · rw [if_pos q0, if_neg (show ¬ ((S k = 8 ∧ T k = st) ∧ 0 < R k ∧ fl < V k) by omega)]
          by_cases q1 : fl - tr < 0
          · rw [if_pos q1, if_neg (by omega)]
          · rw [if_neg q1, if_neg (by omega)]
        · rw [if_neg q0]
          by_cases q2 : fl < V k
          · rw [if_pos (show (S k = 8 ∧ T k = st) ∧ 0 < R k ∧ fl < V k from ⟨⟨s8, hT⟩, by omega, q2⟩)]
            by_cases q1 : fl - tr < 0
            · rw [if_pos q1]
              by_cases q3 : V k - tr < 0
              · rw [if_pos q3, if_neg (by omega)]
              · rw [if_neg q3]
                by_cases q4 : 0 < V k - tr
                · rw [if_pos q4]
                · rw [if_neg q4]; omega
            · rw [if_neg q1, if_pos (by omega), if_neg (by omega)]
          · rw [if_neg (show ¬ ((S k = 8 ∧ T k = st) ∧ 0 < R k ∧ fl < V k) by omega)]
            by_cases q1 : fl - tr < 0
            · rw [if_pos q1, if_neg (by omega)]
            · rw [if_neg q1, if_neg (by omega)]
      · by_cases q0 : R k = 1
        · rw [if_pos q0, if_neg (show ¬ ((S k = 8 ∧ T k = st) ∧ R k ≠ 1 ∧ V k < fh) by omega)]
          by_cases q1 : fh - tr < n * 1000
          · rw [if_pos q1, if_neg (by omega)]
          · rw [if_neg q1, if_neg (by omega)]
        · rw [if_neg q0]
          by_cases q2 : V k < fh
          · rw [if_pos (show (S k = 8 ∧ T k = st) ∧ R k ≠ 1 ∧ V k < fh from ⟨⟨s8, hT⟩, q0, q2⟩)]
            by_cases q1 : fh - tr < n * 1000
            · rw [if_pos q1, if_pos (by omega), if_pos (by omega)]
            · rw [if_neg q1]
          · rw [if_neg (show ¬ ((S k = 8 ∧ T k = st) ∧ R k ≠ 1 ∧ V k < fh) by omega)]
            by_cases q1 : fh - tr < n * 1000
            · rw [if_pos q1, if_neg (by omega)]
            · rw [if_neg q1, if_neg (by omega)]
    · have ean : a < n := by omega
      rw [qb, ql, qh, loC_p6 ean, hiC_p6 hn na ean, loC_p6 ean, hiC_p6 hn na ean, fL_s, fH_s]
      have e1 := fL_bd (subj := a) (st := st) hB k (by omega)
      have e1h := fH_bd (subj := a) (st := st) (most := 1000) hB (by omega) k (by omega)
      generalize hfl : fL S T R V a st k = fl at e1
      generalize hfh : fH S T R V a st 1000 k = fh at e1h
      refine ⟨?_, ?_⟩
      · by_cases q0 : R k = 0
        · rw [if_pos q0, if_neg (show ¬ ((S k = a ∧ T k = st) ∧ 0 < R k ∧ fl < V k) by omega), if_neg (by omega)]
        · rw [if_neg q0]
          by_cases q2 : fl < V k
          · rw [if_pos (show (S k = a ∧ T k = st) ∧ 0 < R k ∧ fl < V k from ⟨⟨qa.symm, hT⟩, by omega, q2⟩), if_pos q2]
          · rw [if_neg (show ¬ ((S k = a ∧ T k = st) ∧ 0 < R k ∧ fl < V k) by omega), if_neg q2]
      · by_cases q0 : R k = 1
        · rw [if_pos q0, if_neg (show ¬ ((S k = a ∧ T k = st) ∧ R k ≠ 1 ∧ V k < fh) by omega), if_neg (by omega)]
        · rw [if_neg q0]
          by_cases q2 : V k < fh
          · rw [if_pos (show (S k = a ∧ T k = st) ∧ R k ≠ 1 ∧ V k < fh from ⟨⟨qa.symm, hT⟩, q0, q2⟩), if_pos q2]
          · rw [if_neg (show ¬ ((S k = a ∧ T k = st) ∧ R k ≠ 1 ∧ V k < fh) by omega), if_neg q2]
  · rw [u_n (by omega), u_n (by omega)]
    have := h u v hu hv
    rw [this.1, this.2]
    unfold loC hiC
    simp only [fL_s, fH_s]
    have hne : ¬ (v = 6 ∧ u < n) ∨ ¬ (S k = u ∧ T k = st) := by
      rcases hab with ⟨s8, qa, qb, ql, qh⟩ | ⟨s8, qa, qb, ql, qh⟩ <;> omega
    have hne8 : ¬ (u = 6 ∧ v = 5) ∨ ¬ (S k = 8 ∧ T k = st) := by
      rcases hab with ⟨s8, qa, qb, ql, qh⟩ | ⟨s8, qa, qb, ql, qh⟩ <;> omega
    refine ⟨?_, ?_⟩
    · by_cases y1 : v = 6 ∧ u < n
      · rw [if_pos y1, if_pos y1, if_neg (fun g => hne.elim (fun q => q y1) (fun q => q g.1))]
      · rw [if_neg y1, if_neg y1]
        by_cases y2 : u = 6 ∧ v = 5
        · rw [if_pos y2, if_pos y2, if_neg (fun g => hne8.elim (fun q => q y2) (fun q => q g.1))]
        · rw [if_neg y2, if_neg y2]
    · by_cases y0 : 0 ≤ plc n u v
      · rw [if_pos y0, if_pos y0]
      · rw [if_neg y0, if_neg y0]
        by_cases y1 : v = 6 ∧ u < n
        · rw [if_pos y1, if_pos y1, if_neg (fun g => hne.elim (fun q => q y1) (fun q => q g.1))]
        · rw [if_neg y1, if_neg y1]
          by_cases y2 : u = 6 ∧ v = 5
          · rw [if_pos y2, if_pos y2, if_neg (fun g => hne8.elim (fun q => q y2) (fun q => q g.1))]
          · rw [if_neg y2, if_neg y2]
theorem ob_skip {S T R V : Int → Int} {n st tr : Int} {o k : Nat} {μ : q_M} (hn : ni n) (h : obS S T R V n st tr o k μ) (hs : T k ≠ st ∨ S k = 9) : obS S T R V n st tr o (k + 1) μ := by
  have h5 : 2 ≤ n ∧ n ≤ 5 := by rcases hn with rfl | rfl | rfl | rfl <;> decide
  intro u v hu hv
  have := h u v hu hv
  rw [this.1, this.2]
  unfold loC hiC
  simp only [fL_s, fH_s]
  have hne : ¬ (v = 6 ∧ u < n) ∨ ¬ (S k = u ∧ T k = st) := by omega
  have hne8 : ¬ (S k = 8 ∧ T k = st) := by omega
  refine ⟨?_, ?_⟩
  · by_cases y1 : v = 6 ∧ u < n
    · rw [if_pos y1, if_pos y1, if_neg (fun g => hne.elim (fun q => q y1) (fun q => q g.1))]
    · rw [if_neg y1, if_neg y1]
      by_cases y2 : u = 6 ∧ v = 5
      · rw [if_pos y2, if_pos y2, if_neg (fun g => hne8 g.1)]
      · rw [if_neg y2, if_neg y2]
  · by_cases y0 : 0 ≤ plc n u v
    · rw [if_pos y0, if_pos y0]
    · rw [if_neg y0, if_neg y0]
      by_cases y1 : v = 6 ∧ u < n
      · rw [if_pos y1, if_pos y1, if_neg (fun g => hne.elim (fun q => q y1) (fun q => q g.1))]
      · rw [if_neg y1, if_neg y1]
        by_cases y2 : u = 6 ∧ v = 5
        · rw [if_pos y2, if_pos y2, if_neg (fun g => hne8 g.1)]
        · rw [if_neg y2, if_neg y2]
def flo (s : Int) : Nat := if s = 0 then 61 else 69
theorem q_ao_flo {α : Type} {s : Int} {K : Nat → Option α} (hs : s = 0 ∨ s = 1) : q_ao s 61 69 K = K (flo s) := by
  unfold q_ao flo
  rcases hs with rfl | rfl
  · rfl
  · rfl
theorem stM_fr {n : Int} {f : Int → Int → Int} {tr : Int → Int} {μ μ' : q_M} (h : stM μ n f tr) (hf : ∀ k, 56 ≤ k → k ≤ 58 → q_g μ' k = q_g μ k) : stM μ' n f tr := by
  unfold stM
  rw [hf 56 (by omega) (by omega), hf 57 (by omega) (by omega), hf 58 (by omega) (by omega)]
  exact h
theorem z_obey {N : Nat} {n K st : Int} {S T R V : Int → Int} {f : Int → Int → Int} {tr : Int → Int} {μ : q_M} (hN : 1000 ≤ N) (hst : st = 0 ∨ st = 1) (hb : stB n f tr) (hB : ruB n K S T R V) (hm : stM μ n f tr) (hr : ruC K S T R V μ) (h0 : obS S T R V n st (tr st) (flo st) 0 μ) :
    ∃ x μ', f_Re_obey N st μ = some (x, μ') ∧ (∀ j, j ≠ flo st + 2 → j ≠ flo st + 3 → q_g μ' j = q_g μ j) ∧ ((x = 1 ∧ obS S T R V n st (tr st) (flo st) K.toNat μ' ∧ fL S T R V 9 st K.toNat ≤ tr st ∧ tr st ≤ fH S T R V 9 st 100000 K.toNat) ∨ (x = 0 ∧ ¬ (fL S T R V 9 st K.toNat ≤ tr st ∧ tr st ≤ fH S T R V 9 st 100000 K.toNat))) := by
  have hn := ni_of hb.1
  have hK := hB.1
  have htr := hb.2.2 st (by omega) (by omega)
  have ho : 61 ≤ flo st ∧ flo st ≤ 69 := by unfold flo; rcases hst with rfl | rfl <;> decide
  have lp : ∀ (d nf : Nat) (i : Int) (μ : q_M), i + d = K → 0 ≤ i → d < nf → stM μ n f tr → ruC K S T R V μ → obS S T R V n st (tr st) (flo st) i.toNat μ → (∀ r : Int, 0 ≤ r → r < i → T r = st → S r = 9 → kpb R V r (tr st) = true) → ∃ x μ', f_Re_obey_L3 N st (fun μ3 => some (0, μ3)) (fun μ4 => some (1, μ4)) nf i μ = some (x, μ') ∧ (∀ j, j ≠ flo st + 2 → j ≠ flo st + 3 → q_g μ' j = q_g μ j) ∧ ((x = 1 ∧ obS S T R V n st (tr st) (flo st) K.toNat μ' ∧ fL S T R V 9 st K.toNat ≤ tr st ∧ tr st ≤ fH S T R V 9 st 100000 K.toNat) ∨ (x = 0 ∧ ¬ (fL S T R V 9 st K.toNat ≤ tr st ∧ tr st ≤ fH S T R V 9 st 100000 K.toNat))) := by
    intro d
    induction d with
    | zero =>
      intro nf i μ h1 h2 h3 hm hr ho' hk
      obtain ⟨nf, rfl⟩ : ∃ m, nf = m + 1 := ⟨nf - 1, by omega⟩
      have e : i = K := by omega
      subst e
      refine ⟨1, μ, by rw [f_Re_obey_L3, z_fl, Int.cast_ofNat_Int, hr.1, if_pos (Int.le_refl _)], fun _ _ _ => rfl, Or.inl ⟨rfl, ho', ?_⟩⟩
      exact (f9_iff hB (by omega) i.toNat (by omega)).mp (fun r a b => hk r a (by omega))
    | succ d ih =>
      intro nf i μ h1 h2 h3 hm hr ho' hk
      obtain ⟨nf, rfl⟩ : ∃ m, nf = m + 1 := ⟨nf - 1, by omega⟩
      obtain ⟨c1, c2, c3, c4⟩ := hr.2 i h2 (by omega)
      obtain ⟨b1, b2, b3, b4⟩ := hB.2 i h2 (by omega)
      have hi : (i + 1).toNat = i.toNat + 1 := by omega
      have hii : ((i.toNat : Nat) : Int) = i := by omega
      rw [f_Re_obey_L3, z_fl, Int.cast_ofNat_Int, hr.1, if_neg (by omega), z_ld (by omega) (by omega), c2]
      simp only [z_jn]
      have pass : (T i ≠ st ∨ S i = 9) → (T i = st → S i = 9 → kpb R V i (tr st) = true) → ∃ x μ', (q_ck (i + 1) fun x8 => f_Re_obey_L3 N st (fun μ3 => some (0, μ3)) (fun μ4 => some (1, μ4)) nf x8 μ) = some (x, μ') ∧ (∀ j, j ≠ flo st + 2 → j ≠ flo st + 3 → q_g μ' j = q_g μ j) ∧ ((x = 1 ∧ obS S T R V n st (tr st) (flo st) K.toNat μ' ∧ fL S T R V 9 st K.toNat ≤ tr st ∧ tr st ≤ fH S T R V 9 st 100000 K.toNat) ∨ (x = 0 ∧ ¬ (fL S T R V 9 st K.toNat ≤ tr st ∧ tr st ≤ fH S T R V 9 st 100000 K.toNat))) := by
        intro hs hk2
        rw [z_ck (by omega) (by omega)]
        refine ih nf (i + 1) μ (by omega) (by omega) (by omega) hm hr (by rw [hi]; exact ob_skip hn ho' (by rw [hii]; exact hs)) (fun r a b => ?_)
        by_cases e : r = i
        · rw [e]; exact hk2
        · exact hk r a (by omega)
      by_cases g : T i = st
      · rw [if_pos g, z_ld (by omega) (by omega), c1]
        by_cases g9 : S i = 9
        · rw [if_pos g9, z_isKept hN hm hb hB hr h2 (by omega), z_b]
          have hvl : vl n f tr (S i) (T i) = tr st := by unfold vl; rw [if_pos g9, g]
          rw [hvl]
          simp only [z_bib]
          by_cases q : kpb R V i (tr st) = true
          · rw [if_neg (by rw [q]; decide)]
            exact pass (Or.inr g9) (fun _ _ => q)
          · rw [if_pos (by simpa using q)]
            refine ⟨0, μ, rfl, fun _ _ _ => rfl, Or.inr ⟨rfl, fun h => q ?_⟩⟩
            exact (f9_iff hB (by omega) K.toNat (by omega)).mpr h i h2 (by omega) g g9
        · have cont : ∀ a b lo hi, ((S i = 8 ∧ a = 6 ∧ b = 5 ∧ lo = (if R i = 0 then -1000000 else V i) - tr st ∧ hi = (if R i = 1 then 1000000 else V i) - tr st) ∨ (S i ≠ 8 ∧ a = S i ∧ b = 6 ∧ lo = (if R i = 0 then -1000000 else V i) ∧ hi = (if R i = 1 then 1000000 else V i))) → ∃ x μ', (q_b (f_Fl_narrow (flo st) a b lo hi μ) fun μ26 => q_ck (i + 1) fun x8 => f_Re_obey_L3 N st (fun μ3 => some (0, μ3)) (fun μ4 => some (1, μ4)) nf x8 μ26) = some (x, μ') ∧ (∀ j, j ≠ flo st + 2 → j ≠ flo st + 3 → q_g μ' j = q_g μ j) ∧ ((x = 1 ∧ obS S T R V n st (tr st) (flo st) K.toNat μ' ∧ fL S T R V 9 st K.toNat ≤ tr st ∧ tr st ≤ fH S T R V 9 st 100000 K.toNat) ∨ (x = 0 ∧ ¬ (fL S T R V 9 st K.toNat ≤ tr st ∧ tr st ≤ fH S T R V 9 st 100000 K.toNat))) := by
            intro a b lo hi' hab
            obtain ⟨μ1, e1, e2, e3⟩ := ob_step (k := i.toNat) (a := a) (b := b) (lo := lo) (hi := hi') hn hB htr (by omega) ho' (by rw [hii]; exact g) (by rw [hii]; exact g9) (by rw [hii]; exact hab)
            rw [e1, z_b, z_ck (by omega) (by omega)]
            obtain ⟨x, μ', d1, d2, d3⟩ := ih nf (i + 1) μ1 (by omega) (by omega) (by omega) (stM_fr hm (fun k k1 k2 => e3 k (by omega) (by omega))) (ruC_fr hr (fun k k1 k2 => e3 k (by omega) (by omega))) (by rw [hi]; exact e2) (fun r a' b' => by
              by_cases e : r = i
              · rw [e]; exact fun _ q => absurd q g9
              · exact hk r a' (by omega))
            exact ⟨x, μ', d1, fun j j1 j2 => by rw [d2 j j1 j2, e3 j j1 j2], d3⟩
          rw [if_neg g9]
          have hlb : -1000000 ≤ (if R i = 0 then -1000000 else V i) ∧ (if R i = 0 then -1000000 else V i) ≤ 9999 := by
            by_cases q : R i = 0
            · rw [if_pos q]; omega
            · rw [if_neg q]; omega
          have hhb : 0 ≤ (if R i = 1 then 1000000 else V i) ∧ (if R i = 1 then 1000000 else V i) ≤ 1000000 := by
            by_cases q : R i = 1
            · rw [if_pos q]; omega
            · rw [if_neg q]; omega
          by_cases g8 : S i = 8
          · rw [if_pos g8, z_ld (by omega) (by omega), hm.2.2 st (by omega) (by omega), q_ao_flo hst, z_lowest hr hK.2 h2 (by omega), z_b, z_ck (by omega) (by omega), z_highest hr hK.2 h2 (by omega), z_b, z_ck (by omega) (by omega)]
            exact cont 6 5 _ _ (Or.inl ⟨g8, rfl, rfl, rfl, rfl⟩)
          · rw [if_neg g8, q_ao_flo hst, z_lowest hr hK.2 h2 (by omega), z_b, z_highest hr hK.2 h2 (by omega), z_b]
            exact cont (S i) 6 _ _ (Or.inr ⟨g8, rfl, rfl, rfl, rfl⟩)
      · rw [if_neg g]
        exact pass (Or.inl g) (fun q => absurd q g)
  unfold f_Re_obey
  exact lp K.toNat N 0 μ (by omega) (by omega) (by omega) hm hr h0 (fun r a b => absurd b (by omega))
