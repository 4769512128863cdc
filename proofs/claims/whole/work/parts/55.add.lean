/-! an event is added, in the class -/
theorem mxf_0 {f : Int → Int} {S : Int → Bool} : ∀ {d : Nat}, 0 ≤ mxf f S d
  | 0 => Int.le_refl 0
  | d + 1 => by
    have := mxf_0 (f := f) (S := S) (d := d)
    unfold mxf
    split
    · split <;> omega
    · exact this
theorem mxf_lb {f : Int → Int} {S : Int → Bool} : ∀ {d : Nat} {k : Int}, 0 ≤ k → k < d → S k = true → f k ≤ mxf f S d
  | 0, _, h0, h1, _ => absurd h1 (by omega)
  | d + 1, k, h0, h1, h2 => by
    unfold mxf
    by_cases e : k = d
    · rw [← e, if_pos h2]
      split <;> omega
    · have := mxf_lb (f := f) (S := S) (d := d) h0 (by omega) h2
      split
      · split <;> omega
      · exact this
theorem mxf_ub {f : Int → Int} {S : Int → Bool} {v : Int} (hv : 0 ≤ v) : ∀ {d : Nat}, (∀ k : Int, 0 ≤ k → k < d → S k = true → f k ≤ v) → mxf f S d ≤ v
  | 0, _ => hv
  | d + 1, h => by
    have := mxf_ub (f := f) (S := S) hv (d := d) (fun k h0 h1 h2 => h k h0 (by omega) h2)
    unfold mxf
    by_cases e : S d = true
    · have := h d (by omega) (by omega) e
      rw [if_pos e]
      split <;> omega
    · rw [if_neg e]
      exact this
/-- the last event of a process among the first d -/
def la (w : Int → Int) (p : Int) : Nat → Int
  | 0 => -1
  | d + 1 => if ev w d 0 = p then d else la w p d
theorem la_in {w : Int → Int} {p : Int} : ∀ {d : Nat}, (la w p d = -1 ∧ ∀ k : Int, 0 ≤ k → k < d → ev w k 0 ≠ p) ∨ (0 ≤ la w p d ∧ la w p d < d ∧ ev w (la w p d) 0 = p ∧ ∀ k : Int, la w p d < k → k < d → ev w k 0 ≠ p)
  | 0 => Or.inl ⟨rfl, fun k h0 h1 => absurd h1 (by omega)⟩
  | d + 1 => by
    unfold la
    by_cases e : ev w d 0 = p
    · rw [if_pos e]
      exact Or.inr ⟨by omega, by omega, e, fun k h0 h1 => absurd h1 (by omega)⟩
    · rw [if_neg e]
      rcases la_in (w := w) (p := p) (d := d) with h | h
      · refine Or.inl ⟨h.1, fun k h0 h1 => ?_⟩
        by_cases g : k = d
        · rw [g]; exact e
        · exact h.2 k h0 (by omega)
      · refine Or.inr ⟨h.1, by omega, h.2.2.1, fun k h0 h1 => ?_⟩
        by_cases g : k = d
        · rw [g]; exact e
        · exact h.2.2.2 k h0 (by omega)
def bas (w : Int → Int) (p q : Int) : Int := if la w p (w 36).toNat = -1 then 0 else ev w (la w p (w 36).toNat) (7 + q)
theorem bas_p {n c p : Int} {w : Int → Int} (hv : rv n w c) (hp : 0 ≤ p) (hp' : p < 5) : bas w p p = w (25 + p) := by
  obtain ⟨-, -, v2, -, -, -, -, -, -, -, -, vE, -, x0, x1, x2⟩ := hv
  unfold bas
  rcases la_in (w := w) (p := p) (d := (w 36).toNat) with h | h
  · rw [if_pos h.1, x2 p hp hp' (fun k h0 h1 => h.2 k h0 (by omega))]
  · have e := vE _ h.1 (show la w p (w 36).toNat < w 36 by omega)
    have y := x1 _ h.1 (show la w p (w 36).toNat < w 36 by omega) (fun f f0 f1 => by rw [h.2.2.1]; exact h.2.2.2 f f0 (by omega))
    have z := e.2.2.2.2.2.2.2.2.2
    rw [h.2.2.1] at y z
    rw [if_neg (by omega)]
    omega
theorem bas_bd {n c p q : Int} {w : Int → Int} (hv : rv n w c) (hq : 0 ≤ q) (hq' : q < 5) : 0 ≤ bas w p q ∧ bas w p q ≤ w (25 + q) := by
  obtain ⟨-, -, v2, -, v4, -, -, -, -, -, -, vE, -, x0, x1, x2⟩ := hv
  have := (v4 q hq hq').1
  unfold bas
  rcases la_in (w := w) (p := p) (d := (w 36).toNat) with h | h
  · rw [if_pos h.1]
    omega
  · rw [if_neg (by omega)]
    exact (vE _ h.1 (show la w p (w 36).toNat < w 36 by omega)).2.2.2.2.2.2.2.2.1 q hq hq'
theorem bas_ub {n c p q k : Int} {w : Int → Int} (hv : rv n w c) (hq : 0 ≤ q) (hq' : q < 5) (h0 : 0 ≤ k) (h1 : k < w 36) (h2 : ev w k 0 = p) : ev w k (7 + q) ≤ bas w p q := by
  obtain ⟨-, -, v2, -, -, -, -, -, -, -, -, vE, -, x0, x1, x2⟩ := hv
  unfold bas
  rcases la_in (w := w) (p := p) (d := (w 36).toNat) with h | h
  · exact absurd h2 (h.2 k h0 (by omega))
  · rw [if_neg (by omega)]
    by_cases e : k = la w p (w 36).toNat
    · rw [← e]; exact Int.le_refl _
    · refine x0 k _ h0 ?_ (by omega) (by rw [h2, h.2.2.1]) q hq hq'
      refine Int.not_le.mp fun g => ?_
      exact h.2.2.2 k (by omega) (by omega) h2
/-- what the model gathers, without and with a message -/
theorem mxf_bas {n c p q kind msg : Int} {w : Int → Int} (hv : rv n w c) (hq : 0 ≤ q) (hq' : q < 5) (hk : kind ≠ 2) : mxf (fun k => ev w k (7 + q)) (hS w p kind msg) (w 36).toNat = bas w p q := by
  have v2 := hv.2.2.1
  have hSk : ∀ k, hS w p kind msg k = true ↔ ev w k 0 = p := fun k => by simp [hS, hk]
  refine Int.le_antisymm (mxf_ub (bas_bd hv hq hq').1 (fun k h0 h1 h2 => bas_ub hv hq hq' h0 (by omega) ((hSk k).mp h2))) ?_
  unfold bas
  rcases la_in (w := w) (p := p) (d := (w 36).toNat) with h | h
  · rw [if_pos h.1]; exact mxf_0
  · rw [if_neg (by omega)]
    exact mxf_lb (f := fun k => ev w k (7 + q)) h.1 h.2.1 ((hSk _).mpr h.2.2.1)
theorem mxf_snt {n c p q msg : Int} {w : Int → Int} (hv : rv n w c) (hq : 0 ≤ q) (hq' : q < 5) (h0 : 0 ≤ msg) (h1 : msg < w 37) : mxf (fun k => ev w k (7 + q)) (hS w p 2 msg) (w 36).toNat = if mg w msg 4 = -1 then bas w p q else (if bas w p q < ev w (mg w msg 4) (7 + q) then ev w (mg w msg 4) (7 + q) else bas w p q) := by
  have v2 := hv.2.2.1
  have vM := (hv.2.2.2.2.2.2.2.2.2.2.2.2.1 msg h0 h1).2.2.2.2.2.1
  have vE := hv.2.2.2.2.2.2.2.2.2.2.2.1
  have hSk : ∀ k, hS w p 2 msg k = true ↔ (ev w k 0 = p ∨ mg w msg 4 = k) := fun k => by simp [hS]
  have hb := bas_bd (p := p) hv hq hq'
  have lo : bas w p q ≤ mxf (fun k => ev w k (7 + q)) (hS w p 2 msg) (w 36).toNat := by
    unfold bas
    rcases la_in (w := w) (p := p) (d := (w 36).toNat) with h | h
    · rw [if_pos h.1]; exact mxf_0
    · rw [if_neg (by omega)]
      exact mxf_lb (f := fun k => ev w k (7 + q)) h.1 h.2.1 ((hSk _).mpr (Or.inl h.2.2.1))
  by_cases g : mg w msg 4 = -1
  · rw [if_pos g]
    refine Int.le_antisymm (mxf_ub hb.1 (fun k k0 k1 k2 => ?_)) lo
    rcases (hSk k).mp k2 with e | e
    · exact bas_ub hv hq hq' k0 (by omega) e
    · omega
  · rw [if_neg g]
    have l2 : ev w (mg w msg 4) (7 + q) ≤ mxf (fun k => ev w k (7 + q)) (hS w p 2 msg) (w 36).toNat := mxf_lb (f := fun k => ev w k (7 + q)) (by omega) (by omega) ((hSk _).mpr (Or.inr rfl))
    by_cases l : bas w p q < ev w (mg w msg 4) (7 + q)
    · rw [if_pos l]
      refine Int.le_antisymm (mxf_ub (by omega) (fun k k0 k1 k2 => ?_)) l2
      rcases (hSk k).mp k2 with e | e
      · exact Int.le_trans (bas_ub hv hq hq' k0 (by omega) e) (by omega)
      · rw [e]; exact Int.le_refl _
    · rw [if_neg l]
      refine Int.le_antisymm (mxf_ub hb.1 (fun k k0 k1 k2 => ?_)) lo
      rcases (hSk k).mp k2 with e | e
      · exact bas_ub hv hq hq' k0 (by omega) e
      · rw [← e]; omega
theorem z_latestOf {N o : Nat} {p e : Int} {μ : q_M} {w : Int → Int} (hN : 1000 ≤ N) (he : q_g μ (o + 4) 0 = e) (h0 : 0 ≤ e) (h1 : e ≤ 100) (hP : ∀ k, 0 ≤ k → k < e → q_g μ (o + 5) k = ev w k 0) : f_Hi_latestOf N (o + 4) p μ = some (la w p e.toNat) := by
  unfold f_Hi_latestOf
  rw [z_fl, Int.cast_ofNat_Int, he, z_ck (by omega) (by omega)]
  have key : ∀ (d nf : Nat), (d : Int) ≤ e → d < nf → f_Hi_latestOf_L7 (o + 4) p μ (fun x4 => some x4) (some (-1)) nf ((d : Int) - 1) = some (la w p d) := by
    intro d
    induction d with
    | zero =>
      intro nf g1 g2
      obtain ⟨nf, rfl⟩ : ∃ m, nf = m + 1 := ⟨nf - 1, by omega⟩
      rw [f_Hi_latestOf_L7, if_pos (by omega)]
      rfl
    | succ d ih =>
      intro nf g1 g2
      obtain ⟨nf, rfl⟩ : ∃ m, nf = m + 1 := ⟨nf - 1, by omega⟩
      rw [f_Hi_latestOf_L7, if_neg (by omega), z_ld (by omega) (by omega), show o + 4 + 1 = o + 5 from rfl, show ((d + 1 : Nat) : Int) - 1 = d by omega, hP d (by omega) (by omega), la]
      by_cases g : ev w d 0 = p
      · rw [if_pos g, if_pos g]
      · rw [if_neg g, if_neg g, z_ck (by omega) (by omega), show (d : Int) + -1 = d - 1 by omega]
        exact ih nf (by omega) (by omega)
  have := key e.toNat N (by omega) (by omega)
  rw [show ((e.toNat : Nat) : Int) - 1 = e - 1 by omega] at this
  exact this
theorem z_add {N o : Nat} {p kind msg e h : Int} {μ : q_M} {w : Int → Int} (hN : 1000 ≤ N) (he : q_g μ (o + 4) 0 = e) (h0 : 0 ≤ e) (h1 : e < 100) (hw : w 36 = e) (hp : 0 ≤ p) (hp' : p < 5) (hh : q_g μ (o + 13) p = h) (hh0 : 0 ≤ h ∧ h ≤ 100) (hP : ∀ k, 0 ≤ k → k < e → q_g μ (o + 5) k = ev w k 0) (hC : ∀ k, 0 ≤ k → k < e → ∀ q, 0 ≤ q → q < 5 → q_g μ (o + 12) (k * 5 + q) = ev w k (7 + q)) (hb : bas w p p = h) : ∃ μ', f_Hi_add N (o + 4) p kind msg μ = some (e, μ') ∧ q_g μ' (o + 4) = q_u (q_g μ (o + 4)) 0 (e + 1) ∧ q_g μ' (o + 5) = q_u (q_g μ (o + 5)) e p ∧ q_g μ' (o + 6) = q_u (q_g μ (o + 6)) e kind ∧ q_g μ' (o + 10) = q_u (q_g μ (o + 10)) e msg ∧ q_g μ' (o + 11) = q_u (q_g μ (o + 11)) e h ∧ q_g μ' (o + 13) = q_u (q_g μ (o + 13)) p (h + 1) ∧ (∀ j, q_g μ' (o + 12) j = if e * 5 ≤ j ∧ j < e * 5 + 5 then (if j = e * 5 + p then h + 1 else bas w p (j - e * 5)) else q_g μ (o + 12) j) ∧ ∀ k, k ≠ o + 4 ∧ k ≠ o + 5 ∧ k ≠ o + 6 ∧ k ≠ o + 10 ∧ k ≠ o + 11 ∧ k ≠ o + 12 ∧ k ≠ o + 13 → q_g μ' k = q_g μ k := by
  unfold f_Hi_add
  rw [z_fl, Int.cast_ofNat_Int, he, z_latestOf hN he h0 (by omega) hP, z_b, z_st (by omega) (by omega), z_st (by omega) (by omega), z_st (by omega) (by omega), z_ld (by omega) (by omega), z_st (by omega) (by omega)]
  rw [show o + 4 + 1 = o + 5 from rfl, show o + 4 + 2 = o + 6 from rfl, show o + 4 + 6 = o + 10 from rfl, show o + 4 + 7 = o + 11 from rfl, show o + 4 + 9 = o + 13 from rfl]
  have hv : q_g (q_x (q_x (q_x μ (o + 5) e p) (o + 6) e kind) (o + 10) e msg) (o + 13) p = h := by
    simp (disch := omega) only [g_sn]
    exact hh
  rw [hv]
  obtain ⟨μ1, hμ1⟩ : ∃ μ1, μ1 = q_x (q_x (q_x (q_x μ (o + 5) e p) (o + 6) e kind) (o + 10) e msg) (o + 11) e h := ⟨_, rfl⟩
  rw [← hμ1]
  have hl := la_in (w := w) (p := p) (d := e.toNat)
  obtain ⟨K1, hK1⟩ : ∃ K1 : q_M → Option (Int × q_M), K1 = fun (μ11 : q_M) =>
        q_ck (e * 5) fun x22 =>
        q_ck (x22 + p) fun x23 =>
        q_ld μ11 (o + 4 + 8) 500 x23 fun x24 =>
        q_ck (x24 + 1) fun x25 =>
        q_st μ11 (o + 4 + 8) 500 x23 x25 fun μ26 =>
        q_ld μ26 (o + 13) 5 p fun x27 =>
        q_ck (x27 + 1) fun x28 =>
        q_st μ26 (o + 13) 5 p x28 fun μ29 =>
        q_fl μ29 (o + 4) 0 fun x30 =>
        q_ck (x30 + 1) fun x31 =>
        q_fs μ29 (o + 4) 0 x31 fun μ32 =>
        some (e, μ32) := ⟨_, rfl⟩
  rw [← hK1]
  obtain ⟨μ2, a1, aP, a2, a3⟩ := lp_wr (F := f_Hi_add_L53 (o + 4) (la w p e.toNat) e K1) (E := K1) (k := o + 12) (b := 5) (off := e * 5) (fun q => bas w p q) (fun μ' => ∀ j, 0 ≤ j → j < e * 5 → q_g μ' (o + 12) j = q_g μ (o + 12) j) (by omega) (fun nf μ' _ => by rw [f_Hi_add_L53, if_pos (Int.le_refl _)]) (fun nf i μ' hP' i0 i1 => by
    refine ⟨?_, fun j j0 j1 => by rw [g_s (by omega), u_n (by omega)]; exact hP' j j0 j1⟩
    rw [f_Hi_add_L53, if_neg (by omega)]
    simp (disch := omega) only [z_ck, z_jn, z_st, show o + 4 + 8 = o + 12 from rfl]
    unfold bas
    rw [hw]
    rcases hl with g | g
    · rw [if_pos g.1, if_pos g.1]
    · rw [if_neg (show ¬ la w p e.toNat = -1 by omega), if_neg (show ¬ la w p e.toNat = -1 by omega)]
      simp (disch := omega) only [z_ck, z_ld]
      rw [hP' _ (by omega) (by omega), hC _ g.1 (by omega) i i0 i1]) 5 N 0 μ1 (by omega) (by omega) (by omega) (fun j j0 j1 => by rw [hμ1]; simp (disch := omega) only [g_sn])
  have f1 : ∀ k, k ≠ o + 12 → q_g μ2 k = q_g μ1 k := a2
  have d0 : q_g μ2 (o + 12) (e * 5 + p) = h := by
    rw [a3, if_pos (by omega), show e * 5 + p - e * 5 = p by omega, hb]
  have d1 : q_g μ2 (o + 13) p = h := by
    rw [f1 _ (by omega), hμ1]
    simp (disch := omega) only [g_sn]
    exact hh
  have d2 : q_g μ2 (o + 4) 0 = e := by
    rw [f1 _ (by omega), hμ1]
    simp (disch := omega) only [g_sn]
    exact he
  refine ⟨q_x (q_x (q_x μ2 (o + 12) (e * 5 + p) (h + 1)) (o + 13) p (h + 1)) (o + 4) 0 (e + 1), ?_, ?_, ?_, ?_, ?_, ?_, ?_, ?_, ?_⟩
  · refine Eq.trans a1 ?_
    rw [hK1]
    simp (disch := omega) only [z_ck, z_ld, z_st, z_fl, z_fs, Int.cast_ofNat_Int, show o + 4 + 8 = o + 12 from rfl, d0, g_sn, d1, d2]
  · rw [g_s (by omega), g_sn (by omega), g_sn (by omega), f1 _ (by omega), hμ1]
    simp (disch := omega) only [g_sn]
  · rw [g_sn (by omega), g_sn (by omega), g_sn (by omega), f1 _ (by omega), hμ1]
    simp (disch := omega) only [g_sn, g_s]
  · rw [g_sn (by omega), g_sn (by omega), g_sn (by omega), f1 _ (by omega), hμ1]
    simp (disch := omega) only [g_sn, g_s]
  · rw [g_sn (by omega), g_sn (by omega), g_sn (by omega), f1 _ (by omega), hμ1]
    simp (disch := omega) only [g_sn, g_s]
  · rw [g_sn (by omega), g_sn (by omega), g_sn (by omega), f1 _ (by omega), hμ1]
    simp (disch := omega) only [g_sn, g_s]
  · rw [g_sn (by omega), g_s (by omega), g_sn (by omega), f1 _ (by omega), hμ1]
    simp (disch := omega) only [g_sn, g_s]
  · intro j
    rw [g_sn (by omega), g_sn (by omega), g_s (by omega)]
    by_cases g : j = e * 5 + p
    · rw [g, u_s, if_pos (by omega), if_pos rfl]
    · rw [u_n g, a3]
      by_cases l : e * 5 ≤ j ∧ j < e * 5 + 5
      · rw [if_pos (by omega), if_pos l, if_neg g]
      · rw [if_neg (by omega), if_neg l, hμ1]
        simp (disch := omega) only [g_sn]
  · intro k hk
    rw [g_sn (by omega), g_sn (by omega), g_sn (by omega), f1 _ (by omega), hμ1]
    simp (disch := omega) only [g_sn]
