/-! the class's flow: a push -/
section PT
variable (rm : Int → Int) (wf : Int → Int) (pa : Int → Int)
def pth : Nat → Int → Int → Int → Prop
  | 0, v, r, _ => v = r ∧ pa v = -1
  | k + 1, v, r, U => (v = r ∧ pa v = -1) ∨ (pa v ≠ -1 ∧ U ≤ rm (pa v) ∧ pth k (wf (pa v)) r U)
variable {rm : Int → Int} {wf : Int → Int} {pa : Int → Int}
theorem pth_le {U U' r : Int} (h : U' ≤ U) : ∀ {k : Nat} {v : Int}, pth rm wf pa k v r U → pth rm wf pa k v r U'
  | 0, _, g => g
  | k + 1, v, g => by
    rcases g with g | ⟨g1, g2, g3⟩
    · exact Or.inl g
    · exact Or.inr ⟨g1, by omega, pth_le h g3⟩
end PT
theorem mp_po {LO HI PR X : Int → Int → Int} {pi : Int → Int} (h : mp LO HI PR X pi) : po (okC LO HI X) wfC wtC (wpC LO PR X) pi := by
  intro w hw
  have hN := wN_C w hw
  obtain ⟨h1, h2, h3⟩ := hw
  unfold rmC at h3
  unfold wpC prC
  by_cases g : LO (w % 7) (w / 7) < X (w % 7) (w / 7)
  · rw [if_pos g]
    have := (h _ _ hN.2.2.1 hN.2.1).2 g
    unfold wfC wtC at this ⊢
    omega
  · rw [if_neg g] at h3 ⊢
    have := (h _ _ hN.2.1 hN.2.2.1).1 (by unfold wfC wtC; omega)
    exact this
theorem po_mp {LO HI PR X : Int → Int → Int} {pi : Int → Int} (hB : cB LO HI PR X) (hd : ∀ u, nd u → LO u u = HI u u) (h : po (okC LO HI X) wfC wtC (wpC LO PR X) pi) : mp LO HI PR X pi := by
  have key : ∀ u v, nd u → nd v → u ≠ v → 0 < rmC LO HI X u v → 0 ≤ prC LO PR X u v + pi u - pi v := by
    intro u v hu hv e g
    have := h _ ((okC_i hu hv).mpr ⟨e, g⟩)
    have h1 := hu.1
    have h2 := hu.2
    have h3 := hv.1
    have h4 := hv.2
    unfold wfC wtC wpC at this
    rw [show (u * 7 + v) / 7 = u by omega, show (u * 7 + v) % 7 = v by omega] at this
    exact this
  intro u v hu hv
  have b1 := hB u v hu hv
  have b2 := hB v u hv hu
  by_cases e : u = v
  · subst e
    have := hd u hu
    exact ⟨fun g => absurd g (by omega), fun g => absurd g (by omega)⟩
  · refine ⟨fun g => ?_, fun g => ?_⟩
    · have := key u v hu hv e
      unfold rmC prC at this
      by_cases g2 : LO v u < X v u
      · rw [if_pos g2, if_pos g2] at this
        have := this (by omega)
        omega
      · rw [if_neg g2, if_neg g2] at this
        exact this (by omega)
    · have := key v u hv hu (fun q => e q.symm)
      unfold rmC prC at this
      rw [if_pos g, if_pos g] at this
      have := this (by omega)
      omega
def exM (o : Nat) (μ : q_M) (ex : Int → Int) : Prop := ∀ v, nd v → q_g μ (o + 5) v = ex v
theorem z_nearest {N o : Nat} {μ : q_M} {ex d : Int → Int} {rc : Int → Bool} {pa : Int → Int} (hN : 1000 ≤ N) (hx : exM o μ ex) (hR : wR o μ d rc pa) (hb : bdW 281474976710656 d rc) :
    ∃ t, f_Fl_nearestLack N o μ = some t ∧ ((t = -1 ∧ ∀ v, nd v → ex v < 0 → rc v = false) ∨ (nd t ∧ ex t < 0 ∧ rc t = true)) := by
  have lp : ∀ (dd nf : Nat) (i x : Int), i + dd = 7 → 0 ≤ i → dd < nf → ((x = -1 ∧ ∀ v, nd v → v < i → ex v < 0 → rc v = false) ∨ (nd x ∧ ex x < 0 ∧ rc x = true)) → ∃ t, f_Fl_nearestLack_L4 o μ (fun x3 => some x3) nf x i = some t ∧ ((t = -1 ∧ ∀ v, nd v → ex v < 0 → rc v = false) ∨ (nd t ∧ ex t < 0 ∧ rc t = true)) := by
    intro dd
    induction dd with
    | zero =>
      intro nf i x h1 h2 h3 hi
      obtain ⟨nf, rfl⟩ : ∃ m, nf = m + 1 := ⟨nf - 1, by omega⟩
      refine ⟨x, by rw [f_Fl_nearestLack_L4, if_pos (by omega)], ?_⟩
      rcases hi with hi | hi
      · exact Or.inl ⟨hi.1, fun v hv => hi.2 v hv (by have := hv.2; omega)⟩
      · exact Or.inr hi
    | succ dd ih =>
      intro nf i x h1 h2 h3 hi
      obtain ⟨nf, rfl⟩ : ∃ m, nf = m + 1 := ⟨nf - 1, by omega⟩
      have hni : nd i := ⟨h2, by omega⟩
      have hRi := (hR i hni).1
      have skip : (ex i < 0 → rc i = false) → ∃ t, f_Fl_nearestLack_L4 o μ (fun x3 => some x3) nf x (i + 1) = some t ∧ ((t = -1 ∧ ∀ v, nd v → ex v < 0 → rc v = false) ∨ (nd t ∧ ex t < 0 ∧ rc t = true)) := by
        intro hs
        refine ih nf (i + 1) x (by omega) (by omega) (by omega) ?_
        rcases hi with hi | hi
        · refine Or.inl ⟨hi.1, fun v hv hvi => ?_⟩
          by_cases q : v = i
          · rw [q]; exact hs
          · exact hi.2 v hv (by omega)
        · exact Or.inr hi
      have keep : (nd x ∧ ex x < 0 ∧ rc x = true) → ∃ t, f_Fl_nearestLack_L4 o μ (fun x3 => some x3) nf x (i + 1) = some t ∧ ((t = -1 ∧ ∀ v, nd v → ex v < 0 → rc v = false) ∨ (nd t ∧ ex t < 0 ∧ rc t = true)) := fun h => ih nf (i + 1) x (by omega) (by omega) (by omega) (Or.inr h)
      rw [f_Fl_nearestLack_L4, if_neg (by omega), z_ld (by omega) (by omega), hx i hni]
      simp only [z_jn]
      by_cases g : 0 ≤ ex i
      · rw [if_pos g, z_ck (by omega) (by omega)]
        exact skip (fun h => absurd h (by omega))
      · rw [if_neg g, z_ld (by omega) (by omega), hRi, lc_lt]
        cases q : rc i with
        | false =>
          rw [if_neg (show ¬ (if false = true then d i else 1152921504606846976) < 1152921504606846976 by rw [if_neg Bool.false_ne_true]; omega), z_ck (by omega) (by omega)]
          exact skip (fun _ => q)
        | true =>
          have hbi := hb i hni q
          rw [if_pos (show (if true = true then d i else 1152921504606846976) < 1152921504606846976 by rw [if_pos rfl]; omega)]
          have take := ih nf (i + 1) i (by omega) (by omega) (by omega) (Or.inr ⟨hni, by omega, q⟩)
          by_cases gx : x = -1
          · rw [if_pos gx, z_ck (by omega) (by omega)]
            exact take
          · have hx' : nd x ∧ ex x < 0 ∧ rc x = true := by
              rcases hi with hi | hi
              · exact absurd hi.1 gx
              · exact hi
            have x1 := hx'.1.1
            have x2 := hx'.1.2
            rw [if_neg gx, z_ld (by omega) (by omega), z_ld (by omega) (by omega), lc_lt, z_ck (by omega) (by omega), z_ck (by omega) (by omega)]
            by_cases g3 : q_g μ (o + 6) i < q_g μ (o + 6) x
            · rw [if_pos g3]; exact take
            · rw [if_neg g3]; exact keep hx'
  unfold f_Fl_nearestLack
  exact lp 7 N 0 (-1) (by omega) (by omega) (by omega) (Or.inl ⟨rfl, fun v hv h => absurd h (by have := hv.1; omega)⟩)
def rwC (LO HI X : Int → Int → Int) (w : Int) : Int := rmC LO HI X (w / 7) (w % 7)
theorem pa_uv {LO HI X : Int → Int → Int} {w v : Int} (h : okC LO HI X w) (ht : wtC w = v) : nd (wfC w) ∧ nd v ∧ wfC w ≠ v ∧ w = wfC w * 7 + v ∧ rwC LO HI X w = rmC LO HI X (wfC w) v ∧ 0 < rmC LO HI X (wfC w) v ∧ w / 7 = wfC w ∧ w ≠ -1 := by
  have hN := wN_C w h
  obtain ⟨h1, h2, h3⟩ := h
  subst ht
  refine ⟨hN.2.1, hN.2.2.1, hN.2.2.2, by unfold wfC wtC; omega, rfl, h3, rfl, by omega⟩
theorem push1 {o : Nat} {LO HI PR X : Int → Int → Int} {src : Int → Prop} {d pi : Int → Int} {rc : Int → Bool} {pa : Int → Int} {ln : Int → Nat} {μ : q_M} {K : Int → Int → Option (Int × q_M)} (hB : cB LO HI PR X) (hp : po (okC LO HI X) wfC wtC (wpC LO PR X) pi) (hM : cM o μ LO HI PR X) (hR : wR o μ d rc pa) (hI : wI (okC LO HI X) wfC wtC (wpC LO PR X) src d rc pa ln) : ∀ (k nf : Nat) (x v s : Int), ct pi d ln v ≤ k → 0 ≤ s → s + k ≤ 6 → k < nf → nd v → rc v = true → 0 < x → ∃ x' r, f_Fl_pushTo_L13 o μ K nf x v s = K x' r ∧ 0 < x' ∧ x' ≤ x ∧ nd r ∧ rc r = true ∧ src r ∧ pth (rwC LO HI X) wfC pa k v r x' := by
  intro k
  induction k with
  | zero =>
    intro nf x v s h1 h2 h3 h4 hv hr hx
    obtain ⟨nf, rfl⟩ : ∃ m, nf = m + 1 := ⟨nf - 1, by omega⟩
    have v1 := hv.1
    have v2 := hv.2
    have hn : pa v = -1 := by
      refine Classical.byContradiction fun g => ?_
      have a1 := wI_rk hI hp hv hr g
      rcases hI v hv hr with q | ⟨q1, q2, q3, q4, q5⟩
      · exact g q.1
      · have := ct_lt (wN_C _ q2).2.1 a1
        have := ct_bd (pi := pi) (d := d) (ln := ln) (wN_C _ q2).2.1
        omega
    have hs : src v := by
      rcases hI v hv hr with q | q
      · exact q.2.1
      · omega
    refine ⟨x, v, ?_, hx, Int.le_refl _, hv, hr, hs, rfl, hn⟩
    rw [f_Fl_pushTo_L13, if_neg (by omega), z_ld (by omega) (by omega), (hR v hv).2, if_pos hn, if_pos rfl]
  | succ k ih =>
    intro nf x v s h1 h2 h3 h4 hv hr hx
    obtain ⟨nf, rfl⟩ : ∃ m, nf = m + 1 := ⟨nf - 1, by omega⟩
    have v1 := hv.1
    have v2 := hv.2
    rw [f_Fl_pushTo_L13, if_neg (by omega), z_ld (by omega) (by omega), (hR v hv).2]
    rcases hI v hv hr with q | ⟨q1, q2, q3, q4, q5⟩
    · rw [if_pos q.1, if_pos rfl]
      exact ⟨x, v, rfl, hx, Int.le_refl _, hv, hr, q.2.1, Or.inl ⟨rfl, q.1⟩⟩
    · obtain ⟨p1, -, p3, p4, p5, p6, p7, p8⟩ := pa_uv q2 q3
      have a1 := ct_lt p1 (wI_rk hI hp hv hr p8)
      have u1 := p1.1
      rw [if_neg p8, p7, if_neg (by omega), z_ld (by omega) (by omega), (hR v hv).2, if_neg p8, p7, z_room hM hB p1 hv, z_b, z_mn, z_ld (by omega) (by omega), (hR v hv).2, if_neg p8, p7, z_ck (by omega) (by omega)]
      have hx' : 0 < (if rmC LO HI X (wfC (pa v)) v < x then rmC LO HI X (wfC (pa v)) v else x) ∧ (if rmC LO HI X (wfC (pa v)) v < x then rmC LO HI X (wfC (pa v)) v else x) ≤ x ∧ (if rmC LO HI X (wfC (pa v)) v < x then rmC LO HI X (wfC (pa v)) v else x) ≤ rmC LO HI X (wfC (pa v)) v := by
        by_cases g : rmC LO HI X (wfC (pa v)) v < x
        · rw [if_pos g]; omega
        · rw [if_neg g]; omega
      obtain ⟨x', r, e1, e2, e3, e4, e5, e6, e7⟩ := ih nf _ (wfC (pa v)) (s + 1) (by omega) (by omega) (by omega) (by omega) p1 q4 hx'.1
      exact ⟨x', r, e1, e2, by omega, e4, e5, e6, Or.inr ⟨p8, by omega, e7⟩⟩
