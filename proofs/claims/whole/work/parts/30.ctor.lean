/-! making: rows for new objects and arrays; everything new is 0 -/
def q_O : q_M := fun _ _ => 0
theorem q_rho_none {L : List (Nat × Nat × Nat)} {n : Nat} (h : L.all (fun t => decide (t.1 < n)) = true) (j : Nat) : q_rho L n j = none := by
  unfold q_rho
  rw [List.find?_eq_none.mpr, Option.map_none]
  intro t ht
  have h1 := List.all_eq_true.mp h t ht
  simp only [decide_eq_true_eq] at h1
  simp
  intro e
  omega
theorem q_rho_cons {L : List (Nat × Nat × Nat)} {k j t k' j' : Nat} (h : ¬ (k' = k ∧ j' = j)) : q_rho ((k, j, t) :: L) k' j' = q_rho L k' j' := by
  unfold q_rho
  rw [List.find?_cons_of_neg]
  simp
  intro e1 e2
  exact h ⟨e1.symm, e2.symm⟩
theorem q_rho_self {L : List (Nat × Nat × Nat)} {k j t : Nat} : q_rho ((k, j, t) :: L) k j = some t := by
  simp [q_rho]
/-- what 'new' of a class needs of the tables -/
def q_NW (own : String) (index ci : Nat) : Prop := ∃ (C : String) (T : u_T) (N : Nat) (tys : Nat → FieldType), vwCl[ci]? = some (C, T, N) ∧ q_nf ci = N ∧ (∀ w ∈ u_ws C T N, w ∈ q_W) ∧ Cond.classLink own index C ∈ q_W ∧ Cond.instantiable C N ∈ q_W ∧ Cond.initialized C ∈ q_W ∧ (∀ k, k < N → parseFieldDescriptor (T k).2.2.1 = some (tys k)) ∧ ∀ j, j < N → defaultValue (tys j) = if q_rf ci j then Value.null else Value.int 0
/-- a final reference field, stored in the own class's constructor -/
def q_FR (own : String) (index ci j : Nat) : Prop := ∃ (C : String) (T : u_T) (N : Nat) (tys : Nat → FieldType), vwCl[ci]? = some (C, T, N) ∧ q_nf ci = N ∧ (∀ w ∈ u_ws C T N, w ∈ q_W) ∧ j < N ∧ Cond.fieldLink own index (T j).1 (T j).2.1 (T j).2.2.1 ∈ q_W ∧ (T j).2.2.2 = true ∧ (T j).1 = own ∧ (∀ k, k < N → parseFieldDescriptor (T k).2.2.1 = some (tys k)) ∧ (∀ a, a < N → ∀ b, b < N → a ≠ b → (T a).2.1 ≠ (T b).2.1) ∧ (∀ q : Nat, narrow (tys j) (.ref q) = .ref q ∧ fits (tys j) (.ref q) = true) ∧ q_rf ci j = true
section QT
variable {p : Program} {l : Launch} {e : Env} {R : Room} {s : State} {m : MethodId} {args : Array Value} {below : List Frame} {meth : Method} {c : Code} {H : Heap} {locs : List Loc} {cells slots : Nat} {Q : State → Prop}
variable {cc : ByteArray} {pc : Nat} {ls : Array Slot} {rest : List Value} {D : va_G} {dA : Nat → ClassId} {kd : Nat → Nat × Nat} {r : Nat → Nat → Option Nat} {n z sz : Nat} {μ : q_M} {A : Nat → Prop} {H0 : Heap} {α : Type} {out : α}
theorem q_P.push {H1 : Heap} (h : q_P D dA kd r n z (z + n) μ H) (he : va_at D vwCl (z + n, q_ent dA (kd n) z (r n) (μ n)) H1) (hs : H1.size = H.size + 1) (oq : ∀ q, q < H.size → H1[q]? = H[q]?) : q_P D dA kd r (n + 1) z (z + (n + 1)) μ H1 := by
  refine ⟨by rw [hs, h.1]; omega, fun k hk => ?_, h.2.2⟩
  by_cases e : k = n
  · subst e
    exact he
  · exact (h.2.1 k (by omega)).kept (oq _ (by rw [h.1]; show z + k < z + n; omega))
theorem q_P.rho {r' : Nat → Nat → Option Nat} (h : q_P D dA kd r n z sz μ H) (hr : ∀ k, k < n → r' k = r k) : q_P D dA kd r' n z sz μ H := ⟨h.1, fun k hk => by rw [hr k hk]; exact h.2.1 k hk, h.2.2⟩
theorem va_S.push {H1 : Heap} (hS : va_S A H0 H locs) (hs : H1.size = H.size + 1) (oq : ∀ q, q < H.size → H1[q]? = H[q]?) : va_S A H0 H1 locs := ⟨Nat.le_trans hS.1 (by omega), fun x h1 h2 => (oq x (Nat.lt_of_lt_of_le h1 hS.1)).trans (hS.2.1 x h1 h2), hS.2.2⟩
theorem q_new (hx : p.tables.exec = Jvm.exec) (hb : c.code = cc) (hts : ∀ w ∈ q_W, w.before args s = true) {own : String} (hown : s.vm.findClass own = some m.cls) (hK : q_K D dA s) (hP : q_P D dA kd r n z (z + n) μ H) (hS : va_S A H0 H locs) {index ci cells' slots' : Nat} (hN : q_NW own index ci) (hkd : kd n = (0, ci)) (hr : ∀ j, r n j = none) (hμ : ∀ j, μ n j = 0) (hc : cells + 1 = cells') (hs : slots + q_nf ci = slots') (hcells : cells' ≤ R.cells) (hslots : slots' ≤ R.slots) (hdg : decode cc pc = .ok (.new index, 3))
    (kk : ∀ H1 : Heap, q_P D dA kd r (n + 1) z (z + (n + 1)) μ H1 → va_S A H0 H1 locs → (∀ q, q < H.size → H1[q]? = H[q]?) → W p l e R s m args below meth c H1 locs cells' slots' Q (F0 m (pc + 3) ls (.ref (z + n) :: rest))) : W p l e R s m args below meth c H locs cells slots Q (F0 m pc ls rest) := by
  obtain ⟨C, T, N, tys, hcl, hNf, hin, hlk, hinst, hini, hty, hdef⟩ := hN
  subst hc
  subst hs
  have hKn := hK.1.1 ci _ hcl
  refine W.newcK hx hb hown (hts _ hlk) (hts _ hinst) (hts _ hini) rfl hdg hcells (by rw [← hNf]; exact hslots) hKn.2.1 rfl fun H1 kC hkC e1 z1 o1 => ?_
  rw [hP.1] at e1 z1 o1 ⊢
  have hz : H1.size = H.size + 1 := by rw [z1, hP.1]
  have ho : ∀ q, q < H.size → H1[q]? = H[q]? := fun q hq => o1 q (by rw [← hP.1]; exact hq)
  have hg := kk H1 (hP.push ?_ hz ho) (hS.push hz ho) ho
  · rw [hNf] at hg
    exact hg
  · rw [hkd]
    refine ⟨_, hcl, (u_born tys hts hin hKn hkC e1 hty).to (fun j hj => ?_)⟩
    rw [hdef j hj]
    have hj' : j < q_nf ci := by rw [hNf]; exact hj
    simp only [vp_V, List.getD_eq_getElem?_getD, q_vs_get hj', Option.getD_some]
    rw [hr j, hμ j]
    unfold q_fv
    cases q_rf ci j <;> rfl
/-- a new array of ints (1), longs (2), chars (3), booleans (4) -/
def q_aty (t : Nat) : ArrayType × FieldType := match t with
  | 1 => (.int, .int) | 2 => (.long, .long) | 3 => (.char, .char) | _ => (.boolean, .boolean)
theorem q_newa (hx : p.tables.exec = Jvm.exec) (hb : c.code = cc) (hts : ∀ w ∈ q_W, w.before args s = true) (hK : q_K D dA s) (hP : q_P D dA kd r n z (z + n) μ H) (hS : va_S A H0 H locs) {t len cells' slots' : Nat} (ht : t = 1 ∨ t = 2 ∨ t = 3 ∨ t = 4) (hw : Cond.arrayClass (q_aty t).2 ∈ q_W) (hkd : kd n = (t, len)) (hμ : ∀ j, μ n j = 0) (hlen : len ≤ 1000000) (hc : cells + 1 = cells') (hs : slots + len = slots') (hcells : cells' ≤ R.cells) (hslots : slots' ≤ R.slots) {v : Int} (hv : v = (len : Int)) (hdg : decode cc pc = .ok (.newarray (q_aty t).1, 2))
    (kk : ∀ H1 : Heap, q_P D dA kd r (n + 1) z (z + (n + 1)) μ H1 → va_S A H0 H1 locs → W p l e R s m args below meth c H1 locs cells' slots' Q (F0 m (pc + 2) ls (.ref (z + n) :: rest))) : W p l e R s m args below meth c H locs cells slots Q (F0 m pc ls (.int (q_I v) :: rest)) := by
  subst hc
  subst hs
  subst hv
  have rl : q_R (len : Int) := ⟨by omega, by omega⟩
  have hn0 : ¬ q_I (len : Int) < 0 := by
    rw [← q_I0, q_ltI rl q_r0]
    omega
  have hnn : (q_I (len : Int)).toNatClampNeg = len := by rw [q_cla rl, Int.toNat_natCast]
  have ety : newarray.typeOf (q_aty t).1 = (q_aty t).2 := by rcases ht with rfl | rfl | rfl | rfl <;> rfl
  refine va_newaK hx hb (by rw [ety]; exact hts _ hw) rfl hdg rfl hn0 hnn (by rcases ht with rfl | rfl | rfl | rfl <;> simp [q_aty, newarray.typeOf, componentBytes] <;> omega) hcells hslots rfl fun H1 cA e1 z1 o1 hAr hNm => ?_
  rw [hP.1] at e1 z1 o1 ⊢
  have hz : H1.size = H.size + 1 := by rw [z1, hP.1]
  have ho : ∀ q, q < H.size → H1[q]? = H[q]? := fun q hq => o1 q (by rw [← hP.1]; exact hq)
  refine kk H1 (hP.push ?_ hz ho) (hS.push hz ho)
  rw [hkd]
  rw [ety] at e1 hNm
  have hz0 : ∀ j, q_I (μ n j) = 0 := fun j => by rw [hμ j]; rfl
  have hz1 : ∀ j, q_J (μ n j) = 0 := fun j => by rw [hμ j]; rfl
  rcases ht with rfl | rfl | rfl | rfl
  · have hA0 : cA = dA 0 := Option.some.inj (hNm.symm.trans (hK.1.2 0 _ rfl).2)
    subst hA0
    show H1[z + n]? = some (vp_cell (dA 0) (len, .inl (fun j => q_I (μ n j))))
    rw [e1, vp_cell_i]
    congr 2
    funext j
    rw [hz0 j]
    rfl
  · have hA0 : cA = dA 1 := Option.some.inj (hNm.symm.trans (hK.1.2 1 _ rfl).2)
    subst hA0
    show H1[z + n]? = some (vp_cell (dA 1) (len, .inr (.inl (fun j => q_J (μ n j)))))
    rw [e1, vp_cell_l]
    congr 2
    funext j
    rw [hz1 j]
    rfl
  · have hA0 : cA = dA 2 := Option.some.inj (hNm.symm.trans (hK.1.2 2 _ rfl).2)
    subst hA0
    show H1[z + n]? = some (vp_cell (dA 2) (len, .inl (fun j => q_I (μ n j))))
    rw [e1, vp_cell_i]
    congr 2
    funext j
    rw [hz0 j]
    rfl
  · have hA0 : cA = dA 3 := Option.some.inj (hNm.symm.trans (hK.1.2 3 _ rfl).2)
    subst hA0
    show H1[z + n]? = some (vp_cell (dA 3) (len, .inl (fun j => q_I (μ n j))))
    rw [e1, vp_cell_i]
    congr 2
    funext j
    rw [hz0 j]
    rfl
theorem q_anew (hx : p.tables.exec = Jvm.exec) (hb : c.code = cc) (hts : ∀ w ∈ q_W, w.before args s = true) {own : String} (hown : s.vm.findClass own = some m.cls) (hK : q_K D dA s) (hO : va_AO "CutRepairer$Flow" s) (hP : q_P D dA kd r n z (z + n) μ H) (hS : va_S A H0 H locs) {index cells' slots' : Nat} (hlk : Cond.classLink own index "CutRepairer$Flow" ∈ q_W) (hkd : kd n = (5, 2)) (hr : ∀ j, r n j = none) (hc : cells + 1 = cells') (hs : slots + 2 = slots') (hcells : cells' ≤ R.cells) (hslots : slots' ≤ R.slots) (hdg : decode cc pc = .ok (.anewarray index, 3))
    (kk : ∀ H1 : Heap, q_P D dA kd r (n + 1) z (z + (n + 1)) μ H1 → va_S A H0 H1 locs → W p l e R s m args below meth c H1 locs cells' slots' Q (F0 m (pc + 3) ls (.ref (z + n) :: rest))) : W p l e R s m args below meth c H locs cells slots Q (F0 m pc ls (.int (q_I 2) :: rest)) := by
  subst hc
  subst hs
  have hnn : (q_I 2).toNatClampNeg = 2 := rfl
  refine W.anew hx hb hown (hts _ hlk) (va_AO.use hO) rfl hdg rfl (by decide) (by decide) hcells (by rw [hnn]; exact hslots) fun cA kA comp f1 f2 f3 f4 => ?_
  rw [hnn]
  have hA0 : cA = dA 4 := by
    obtain ⟨kA', comp', g1, g2, g3, g4⟩ := (hK.1.2 4 _ rfl).2
    exact Option.some.inj (f1.symm.trans g4)
  subst hA0
  generalize hH1 : H.push ({ cls := dA 4, slots := Array.replicate 2 .null, vm := .none } : Cell) = H1
  have hz : H1.size = H.size + 1 := by rw [← hH1, Array.size_push]
  have e1 : H1[H.size]? = some (arrV (dA 4) 2 (fun _ => .null)) := by rw [← hH1, Array.getElem?_push_size, ← arrV_new]
  have ho : ∀ q : Nat, q < H.size → H1[q]? = H[q]? := fun q hq => by rw [← hH1, Array.getElem?_push, if_neg (Nat.ne_of_lt hq)]
  have hg := kk H1 (hP.push ?_ hz ho) (hS.push hz ho)
  · rw [← hP.1] at hg
    exact hg
  · rw [hkd]
    show H1[z + n]? = some (vp_cell (dA 4) (2, .inr (.inr (.inr (.inr (fun j => (r n j).map (fun t => z + t)))))))
    rw [← hP.1, e1, vp_cell_q]
    congr 2
    funext j
    rw [hr j]
    rfl
theorem q_putR (hx : p.tables.exec = Jvm.exec) (hb : c.code = cc) (hts : ∀ w ∈ q_W, w.before args s = true) {own : String} (hown : s.vm.findClass own = some m.cls) (hin2 : meth.name = "<init>") (hK : q_K D dA s) {L L' : List (Nat × Nat × Nat)} (hP : q_P D dA kd (q_rho L) n z sz μ H) (hS : va_S A H0 H locs) (hA : ∀ k, k < n → A (z + k)) {index ci j : Nat} (hF : q_FR own index ci j) {k t : Nat} (hk : k < n) (hkd : kd k = (0, ci)) (hL : L' = (k, j, t) :: L) (hdg : decode cc pc = .ok (.putfield index, 3))
    (kk : ∀ (H1 : Heap) (locs1 : List Loc), q_P D dA kd (q_rho L') n z sz μ H1 → va_S A H0 H1 locs1 → W p l e R s m args below meth c H1 locs1 cells slots Q (F0 m (pc + 3) ls rest)) : W p l e R s m args below meth c H locs cells slots Q (F0 m pc ls (.ref (z + t) :: .ref (z + k) :: rest)) := by
  subst hL
  obtain ⟨C, T, N, tys, hc, hN, hin, hj, hlk, hfin, hdecl, hty, hnm, hval, hft⟩ := hF
  have hap := va_apart (own := own) hts hin tys hty hnm hK.1 hc
  have hat := hP.2.1 k hk
  rw [show q_ent dA (kd k) z (q_rho L k) (μ k) = .inr (ci, q_vs ci z (μ k) (q_rho L k)) by rw [hkd]; rfl] at hat
  obtain ⟨r', h1, cell, q1, q2, q3, q4⟩ := hat
  have hr : r' = (C, T, N) := Option.some.inj (h1.symm.trans hc)
  subst hr
  obtain ⟨hSl, hfc, kC, hkC, hkind⟩ := hK.1.1 ci _ hc
  obtain ⟨cf, kf, fi, f, hi, hsl⟩ := hSl j hj
  have hlay := hts _ (hin _ (u_in_lay hj))
  unfold u_lay at hlay
  rw [if_pos hfin] at hlay
  have hst := (u_facts hfc hkC (u_lays hts hin hj) hi).1
  have hcf : m.cls = cf := by
    obtain ⟨_, _, c', _, _, _, -, -, hf', -, -, -, hown2, -⟩ := Cond.laysFinal_spec hlay
    have e1 : c' = cf := by have := hi.symm.trans hf'; simp at this; exact this.1.symm
    rw [hdecl] at hown2
    rw [← e1]; exact Option.some.inj (hown.symm.trans hown2)
  have h6 := u_fits hfc hkC hkind (Or.inr hlay) hi (hty j hj) (hval (z + t)).1 (hval (z + t)).2
  refine W.putFinK hx hb hown (hts _ hlk) hi hst hcf hin2 (by rw [q2]; exact h6) q1 q3 (by rw [hsl]; exact k2_hasslot (q4 j hj)) rfl rfl hdg fun H' e1 e2 e3 => ?_
  rw [hsl] at e1 ⊢
  have hP2 : q_P D dA kd (q_rho ((k, j, t) :: L)) n z sz μ H' := by
    refine ⟨e2.trans hP.1, fun k' hk' => ?_, hP.2.2⟩
    by_cases e : k' = k
    · subst e
      rw [hkd]
      refine ⟨_, hc, t_OB.to (V := updV (vp_V (q_vs ci z (μ k') (q_rho L k'))) j (.ref (z + t))) ⟨_, e1, q2, q3, t_set q4 hap hj (.ref (z + t))⟩ (fun i hi => ?_)⟩
      have hi' : i < q_nf ci := by rw [hN]; exact hi
      by_cases ei : i = j
      · subst ei
        simp only [updV, if_pos, vp_V, List.getD_eq_getElem?_getD, q_vs_get hi', Option.getD_some, q_rho_self, q_fv, hft]
        rfl
      · simp only [updV, if_neg ei, vp_V, List.getD_eq_getElem?_getD, q_vs_get hi', Option.getD_some]
        rw [q_rho_cons (fun q => ei q.2)]
    · have hrr : q_rho ((k, j, t) :: L) k' = q_rho L k' := by funext i; exact q_rho_cons (fun q => e q.1)
      rw [hrr]
      exact (hP.2.1 k' hk').kept (e3 _ (fun z1 => e (by have z2 : z + k' = z + k := z1; omega)))
  exact kk H' _ hP2 (hS.put e2 e3 (hA k hk))
theorem q_aastR (hx : p.tables.exec = Jvm.exec) (hb : c.code = cc) (hK : q_K D dA s) {L L' : List (Nat × Nat × Nat)} (hP : q_P D dA kd (q_rho L) n z sz μ H) (hS : va_S A H0 H locs) (hA : ∀ k, k < n → A (z + k)) {k t i : Nat} (hk : k < n) (hkd : kd k = (5, 2)) (ht : t < n) (hkdt : kd t = (0, 2)) (hi : i < 2) (hL : L' = (k, i, t) :: L) {v : Int} (hv : v = (i : Int)) (hdg : decode cc pc = .ok (.aastore, 1))
    (kk : ∀ (H1 : Heap) (locs1 : List Loc), q_P D dA kd (q_rho L') n z sz μ H1 → va_S A H0 H1 locs1 → W p l e R s m args below meth c H1 locs1 cells slots Q (F0 m (pc + 1) ls rest)) : W p l e R s m args below meth c H locs cells slots Q (F0 m pc ls (.ref (z + t) :: .int (q_I v) :: .ref (z + k) :: rest)) := by
  subst hL
  subst hv
  have ri : q_R (i : Int) := ⟨by omega, by omega⟩
  have hci : (q_I (i : Int)).toNatClampNeg = i := by rw [q_cla ri, Int.toNat_natCast]
  have hin := q_in (n := 2) ri (by omega) (by omega)
  have hat := hP.2.1 k hk
  rw [show q_ent dA (kd k) z (q_rho L k) (μ k) = .inl (dA 4, 2, .inr (.inr (.inr (.inr (fun j => (q_rho L k j).map (fun t => z + t)))))) by rw [hkd]; rfl] at hat
  have hvt := hP.2.1 t ht
  rw [show q_ent dA (kd t) z (q_rho L t) (μ t) = .inr (2, q_vs 2 z (μ t) (q_rho L t)) by rw [hkdt]; rfl] at hvt
  obtain ⟨r', hr', cellV, g1, g2, g3, -⟩ := hvt
  have hcls := (hK.1.1 2 _ rfl).2
  obtain ⟨kA, comp, k1, k2, k3, -⟩ := (hK.1.2 4 _ rfl).2
  have hcomp : comp = D.1 2 := Option.some.inj (k3.symm.trans hcls.1)
  subst hcomp
  obtain ⟨kC, hkC, -⟩ := hcls.2
  refine W.aast hx hb hat (fun q h => by cases h) (fun h => by cases h) k1 k2 rfl hkC ⟨fun q => hin (Or.inl q), by show _ < (arrV _ _ _).slots.size; rw [arrV_size, hci]; exact hi⟩ g1 (fun q h => by rw [g3] at h; cases h) (by rw [g2]; exact hkC) (by rw [g2]; exact va_assign hcls) rfl rfl hdg fun H1 e zq oq => ?_
  have hP2 : q_P D dA kd (q_rho ((k, i, t) :: L)) n z sz μ H1 := by
    refine ⟨zq.trans hP.1, fun k' hk' => ?_, hP.2.2⟩
    by_cases e' : k' = k
    · subst e'
      rw [hkd]
      show H1[z + k']? = some (vp_cell (dA 4) (2, .inr (.inr (.inr (.inr (fun j => (q_rho ((k', i, t) :: L) k' j).map (fun t => z + t)))))))
      rw [e]
      rw [vp_cell_q, vp_cell_q, arrV_store, hci]
      congr 2
      funext q
      by_cases hq : q = i
      · subst hq
        simp only [updV, if_pos, q_rho_self]
        rfl
      · simp only [updV, if_neg hq]
        rw [q_rho_cons (fun w => hq w.2)]
    · have hrr : q_rho ((k, i, t) :: L) k' = q_rho L k' := by funext j; exact q_rho_cons (fun q => e' q.1)
      rw [hrr]
      exact (hP.2.1 k' hk').kept (oq _ (fun z1 => e' (by have z2 : z + k' = z + k := z1; omega)))
  exact kk H1 _ hP2 (hS.put zq oq (hA k hk))
/-- a private constructor of a nest mate -/
theorem q_callI (hx : p.tables.exec = Jvm.exec) (hb : c.code = cc) {nL : Nat} (hml : c.maxLocals = nL) (hts : ∀ w ∈ q_W, w.before args s = true) {own : String} (hown : s.vm.findClass own = some m.cls) (hK : q_K D dA s) (hS : va_S A H0 H locs)
    {y : MethodName} {bytes : ByteArray} {maxL idx : Nat} {host : String} {rm : Room} {B : State → Prop} {Pi1 : Heap → Prop} {A1 : Nat → Prop} {b mc ms cells' slots' : Nat}
    (hG : GoodIn q_W (q_wc y bytes maxL none) ∧ (own, idx, y, host) ∈ q_nest ∧ Cond.instanceMethod y ∈ q_W ∧ Cond.initialized y.cls ∈ q_W ∧ y.name = "<init>" ∧ y.cls ≠ "java/lang/invoke/MethodHandle" ∧ y.cls ≠ "java/lang/invoke/VarHandle" ∧ (parseMethodDescriptor y.desc).map (fun d => d.parameters.length) = some 0) (hM : Met l y (q_wc y bytes maxL none) rm (va_Pc [.ref b] B) (q_Q none True Pi1 A1) mc ms A1)
    (hblind : FrameBlind (va_Pc [.ref b] B)) (hpre : ∀ U : State, U.heap = H → s.WarmedH U.vm → B U) (hrm : rm.cells = mc ∧ rm.slots = ms ∧ rm.frames + 1 ≤ R.frames ∧ 8 + (maxL + 11) + rm.locals ≤ R.locals) (hc : cells + mc = cells') (hs : slots + ms = slots') (hroom : cells' ≤ R.cells ∧ slots' ≤ R.slots) (hsize : ls.size = nL) (hcat : (rest.map fun v => v.category).sum ≤ 8) (hA1 : ∀ q, A1 q → A q) (hdg : decode cc pc = .ok (.invokespecial idx, 3))
    (kk : ∀ (H1 : Heap) (locs1 : List Loc), Pi1 H1 → va_S A H0 H1 locs1 → (∀ q : Nat, q < H.size → ¬ A1 q → H1[q]? = H[q]?) → W p l e R s m args below meth c H1 locs1 cells' slots' Q (F0 m (pc + 3) ls rest)) : W p l e R s m args below meth c H locs cells slots Q (F0 m pc ls (.ref b :: rest)) := by
  subst hc
  subst hs
  exact q_go (mc := mc) (ms := ms) (rest := rest) (rv := none) (ok := True) (Pi := Pi1) (A1 := A1) (va_runIN (As := []) (Ts := q_W) ⟨hx, hb, hml, hown, hts⟩ hM ⟨va_cnB 0 hts hG.1 rfl hrm.1 hrm.2.1 (hK.2 _ hG.2.1) (hts _ hG.2.2.2.1) hG.2.2.2.2.2 hrm.2.2, hG.2.2.2.2.1, hts _ hG.2.2.1⟩ ⟨hblind, fun U hU hW => ⟨rfl, hpre U hU hW⟩⟩ rfl rfl hsize rfl (lv_room hcat) hdg hroom) hS hA1 (fun H1 locs1 _ h1 h2 h3 => kk H1 locs1 h1 h2 h3)
end QT
