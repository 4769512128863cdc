/-- the tables: classes, arrays' classes, nest mates' links -/
def q_K (D : va_G) (dA : Nat → ClassId) (U : State) : Prop := va_K D vwCl (q_tys dA) U ∧ ∀ t ∈ q_nest, va_Nw (.methodLinkNest t.1 t.2.1 t.2.2.1 t.2.2.2) U
theorem q_K.moved {D : va_G} {dA : Nat → ClassId} {s U : State} (hW : s.WarmedH U.vm) (h : q_K D dA s) : q_K D dA U := ⟨va_K.moved hW.alike h.1, fun t ht => va_Nw.warmM hW (h.2 t ht)⟩
theorem q_K.same {D : va_G} {dA : Nat → ClassId} {u U : State} (e : u.vm = U.vm) (h : q_K D dA u) : q_K D dA U := ⟨va_K.moved (e ▸ Vm.Alike.refl u.vm) h.1, fun t ht => va_Nw.same rfl e (h.2 t ht)⟩
/-- a field: where it stands in the tables -/
def q_FD (own : String) (index ci j : Nat) (ty : FieldType) (fin : Bool) : Prop := ∃ (C : String) (T : u_T) (N : Nat) (tys : Nat → FieldType), vwCl[ci]? = some (C, T, N) ∧ q_nf ci = N ∧ (∀ w ∈ u_ws C T N, w ∈ q_W) ∧ j < N ∧ Cond.fieldLink own index (T j).1 (T j).2.1 (T j).2.2.1 ∈ q_W ∧ parseFieldDescriptor (T j).2.2.1 = some ty ∧ (T j).2.2.2 = fin ∧ (∀ k, k < N → parseFieldDescriptor (T k).2.2.1 = some (tys k)) ∧ (∀ a, a < N → ∀ b, b < N → a ≠ b → (T a).2.1 ≠ (T b).2.1)
/-- a method's end -/
def q_Q (rv : Option Value) (ok : Prop) (Pi : Heap → Prop) (A : Nat → Prop) : Array Value → State → Outcome → State → Prop := fun _ st oc t => oc = .returned rv ∧ ok ∧ Pi t.heap ∧ va_F A st t
def q_B (Pi : Heap → Prop) (D : va_G) (dA : Nat → ClassId) : State → Prop := fun U => Pi U.heap ∧ q_K D dA U
theorem q_blind {as : List Value} {Pi : Heap → Prop} {D : va_G} {dA : Nat → ClassId} : FrameBlind (va_Pc as (q_B Pi D dA)) := fun _ _ _ _ q => ⟨q.1, q.2.1, q.2.2.same rfl⟩
section QR
variable {p : Program} {l : Launch} {e : Env} {R : Room} {s : State} {m : MethodId} {args : Array Value} {below : List Frame} {meth : Method} {c : Code} {H : Heap} {locs : List Loc} {cells slots : Nat} {Q : State → Prop}
variable {cc : ByteArray} {pc : Nat} {ls : Array Slot} {rest : List Value} {D : va_G} {dA : Nat → ClassId} {kd : Nat → Nat × Nat} {r : Nat → Nat → Option Nat} {n z sz : Nat} {μ : q_M} {A : Nat → Prop} {H0 : Heap} {α : Type} {out : α}
/-! fields -/
theorem q_getI (hx : p.tables.exec = Jvm.exec) (hb : c.code = cc) (hts : ∀ w ∈ q_W, w.before args s = true) {own : String} (hown : s.vm.findClass own = some m.cls) (hK : q_K D dA s) (hP : q_P D dA kd r n z sz μ H) {index ci j : Nat} {ty : FieldType} {fin : Bool} (hF : q_FD own index ci j ty fin) {k : Nat} (hk : k < n) (hkd : kd k = (0, ci)) (hft : q_rf ci j = false) (hdg : decode cc pc = .ok (.getfield index, 3)) {K : Int → Option α} (h : q_fl μ k j K = some out)
    (kk : ∀ x : Int, q_R x → K x = some out → W p l e R s m args below meth c H locs cells slots Q (F0 m (pc + 3) ls (.int (q_I x) :: rest))) : W p l e R s m args below meth c H locs cells slots Q (F0 m pc ls (.ref (z + k) :: rest)) := by
  obtain ⟨C, T, N, tys, hc, hN, hin, hj, hl, -⟩ := hF
  have he : q_ent dA (kd k) z (r k) (μ k) = .inr (ci, q_vs ci z (μ k) (r k)) := by rw [hkd]; rfl
  refine va_get (D := D) (cl := vwCl) (tys := q_tys dA) (T := T) (N := N) hx hb hts hin hown hK.1 (hP.one hk he) 0 rfl hc j hj (hts _ hl) (fun _ h9 => h9) (v := .int (q_I (μ k j))) ?_ hdg (kk _ (hP.rg (by simp [hkd])) h)
  rw [q_vs_get (by rw [hN]; exact hj)]
  simp [q_fv, hft]
theorem q_getR (hx : p.tables.exec = Jvm.exec) (hb : c.code = cc) (hts : ∀ w ∈ q_W, w.before args s = true) {own : String} (hown : s.vm.findClass own = some m.cls) (hK : q_K D dA s) (hP : q_P D dA kd r n z sz μ H) {index ci j : Nat} {ty : FieldType} {fin : Bool} (hF : q_FD own index ci j ty fin) {k t : Nat} (hk : k < n) (hkd : kd k = (0, ci)) (hft : q_rf ci j = true) (hr : r k j = some t) (hdg : decode cc pc = .ok (.getfield index, 3))
    (kk : W p l e R s m args below meth c H locs cells slots Q (F0 m (pc + 3) ls (.ref (z + t) :: rest))) : W p l e R s m args below meth c H locs cells slots Q (F0 m pc ls (.ref (z + k) :: rest)) := by
  obtain ⟨C, T, N, tys, hc, hN, hin, hj, hl, -⟩ := hF
  have he : q_ent dA (kd k) z (r k) (μ k) = .inr (ci, q_vs ci z (μ k) (r k)) := by rw [hkd]; rfl
  refine va_get (D := D) (cl := vwCl) (tys := q_tys dA) (T := T) (N := N) hx hb hts hin hown hK.1 (hP.one hk he) 0 rfl hc j hj (hts _ hl) (fun _ h9 => h9) (v := .ref (z + t)) ?_ hdg kk
  rw [q_vs_get (by rw [hN]; exact hj)]
  simp [q_fv, hft, hr, va_rf]
/-- what every store into an object needs -/
theorem q_putV (hx : p.tables.exec = Jvm.exec) (hb : c.code = cc) (hts : ∀ w ∈ q_W, w.before args s = true) {own : String} (hown : s.vm.findClass own = some m.cls) (hK : q_K D dA s) {index ci j : Nat} {ty : FieldType} (hF : q_FD own index ci j ty false) {a : Nat} {fs : List Value} {v : Value} (hat : va_at D vwCl (a, .inr (ci, fs)) H) (hl : fs.length = q_nf ci) (hn : narrow ty v = v) (hfit : fits ty v = true) (hdg : decode cc pc = .ok (.putfield index, 3))
    (kk : ∀ (H1 : Heap) (i : Nat), va_at D vwCl (a, .inr (ci, fs.set j v)) H1 → H1.size = H.size → (∀ q, q ≠ a → H1[q]? = H[q]?) → W p l e R s m args below meth c H1 (locs ++ [⟨a, i⟩]) cells slots Q (F0 m (pc + 3) ls rest)) : W p l e R s m args below meth c H locs cells slots Q (F0 m pc ls (v :: .ref a :: rest)) := by
  obtain ⟨C, T, N, tys, hc, hN, hin, hj, hlk, hd, hfin, hty, hnm⟩ := hF
  have hap := va_apart (own := own) hts hin tys hty hnm hK.1 hc
  obtain ⟨r', h1, cell, q1, q2, q3, q4⟩ := hat
  have hr : r' = (C, T, N) := Option.some.inj (h1.symm.trans hc)
  subst hr
  obtain ⟨hS, hfc, kC, hkC, hkind⟩ := hK.1.1 ci _ hc
  obtain ⟨cf, kf, fi, f, hi, hsl⟩ := hS j hj
  have hlay := hts _ (hin _ (u_in_lay hj))
  unfold u_lay at hlay
  rw [if_neg (by rw [hfin]; decide)] at hlay
  have hst := (u_facts hfc hkC (u_lays hts hin hj) hi).1
  have h6 := u_store hfc hkC hkind hlay hi hd hn hfit
  refine W.putK hx hb (f := f) ⟨hown, hts _ hlk, ⟨_, _, _, hi⟩, hst⟩ (by rw [q2]; exact h6) q1 q3 (by rw [hsl]; exact k2_hasslot (q4 j hj)) rfl rfl hdg fun H' e1 e2 e3 => ?_
  rw [hsl] at e1 ⊢
  exact kk H' _ ⟨_, hc, t_OB.to (V := updV (vp_V fs) j v) ⟨_, e1, q2, q3, t_set q4 hap hj v⟩ (fun i _ => vp_updV_set (by rw [hl, hN]; exact hj) v i)⟩ e2 e3
theorem q_putI (hx : p.tables.exec = Jvm.exec) (hb : c.code = cc) (hts : ∀ w ∈ q_W, w.before args s = true) {own : String} (hown : s.vm.findClass own = some m.cls) (hK : q_K D dA s) (hP : q_P D dA kd r n z sz μ H) (hS : va_S A H0 H locs) (hA : ∀ k, k < n → A (z + k)) {index ci j : Nat} (hF : q_FD own index ci j .int false) {k : Nat} (hk : k < n) (hkd : kd k = (0, ci)) (hft : q_rf ci j = false) {v : Int} (hv : q_R v) (hdg : decode cc pc = .ok (.putfield index, 3)) {K : q_M → Option α} (h : q_fs μ k j v K = some out)
    (kk : ∀ (μ1 : q_M) (H1 : Heap) (locs1 : List Loc), q_P D dA kd r n z sz μ1 H1 → va_S A H0 H1 locs1 → K μ1 = some out → W p l e R s m args below meth c H1 locs1 cells slots Q (F0 m (pc + 3) ls rest)) : W p l e R s m args below meth c H locs cells slots Q (F0 m pc ls (.int (q_I v) :: .ref (z + k) :: rest)) := by
  have he : q_ent dA (kd k) z (r k) (μ k) = .inr (ci, q_vs ci z (μ k) (r k)) := by rw [hkd]; rfl
  have hat := hP.2.1 k hk
  rw [he] at hat
  refine q_putV (fs := q_vs ci z (μ k) (r k)) hx hb hts hown hK hF hat q_vs_len rfl rfl hdg fun H1 i e1 e2 e3 => ?_
  refine kk (q_up μ k j v) H1 _ (hP.set (k := k) (fun _ => ?_) e2 e3 q_up_off (hP.2.2.up ⟨q_rs hv, fun _ => hv⟩)) (hS.put e2 e3 (hA k hk)) h
  rw [hkd]
  show va_at D vwCl (z + k, .inr (ci, q_vs ci z (q_up μ k j v k) (r k))) H1
  rw [q_up_row]
  obtain ⟨r', g1, g2⟩ := e1
  refine ⟨r', g1, ?_⟩
  rw [← q_vs_set v]
  simpa [q_fv, hft] using g2
theorem q_putZ (hx : p.tables.exec = Jvm.exec) (hb : c.code = cc) (hts : ∀ w ∈ q_W, w.before args s = true) {own : String} (hown : s.vm.findClass own = some m.cls) (hK : q_K D dA s) (hP : q_P D dA kd r n z sz μ H) (hS : va_S A H0 H locs) (hA : ∀ k, k < n → A (z + k)) {index ci j : Nat} (hF : q_FD own index ci j .boolean false) {k : Nat} (hk : k < n) (hkd : kd k = (0, ci)) (hft : q_rf ci j = false) {v : Int} (hv : q_R v) (hdg : decode cc pc = .ok (.putfield index, 3)) {K : q_M → Option α} (h : q_fz μ k j v K = some out)
    (kk : ∀ (μ1 : q_M) (H1 : Heap) (locs1 : List Loc), q_P D dA kd r n z sz μ1 H1 → va_S A H0 H1 locs1 → K μ1 = some out → W p l e R s m args below meth c H1 locs1 cells slots Q (F0 m (pc + 3) ls rest)) : W p l e R s m args below meth c H locs cells slots Q (F0 m pc ls (.int (q_I v) :: .ref (z + k) :: rest)) := by
  unfold q_fz at h
  by_cases hz : v = 0 ∨ v = 1
  · rw [if_pos hz] at h
    have he : q_ent dA (kd k) z (r k) (μ k) = .inr (ci, q_vs ci z (μ k) (r k)) := by rw [hkd]; rfl
    have hat := hP.2.1 k hk
    rw [he] at hat
    refine q_putV (fs := q_vs ci z (μ k) (r k)) hx hb hts hown hK hF hat q_vs_len (by rcases hz with rfl | rfl <;> decide) (by rcases hz with rfl | rfl <;> decide) hdg fun H1 i e1 e2 e3 => ?_
    refine kk (q_up μ k j v) H1 _ (hP.set (k := k) (fun _ => ?_) e2 e3 q_up_off (hP.2.2.up ⟨q_rs hv, fun _ => hv⟩)) (hS.put e2 e3 (hA k hk)) h
    rw [hkd]
    show va_at D vwCl (z + k, .inr (ci, q_vs ci z (q_up μ k j v k) (r k))) H1
    rw [q_up_row]
    obtain ⟨r', g1, g2⟩ := e1
    refine ⟨r', g1, ?_⟩
    rw [← q_vs_set v]
    simpa [q_fv, hft] using g2
  · rw [if_neg hz] at h
    cases h
/-! arrays -/
theorem q_iald (hx : p.tables.exec = Jvm.exec) (hb : c.code = cc) (hK : q_K D dA s) (hP : q_P D dA kd r n z sz μ H) {k len : Nat} (hk : k < n) (hkd : kd k = (1, len)) {i : Int} (hi : q_R i) (hdg : decode cc pc = .ok (.iaload, 1)) {K : Int → Option α} (h : q_ld μ k len i K = some out)
    (kk : ∀ x : Int, q_R x → K x = some out → W p l e R s m args below meth c H locs cells slots Q (F0 m (pc + 1) ls (.int (q_I x) :: rest))) : W p l e R s m args below meth c H locs cells slots Q (F0 m pc ls (.int (q_I i) :: .ref (z + k) :: rest)) := by
  unfold q_ld at h
  by_cases hi2 : 0 ≤ i ∧ i < len
  · rw [if_pos hi2] at h
    refine va_iald hx hb hK.1 (hP.one hk (e := .inl (dA 0, len, .inl (fun j => q_I (μ k j)))) (by rw [hkd]; rfl)) 0 0 rfl rfl (q_in hi hi2.1 hi2.2) hdg ?_
    show W p l e R s m args below meth c H locs cells slots Q (F0 m (pc + 1) ls (.int (q_I (μ k (q_I i).toNatClampNeg)) :: rest))
    rw [q_cla hi]
    exact kk _ (hP.rg (by simp [hkd])) h
  · rw [if_neg hi2] at h
    cases h
theorem q_cald (hx : p.tables.exec = Jvm.exec) (hb : c.code = cc) (hK : q_K D dA s) (hP : q_P D dA kd r n z sz μ H) {k len : Nat} (hk : k < n) (hkd : kd k = (3, len)) {i : Int} (hi : q_R i) (hdg : decode cc pc = .ok (.caload, 1)) {K : Int → Option α} (h : q_ld μ k len i K = some out)
    (kk : ∀ x : Int, q_R x → K x = some out → W p l e R s m args below meth c H locs cells slots Q (F0 m (pc + 1) ls (.int (q_I x) :: rest))) : W p l e R s m args below meth c H locs cells slots Q (F0 m pc ls (.int (q_I i) :: .ref (z + k) :: rest)) := by
  unfold q_ld at h
  by_cases hi2 : 0 ≤ i ∧ i < len
  · rw [if_pos hi2] at h
    refine va_cald hx hb hK.1 (hP.one hk (e := .inl (dA 2, len, .inl (fun j => q_I (μ k j)))) (by rw [hkd]; rfl)) 0 2 rfl rfl (q_in hi hi2.1 hi2.2) hdg ?_
    show W p l e R s m args below meth c H locs cells slots Q (F0 m (pc + 1) ls (.int (q_I (μ k (q_I i).toNatClampNeg)) :: rest))
    rw [q_cla hi]
    exact kk _ (hP.rg (by simp [hkd])) h
  · rw [if_neg hi2] at h
    cases h
theorem q_zald (hx : p.tables.exec = Jvm.exec) (hb : c.code = cc) (hK : q_K D dA s) (hP : q_P D dA kd r n z sz μ H) {k len : Nat} (hk : k < n) (hkd : kd k = (4, len)) {i : Int} (hi : q_R i) (hdg : decode cc pc = .ok (.baload, 1)) {K : Int → Option α} (h : q_ld μ k len i K = some out)
    (kk : ∀ x : Int, q_R x → K x = some out → W p l e R s m args below meth c H locs cells slots Q (F0 m (pc + 1) ls (.int (q_I x) :: rest))) : W p l e R s m args below meth c H locs cells slots Q (F0 m pc ls (.int (q_I i) :: .ref (z + k) :: rest)) := by
  unfold q_ld at h
  by_cases hi2 : 0 ≤ i ∧ i < len
  · rw [if_pos hi2] at h
    refine va_zald hx hb hK.1 (hP.one hk (e := .inl (dA 3, len, .inl (fun j => q_I (μ k j)))) (by rw [hkd]; rfl)) 0 3 rfl rfl (q_in hi hi2.1 hi2.2) hdg ?_
    show W p l e R s m args below meth c H locs cells slots Q (F0 m (pc + 1) ls (.int (q_I (μ k (q_I i).toNatClampNeg)) :: rest))
    rw [q_cla hi]
    exact kk _ (hP.rg (by simp [hkd])) h
  · rw [if_neg hi2] at h
    cases h
theorem q_lald (hx : p.tables.exec = Jvm.exec) (hb : c.code = cc) (hK : q_K D dA s) (hP : q_P D dA kd r n z sz μ H) {k len : Nat} (hk : k < n) (hkd : kd k = (2, len)) {i : Int} (hi : q_R i) (hdg : decode cc pc = .ok (.laload, 1)) {K : Int → Option α} (h : q_ld μ k len i K = some out)
    (kk : ∀ x : Int, q_S x → K x = some out → W p l e R s m args below meth c H locs cells slots Q (F0 m (pc + 1) ls (.long (q_J x) :: rest))) : W p l e R s m args below meth c H locs cells slots Q (F0 m pc ls (.int (q_I i) :: .ref (z + k) :: rest)) := by
  unfold q_ld at h
  by_cases hi2 : 0 ≤ i ∧ i < len
  · rw [if_pos hi2] at h
    refine va_lald hx hb hK.1 (hP.one hk (e := .inl (dA 1, len, .inr (.inl (fun j => q_J (μ k j))))) (by rw [hkd]; rfl)) 0 1 rfl rfl (q_in hi hi2.1 hi2.2) hdg ?_
    show W p l e R s m args below meth c H locs cells slots Q (F0 m (pc + 1) ls (.long (q_J (μ k (q_I i).toNatClampNeg)) :: rest))
    rw [q_cla hi]
    exact kk _ (hP.2.2 k i.toNat).1 h
  · rw [if_neg hi2] at h
    cases h
theorem q_aald (hx : p.tables.exec = Jvm.exec) (hb : c.code = cc) (hK : q_K D dA s) (hP : q_P D dA kd r n z sz μ H) {k : Nat} (hk : k < n) (hkd : kd k = (5, 2)) {i : Int} (hi : q_R i) {t0 t1 : Nat} (h0 : r k 0 = some t0) (h1 : r k 1 = some t1) (hdg : decode cc pc = .ok (.aaload, 1)) {K : Nat → Option α} (h : q_ao i t0 t1 K = some out)
    (kk : ∀ o : Nat, (o = t0 ∨ o = t1) → K o = some out → W p l e R s m args below meth c H locs cells slots Q (F0 m (pc + 1) ls (.ref (z + o) :: rest))) : W p l e R s m args below meth c H locs cells slots Q (F0 m pc ls (.int (q_I i) :: .ref (z + k) :: rest)) := by
  unfold q_ao at h
  have key : ∀ (j t : Nat), j < 2 → i = (j : Int) → r k j = some t → W p l e R s m args below meth c H locs cells slots Q (F0 m (pc + 1) ls (.ref (z + t) :: rest)) → W p l e R s m args below meth c H locs cells slots Q (F0 m pc ls (.int (q_I i) :: .ref (z + k) :: rest)) := by
    intro j t hj hij hr g
    refine va_aldq hx hb hK.1 (hP.one hk (e := .inl (dA 4, 2, .inr (.inr (.inr (.inr (fun j => (r k j).map (fun t => z + t))))))) (by rw [hkd]; rfl)) 0 4 rfl rfl (q_in hi (by omega) (by omega)) hdg ?_
    show W p l e R s m args below meth c H locs cells slots Q (F0 m (pc + 1) ls (va_rf ((r k (q_I i).toNatClampNeg).map (fun t => z + t)) :: rest))
    rw [q_cla hi, show i.toNat = j by omega, hr]
    exact g
  by_cases e0 : i = 0
  · rw [if_pos e0] at h
    exact key 0 t0 (by decide) e0 h0 (kk t0 (Or.inl rfl) h)
  · rw [if_neg e0] at h
    by_cases e1 : i = 1
    · rw [if_pos e1] at h
      exact key 1 t1 (by decide) e1 h1 (kk t1 (Or.inr rfl) h)
    · rw [if_neg e1] at h
      cases h
theorem q_iast (hx : p.tables.exec = Jvm.exec) (hb : c.code = cc) (hK : q_K D dA s) (hP : q_P D dA kd r n z sz μ H) (hS : va_S A H0 H locs) (hA : ∀ k, k < n → A (z + k)) {k len : Nat} (hk : k < n) (hkd : kd k = (1, len)) {i v : Int} (hi : q_R i) (hv : q_R v) (hdg : decode cc pc = .ok (.iastore, 1)) {K : q_M → Option α} (h : q_st μ k len i v K = some out)
    (kk : ∀ (μ1 : q_M) (H1 : Heap) (locs1 : List Loc), q_P D dA kd r n z sz μ1 H1 → va_S A H0 H1 locs1 → K μ1 = some out → W p l e R s m args below meth c H1 locs1 cells slots Q (F0 m (pc + 1) ls rest)) : W p l e R s m args below meth c H locs cells slots Q (F0 m pc ls (.int (q_I v) :: .int (q_I i) :: .ref (z + k) :: rest)) := by
  unfold q_st at h
  by_cases hi2 : 0 ≤ i ∧ i < len
  · rw [if_pos hi2] at h
    have hat := hP.2.1 k hk
    rw [show q_ent dA (kd k) z (r k) (μ k) = .inl (dA 0, len, .inl (fun j => q_I (μ k j))) by rw [hkd]; rfl] at hat
    refine W.iast hx hb hat ((hK.1.2 0 _ rfl).1 len (fun j => .int (q_I (μ k j)))) (fun q => by cases q) (by show ¬ (q_I i < 0 ∨ (arrV _ _ _).slots.size ≤ _); rw [arrV_size]; exact q_in hi hi2.1 hi2.2) rfl rfl hdg fun H1 e zq oq => ?_
    refine kk (q_up μ k i.toNat v) H1 _ (hP.set (k := k) (fun _ => ?_) zq oq q_up_off (hP.2.2.up ⟨q_rs hv, fun _ => hv⟩)) (hS.put zq oq (hA k hk)) h
    rw [hkd]
    show H1[z + k]? = some (vp_cell (dA 0) (len, .inl (fun j => q_I (q_up μ k i.toNat v k j))))
    rw [e, vp_cell_i, vp_cell_i, arrV_store, q_cla hi, q_up_row]
    congr 2
    funext q
    by_cases hq : q = i.toNat
    · simp [updV, hq]
    · simp [updV, hq]
  · rw [if_neg hi2] at h
    cases h
theorem q_last (hx : p.tables.exec = Jvm.exec) (hb : c.code = cc) (hK : q_K D dA s) (hP : q_P D dA kd r n z sz μ H) (hS : va_S A H0 H locs) (hA : ∀ k, k < n → A (z + k)) {k len : Nat} (hk : k < n) (hkd : kd k = (2, len)) {i v : Int} (hi : q_R i) (hv : q_S v) (hdg : decode cc pc = .ok (.lastore, 1)) {K : q_M → Option α} (h : q_st μ k len i v K = some out)
    (kk : ∀ (μ1 : q_M) (H1 : Heap) (locs1 : List Loc), q_P D dA kd r n z sz μ1 H1 → va_S A H0 H1 locs1 → K μ1 = some out → W p l e R s m args below meth c H1 locs1 cells slots Q (F0 m (pc + 1) ls rest)) : W p l e R s m args below meth c H locs cells slots Q (F0 m pc ls (.long (q_J v) :: .int (q_I i) :: .ref (z + k) :: rest)) := by
  unfold q_st at h
  by_cases hi2 : 0 ≤ i ∧ i < len
  · rw [if_pos hi2] at h
    have hat := hP.2.1 k hk
    rw [show q_ent dA (kd k) z (r k) (μ k) = .inl (dA 1, len, .inr (.inl (fun j => q_J (μ k j)))) by rw [hkd]; rfl] at hat
    refine W.last hx hb hat ((hK.1.2 1 _ rfl).1 len (fun j => .long (q_J (μ k j)))) (fun q => by cases q) (by show ¬ (q_I i < 0 ∨ (arrV _ _ _).slots.size ≤ _); rw [arrV_size]; exact q_in hi hi2.1 hi2.2) rfl rfl hdg fun H1 e zq oq => ?_
    refine kk (q_up μ k i.toNat v) H1 _ (hP.set (k := k) (fun _ => ?_) zq oq q_up_off (hP.2.2.up ⟨hv, fun g => absurd (by rw [hkd]) g⟩)) (hS.put zq oq (hA k hk)) h
    rw [hkd]
    show H1[z + k]? = some (vp_cell (dA 1) (len, .inr (.inl (fun j => q_J (q_up μ k i.toNat v k j)))))
    rw [e, vp_cell_l, vp_cell_l, arrV_store, q_cla hi, q_up_row]
    congr 2
    funext q
    by_cases hq : q = i.toNat
    · simp [updV, hq]
    · simp [updV, hq]
  · rw [if_neg hi2] at h
    cases h
theorem q_cast (hx : p.tables.exec = Jvm.exec) (hb : c.code = cc) (hK : q_K D dA s) (hP : q_P D dA kd r n z sz μ H) (hS : va_S A H0 H locs) (hA : ∀ k, k < n → A (z + k)) {k len : Nat} (hk : k < n) (hkd : kd k = (3, len)) {i v : Int} (hi : q_R i) (hv : q_R v) (hdg : decode cc pc = .ok (.castore, 1)) {K : q_M → Option α} (h : q_stc μ k len i v K = some out)
    (kk : ∀ (μ1 : q_M) (H1 : Heap) (locs1 : List Loc), q_P D dA kd r n z sz μ1 H1 → va_S A H0 H1 locs1 → K μ1 = some out → W p l e R s m args below meth c H1 locs1 cells slots Q (F0 m (pc + 1) ls rest)) : W p l e R s m args below meth c H locs cells slots Q (F0 m pc ls (.int (q_I v) :: .int (q_I i) :: .ref (z + k) :: rest)) := by
  unfold q_stc at h
  by_cases hi3 : (0 ≤ i ∧ i < len) ∧ 0 ≤ v ∧ v < 65536
  · rw [if_pos hi3] at h
    obtain ⟨hi2, hv0, hv1⟩ := hi3
    have hnar : narrow .char (.int (q_I v)) = .int (q_I v) := by
      obtain ⟨a, rfl⟩ := Int.eq_ofNat_of_zero_le hv0
      exact (pk_charN (q := a) (by omega)).1
    have hat := hP.2.1 k hk
    rw [show q_ent dA (kd k) z (r k) (μ k) = .inl (dA 2, len, .inl (fun j => q_I (μ k j))) by rw [hkd]; rfl] at hat
    refine W.cast hx hb hat ((hK.1.2 2 _ rfl).1 len (fun j => .int (q_I (μ k j)))) (fun q => by cases q) (by show ¬ (q_I i < 0 ∨ (arrV _ _ _).slots.size ≤ _); rw [arrV_size]; exact q_in hi hi2.1 hi2.2) rfl rfl hdg fun H1 e zq oq => ?_
    refine kk (q_up μ k i.toNat v) H1 _ (hP.set (k := k) (fun _ => ?_) zq oq q_up_off (hP.2.2.up ⟨q_rs hv, fun _ => hv⟩)) (hS.put zq oq (hA k hk)) h
    rw [hkd]
    show H1[z + k]? = some (vp_cell (dA 2) (len, .inl (fun j => q_I (q_up μ k i.toNat v k j))))
    rw [e, hnar, vp_cell_i, vp_cell_i, arrV_store, q_cla hi, q_up_row]
    congr 2
    funext q
    by_cases hq : q = i.toNat
    · simp [updV, hq]
    · simp [updV, hq]
  · rw [if_neg hi3] at h
    cases h
theorem q_zast (hx : p.tables.exec = Jvm.exec) (hb : c.code = cc) (hK : q_K D dA s) (hP : q_P D dA kd r n z sz μ H) (hS : va_S A H0 H locs) (hA : ∀ k, k < n → A (z + k)) {k len : Nat} (hk : k < n) (hkd : kd k = (4, len)) {i v : Int} (hi : q_R i) (hv : q_R v) (hdg : decode cc pc = .ok (.bastore, 1)) {K : q_M → Option α} (h : q_stz μ k len i v K = some out)
    (kk : ∀ (μ1 : q_M) (H1 : Heap) (locs1 : List Loc), q_P D dA kd r n z sz μ1 H1 → va_S A H0 H1 locs1 → K μ1 = some out → W p l e R s m args below meth c H1 locs1 cells slots Q (F0 m (pc + 1) ls rest)) : W p l e R s m args below meth c H locs cells slots Q (F0 m pc ls (.int (q_I v) :: .int (q_I i) :: .ref (z + k) :: rest)) := by
  unfold q_stz at h
  by_cases hi3 : (0 ≤ i ∧ i < len) ∧ (v = 0 ∨ v = 1)
  · rw [if_pos hi3] at h
    obtain ⟨hi2, hv0⟩ := hi3
    have hnar : narrow .boolean (.int (q_I v)) = .int (q_I v) := by rcases hv0 with rfl | rfl <;> decide
    have hat := hP.2.1 k hk
    rw [show q_ent dA (kd k) z (r k) (μ k) = .inl (dA 3, len, .inl (fun j => q_I (μ k j))) by rw [hkd]; rfl] at hat
    refine W.zast hx hb hat ((hK.1.2 3 _ rfl).1 len (fun j => .int (q_I (μ k j)))) (fun q => by cases q) (by show ¬ (q_I i < 0 ∨ (arrV _ _ _).slots.size ≤ _); rw [arrV_size]; exact q_in hi hi2.1 hi2.2) rfl rfl hdg fun H1 e zq oq => ?_
    refine kk (q_up μ k i.toNat v) H1 _ (hP.set (k := k) (fun _ => ?_) zq oq q_up_off (hP.2.2.up ⟨q_rs hv, fun _ => hv⟩)) (hS.put zq oq (hA k hk)) h
    rw [hkd]
    show H1[z + k]? = some (vp_cell (dA 3) (len, .inl (fun j => q_I (q_up μ k i.toNat v k j))))
    rw [e, hnar, vp_cell_i, vp_cell_i, arrV_store, q_cla hi, q_up_row]
    congr 2
    funext q
    by_cases hq : q = i.toNat
    · simp [updV, hq]
    · simp [updV, hq]
  · rw [if_neg hi3] at h
    cases h
theorem q_alen (hx : p.tables.exec = Jvm.exec) (hb : c.code = cc) (hK : q_K D dA s) (hP : q_P D dA kd r n z sz μ H) {k t len : Nat} (hk : k < n) (hkd : kd k = (t + 1, len)) (ht : t < 5) {v : Int} (hv : (len : Int) = v) (hdg : decode cc pc = .ok (.arraylength, 1))
    (kk : W p l e R s m args below meth c H locs cells slots Q (F0 m (pc + 1) ls (.int (q_I v) :: rest))) : W p l e R s m args below meth c H locs cells slots Q (F0 m pc ls (.ref (z + k) :: rest)) := by
  subst hv
  rcases (show t = 0 ∨ t = 1 ∨ t = 2 ∨ t = 3 ∨ t = 4 by omega) with rfl | rfl | rfl | rfl | rfl
  · exact va_alen hx hb hK.1 (hP.one hk (e := .inl (dA 0, len, .inl (fun j => q_I (μ k j)))) (by rw [hkd]; rfl)) 0 0 rfl rfl rfl hdg kk
  · exact va_alen hx hb hK.1 (hP.one hk (e := .inl (dA 1, len, .inr (.inl (fun j => q_J (μ k j))))) (by rw [hkd]; rfl)) 0 1 rfl rfl rfl hdg kk
  · exact va_alen hx hb hK.1 (hP.one hk (e := .inl (dA 2, len, .inl (fun j => q_I (μ k j)))) (by rw [hkd]; rfl)) 0 2 rfl rfl rfl hdg kk
  · exact va_alen hx hb hK.1 (hP.one hk (e := .inl (dA 3, len, .inl (fun j => q_I (μ k j)))) (by rw [hkd]; rfl)) 0 3 rfl rfl rfl hdg kk
  · exact va_alen hx hb hK.1 (hP.one hk (e := .inl (dA 4, len, .inr (.inr (.inr (.inr (fun j => (r k j).map (fun t => z + t))))))) (by rw [hkd]; rfl)) 0 4 rfl rfl rfl hdg kk
end QR
