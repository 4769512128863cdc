/-! calls, ends -/
theorem q_b_some {α β : Type} {out : α} {m : Option β} {K : β → Option α} (h : q_b m K = some out) : ∃ v, m = some v ∧ K v = some out := by
  cases m with
  | none => cases h
  | some v => exact ⟨v, rfl, h⟩
theorem q_b2_some {α : Type} {out : α} {m : Option (Int × q_M)} {K : Int → q_M → Option α} (h : q_b2 m K = some out) : ∃ x μ, m = some (x, μ) ∧ K x μ = some out := by
  cases m with
  | none => cases h
  | some v => exact ⟨v.1, v.2, rfl, h⟩
theorem q_rz_some {α : Type} {out : α} {v : Int} {m : Option α} (h : q_rz v m = some out) : (v = 0 ∨ v = 1) ∧ m = some out := by
  unfold q_rz at h
  by_cases g : v = 0 ∨ v = 1
  · exact ⟨g, (q_ite h).1 g⟩
  · cases (q_ite h).2 g
theorem q_jn_in {α κ : Type} {out : α} {K : κ} {B : κ → Option α} (h : q_jn K B = some out) (Φ : κ → Prop) (hK : Φ K) {P : Prop} (kk : ∀ J, Φ J → B J = some out → P) : P := kk K hK h
section QC
variable {p : Program} {l : Launch} {e : Env} {R : Room} {s : State} {m : MethodId} {args : Array Value} {below : List Frame} {meth : Method} {c : Code} {H : Heap} {locs : List Loc} {cells slots : Nat} {Q : State → Prop}
variable {cc : ByteArray} {pc : Nat} {ls : Array Slot} {rest : List Value} {D : va_G} {dA : Nat → ClassId} {kd : Nat → Nat × Nat} {r : Nat → Nat → Option Nat} {n z sz : Nat} {μ : q_M} {A : Nat → Prop} {H0 : Heap} {α : Type} {out : α}
theorem q_go {mc ms : Nat} {st0 : List Value} {a : Array Value} {rv : Option Value} {ok : Prop} {Pi : Heap → Prop} {A1 : Nat → Prop} (hr : va_Run p l e R s m args below meth c H locs cells slots mc ms (F0 m pc ls st0) rest (q_Q rv ok Pi A1 a) A1) (hS : va_S A H0 H locs) (hA : ∀ q, A1 q → A q)
    (kk : ∀ (H1 : Heap) (locs1 : List Loc), ok → Pi H1 → va_S A H0 H1 locs1 → (∀ q : Nat, q < H.size → ¬ A1 q → H1[q]? = H[q]?) → W p l e R s m args below meth c H1 locs1 (cells + mc) (slots + ms) Q (F0 m (pc + 3) ls (rv.toList ++ rest))) : W p l e R s m args below meth c H locs cells slots Q (F0 m pc ls st0) := by
  intro T hT X
  obtain ⟨v, st₀, t, T', L, h0, X', hL, e1, e2, ⟨hv, hok, hpi, hz, hk⟩, st⟩ := hr T hT X
  cases hv
  rw [h0] at hz hk
  obtain ⟨t2, a1, b1⟩ := kk T'.heap (locs ++ L) hok (by rw [e1]; exact hpi) ⟨Nat.le_trans hS.1 (by rw [e1]; exact hz), fun q h1 h2 => by rw [e1, hk q (Nat.lt_of_lt_of_le h1 hS.1) (fun z => h2 (hA q z))]; exact hS.2.1 q h1 h2, fun q hq => by
      rcases List.mem_append.mp hq with h | h
      · exact hS.2.2 q h
      · exact hA _ (hL q h)⟩ (fun q h1 h2 => by rw [e1]; exact hk q h1 h2) T' rfl X'
  exact ⟨t2, st t2 a1, b1⟩
theorem q_recv (hK : q_K D dA s) (hP : q_P D dA kd r n z sz μ H) {k ci : Nat} (hk : k < n) (hkd : kd k = (0, ci)) {C : String} (hc : (vwCl[ci]?).map (fun q => q.1) = some C) : ∃ cell : Cell, H[z + k]? = some cell ∧ cell.vm.isStatics = false ∧ s.vm.findClass C = some cell.cls := by
  have he : q_ent dA (kd k) z (r k) (μ k) = .inr (ci, q_vs ci z (μ k) (r k)) := by rw [hkd]; rfl
  cases hq : vwCl[ci]? with
  | none => rw [hq] at hc; cases hc
  | some q =>
    rw [hq] at hc
    cases hc
    exact va_recv hK.1 (hP.one hk he) hq (q0 := 0) rfl
/-- a method of an object of the own region -/
theorem q_callV (hx : p.tables.exec = Jvm.exec) (hb : c.code = cc) {nL : Nat} (hml : c.maxLocals = nL) (hts : ∀ w ∈ q_W, w.before args s = true) {own : String} (hown : s.vm.findClass own = some m.cls) (hK : q_K D dA s) (hP : q_P D dA kd r n z sz μ H) (hS : va_S A H0 H locs)
    {y : MethodName} {bytes : ByteArray} {maxL idx nA : Nat} {ret : Option FieldType} {rm : Room} {rv : Option Value} {ok : Prop} {Pi1 : Heap → Prop} {A1 : Nat → Prop} {As st0 st1 : List Value} {k ci : Nat}
    (hCV : q_CV own idx y bytes maxL ret nA) (hM : Met l y (q_wc y bytes maxL ret) rm (va_Pc (.ref (z + k) :: As) (q_B (q_P D dA kd r n z sz μ) D dA)) (q_Q rv ok Pi1 A1) 0 0 A1)
    (hk : k < n) (hkd : kd k = (0, ci)) (hc : (vwCl[ci]?).map (fun q => q.1) = some y.cls) (hrm : rm.cells = 0 ∧ rm.slots = 0 ∧ rm.frames + 1 ≤ R.frames ∧ 8 + (maxL + 11) + rm.locals ≤ R.locals) (hroom : cells ≤ R.cells ∧ slots ≤ R.slots) (hAs : As.length = nA) (hsize : ls.size = nL) (hst : st0 = As.reverse ++ .ref (z + k) :: rest) (hcat : (rest.map fun v => v.category).sum ≤ 8) (hst1 : rv.toList ++ rest = st1) (hA1 : ∀ q, A1 q → A q) (hdg : decode cc pc = .ok (.invokevirtual idx, 3))
    (kk : ∀ (H1 : Heap) (locs1 : List Loc), ok → Pi1 H1 → va_S A H0 H1 locs1 → (∀ q : Nat, q < H.size → ¬ A1 q → H1[q]? = H[q]?) → W p l e R s m args below meth c H1 locs1 cells slots Q (F0 m (pc + 3) ls st1)) : W p l e R s m args below meth c H locs cells slots Q (F0 m pc ls st0) := by
  subst hst
  subst hst1
  refine q_go (mc := 0) (ms := 0) (rest := rest) (rv := rv) (ok := ok) (Pi := Pi1) (A1 := A1) (va_runV (As := As) (C := y.cls) (Ts := q_W) ⟨hx, hb, hml, hown, hts⟩ hM (cwV nA hts hCV.1 rfl hrm.1 hrm.2.1 ⟨rfl, hCV.2⟩ hrm.2.2) ⟨q_blind, q_recv hK hP hk hkd hc, fun U hU hW => ⟨rfl, by rw [hU]; exact hP, hK.moved hW⟩⟩ rfl hAs hsize rfl (lv_room hcat) hdg hroom) hS hA1 kk
theorem q_callS (hx : p.tables.exec = Jvm.exec) (hb : c.code = cc) {nL : Nat} (hml : c.maxLocals = nL) (hts : ∀ w ∈ q_W, w.before args s = true) {own : String} (hown : s.vm.findClass own = some m.cls) (hK : q_K D dA s) (hP : q_P D dA kd r n z sz μ H) (hS : va_S A H0 H locs)
    {y : MethodName} {bytes : ByteArray} {maxL idx nA : Nat} {ret : Option FieldType} {rm : Room} {rv : Option Value} {ok : Prop} {Pi1 : Heap → Prop} {A1 : Nat → Prop} {As st0 st1 : List Value}
    (hCS : q_CS own idx y bytes maxL ret nA) (hM : Met l y (q_wc y bytes maxL ret) rm (va_Pc As (q_B (q_P D dA kd r n z sz μ) D dA)) (q_Q rv ok Pi1 A1) 0 0 A1)
    (hrm : rm.cells = 0 ∧ rm.slots = 0 ∧ rm.frames + 1 ≤ R.frames ∧ 8 + (maxL + 11) + rm.locals ≤ R.locals) (hroom : cells ≤ R.cells ∧ slots ≤ R.slots) (hAs : As.length = nA) (hsize : ls.size = nL) (hst : st0 = As.reverse ++ rest) (hcat : (rest.map fun v => v.category).sum ≤ 8) (hst1 : rv.toList ++ rest = st1) (hA1 : ∀ q, A1 q → A q) (hdg : decode cc pc = .ok (.invokestatic idx, 3))
    (kk : ∀ (H1 : Heap) (locs1 : List Loc), ok → Pi1 H1 → va_S A H0 H1 locs1 → (∀ q : Nat, q < H.size → ¬ A1 q → H1[q]? = H[q]?) → W p l e R s m args below meth c H1 locs1 cells slots Q (F0 m (pc + 3) ls st1)) : W p l e R s m args below meth c H locs cells slots Q (F0 m pc ls st0) := by
  subst hst
  subst hst1
  refine q_go (mc := 0) (ms := 0) (rest := rest) (rv := rv) (ok := ok) (Pi := Pi1) (A1 := A1) (va_runS (As := As) (Ts := q_W) ⟨hx, hb, hml, hown, hts⟩ hM ⟨callB_of nA hts hCS.1 rfl hrm.1 hrm.2.1 (hts _ hCS.2.2.2.1) (hts _ hCS.2.1) hCS.2.2.2.2 hrm.2.2, hts _ hCS.2.2.1⟩ ⟨q_blind, fun U hU hW => ⟨rfl, by rw [hU]; exact hP, hK.moved hW⟩⟩ rfl hAs hsize rfl (lv_room hcat) hdg hroom) hS hA1 kk
theorem q_callN (hx : p.tables.exec = Jvm.exec) (hb : c.code = cc) {nL : Nat} (hml : c.maxLocals = nL) (hts : ∀ w ∈ q_W, w.before args s = true) {own : String} (hown : s.vm.findClass own = some m.cls) (hK : q_K D dA s) (hP : q_P D dA kd r n z sz μ H) (hS : va_S A H0 H locs)
    {y : MethodName} {bytes : ByteArray} {maxL idx nA : Nat} {ret : Option FieldType} {host : String} {rm : Room} {rv : Option Value} {ok : Prop} {Pi1 : Heap → Prop} {A1 : Nat → Prop} {As st0 st1 : List Value}
    (hCN : q_CN own idx y host bytes maxL ret nA q_nest) (hM : Met l y (q_wc y bytes maxL ret) rm (va_Pc As (q_B (q_P D dA kd r n z sz μ) D dA)) (q_Q rv ok Pi1 A1) 0 0 A1)
    (hrm : rm.cells = 0 ∧ rm.slots = 0 ∧ rm.frames + 1 ≤ R.frames ∧ 8 + (maxL + 11) + rm.locals ≤ R.locals) (hroom : cells ≤ R.cells ∧ slots ≤ R.slots) (hAs : As.length = nA) (hsize : ls.size = nL) (hst : st0 = As.reverse ++ rest) (hcat : (rest.map fun v => v.category).sum ≤ 8) (hst1 : rv.toList ++ rest = st1) (hA1 : ∀ q, A1 q → A q) (hdg : decode cc pc = .ok (.invokestatic idx, 3))
    (kk : ∀ (H1 : Heap) (locs1 : List Loc), ok → Pi1 H1 → va_S A H0 H1 locs1 → (∀ q : Nat, q < H.size → ¬ A1 q → H1[q]? = H[q]?) → W p l e R s m args below meth c H1 locs1 cells slots Q (F0 m (pc + 3) ls st1)) : W p l e R s m args below meth c H locs cells slots Q (F0 m pc ls st0) := by
  subst hst
  subst hst1
  refine q_go (mc := 0) (ms := 0) (rest := rest) (rv := rv) (ok := ok) (Pi := Pi1) (A1 := A1) (va_runSN (As := As) (Ts := q_W) ⟨hx, hb, hml, hown, hts⟩ hM ⟨va_cnB nA hts hCN.1 rfl hrm.1 hrm.2.1 (hK.2 _ hCN.2.1) (hts _ hCN.2.2.2.1) hCN.2.2.2.2 hrm.2.2, hts _ hCN.2.2.1, trivial⟩ ⟨q_blind, fun U hU hW => ⟨rfl, by rw [hU]; exact hP, hK.moved hW⟩⟩ rfl hAs hsize rfl (lv_room hcat) hdg hroom) hS hA1 kk
/-! ends -/
variable {r' : Nat → Nat → Option Nat} {n' sz' : Nat}
theorem q_ret1 (hx : p.tables.exec = Jvm.exec) (hb : c.code = cc) (hr : meth.sig.returnType = some .int) (hlocks : meth.locks = false) (hP : q_P D dA kd r n z sz μ H) (hS : va_S A s.heap H locs) {x o : Int} (rx : q_R x) (h : some x = some o) (hdg : decode cc pc = .ok (.ireturn, 1)) : W p l e R s m args below meth c H locs cells slots (MQ below (q_Q (some (.int (q_I o))) (q_R o) (q_P D dA kd r n z sz μ) A) args s cells slots A) (F0 m pc ls [.int (q_I x)]) := by
  cases h
  exact W.iret (v := q_I x) hx hb hr (fun t ht hW => ⟨rfl, rx, by rw [ht]; exact hP, hS.F ht⟩) hS.2.2 hdg
theorem q_ret2 (hx : p.tables.exec = Jvm.exec) (hb : c.code = cc) (hr : meth.sig.returnType = some .int) (hlocks : meth.locks = false) (hP : q_P D dA kd r n z sz μ H) (hS : va_S A s.heap H locs) {x o : Int} {μ' : q_M} (rx : q_R x) (h : some (x, μ) = some (o, μ')) (hdg : decode cc pc = .ok (.ireturn, 1)) : W p l e R s m args below meth c H locs cells slots (MQ below (q_Q (some (.int (q_I o))) (q_R o) (q_P D dA kd r n z sz μ') A) args s cells slots A) (F0 m pc ls [.int (q_I x)]) := by
  cases h
  exact W.iret (v := q_I x) hx hb hr (fun t ht hW => ⟨rfl, rx, by rw [ht]; exact hP, hS.F ht⟩) hS.2.2 hdg
theorem q_retv (hx : p.tables.exec = Jvm.exec) (hb : c.code = cc) (hr : meth.sig.returnType = none) (hlocks : meth.locks = false) (hP : q_P D dA kd r n z sz μ H) (hS : va_S A s.heap H locs) {o : q_M} (h : some μ = some o) (hdg : decode cc pc = .ok (.return_, 1)) : W p l e R s m args below meth c H locs cells slots (MQ below (q_Q none True (q_P D dA kd r n z sz o) A) args s cells slots A) (F0 m pc ls []) := by
  cases h
  exact W.vret hx hb hr (fun t ht hW => ⟨rfl, trivial, by rw [ht]; exact hP, hS.F ht⟩) hS.2.2 hdg
theorem q_retl (hx : p.tables.exec = Jvm.exec) (hb : c.code = cc) (hr : meth.sig.returnType = some .long) (hlocks : meth.locks = false) (hP : q_P D dA kd r n z sz μ H) (hS : va_S A s.heap H locs) {x o : Int} (rx : q_S x) (h : some x = some o) (hdg : decode cc pc = .ok (.lreturn, 1)) : W p l e R s m args below meth c H locs cells slots (MQ below (q_Q (some (.long (q_J o))) (q_S o) (q_P D dA kd r n z sz μ) A) args s cells slots A) (F0 m pc ls [.long (q_J x)]) := by
  cases h
  exact W.lret (v := q_J x) hx hb hr (fun t ht hW => ⟨rfl, rx, by rw [ht]; exact hP, hS.F ht⟩) hS.2.2 hdg
theorem q_retz1 (hx : p.tables.exec = Jvm.exec) (hb : c.code = cc) (hr : meth.sig.returnType = some .boolean) (hlocks : meth.locks = false) (hP : q_P D dA kd r n z sz μ H) (hS : va_S A s.heap H locs) {x o : Int} (rx : x = 0 ∨ x = 1) (h : some x = some o) (hdg : decode cc pc = .ok (.ireturn, 1)) : W p l e R s m args below meth c H locs cells slots (MQ below (q_Q (some (.int (q_I o))) (q_R o) (q_P D dA kd r n z sz μ) A) args s cells slots A) (F0 m pc ls [.int (q_I x)]) := by
  cases h
  exact W.zret (v := q_I x) (ty := .boolean) hx hb hr (by rcases rx with rfl | rfl <;> decide) (fun t ht hW => ⟨rfl, by rcases rx with rfl | rfl; exact q_r0; exact q_r 1 rfl, by rw [ht]; exact hP, hS.F ht⟩) hS.2.2 hdg
theorem q_retz2 (hx : p.tables.exec = Jvm.exec) (hb : c.code = cc) (hr : meth.sig.returnType = some .boolean) (hlocks : meth.locks = false) (hP : q_P D dA kd r n z sz μ H) (hS : va_S A s.heap H locs) {x o : Int} {μ' : q_M} (rx : x = 0 ∨ x = 1) (h : some (x, μ) = some (o, μ')) (hdg : decode cc pc = .ok (.ireturn, 1)) : W p l e R s m args below meth c H locs cells slots (MQ below (q_Q (some (.int (q_I o))) (q_R o) (q_P D dA kd r n z sz μ') A) args s cells slots A) (F0 m pc ls [.int (q_I x)]) := by
  cases h
  exact W.zret (v := q_I x) (ty := .boolean) hx hb hr (by rcases rx with rfl | rfl <;> decide) (fun t ht hW => ⟨rfl, by rcases rx with rfl | rfl; exact q_r0; exact q_r 1 rfl, by rw [ht]; exact hP, hS.F ht⟩) hS.2.2 hdg
/-! Math -/
theorem q_mmax (hx : p.tables.exec = Jvm.exec) (hb : c.code = cc) {nL : Nat} (hml : c.maxLocals = nL) (hsize : ls.size = nL) (hts : ∀ w ∈ q_W, w.before args s = true) {own : String} (hown : s.vm.findClass own = some m.cls) {index : Nat} (hw : Cond.methodLink own index Lib.Math.max.name ∈ q_W ∧ Cond.static Lib.Math.max.name ∈ q_W ∧ Cond.initialized "java/lang/Math" ∈ q_W ∧ Cond.code Lib.Math.max.name Lib.Math.max.code 2 (some .int) ∈ q_W) (hroom : cells ≤ R.cells ∧ slots ≤ R.slots) (hfr : 1 ≤ R.frames) (hlo : 21 ≤ R.locals) (hcat : (rest.map fun v => v.category).sum ≤ 8) {x y : Int} (rx : q_R x) (ry : q_R y) (hdg : decode cc pc = .ok (.invokestatic index, 3)) {K : Int → Option α} (h : q_mx x y K = some out)
    (kk : ∀ t : Int, q_R t → K t = some out → W p l e R s m args below meth c H locs cells slots Q (F0 m (pc + 3) ls (.int (q_I t) :: rest))) : W p l e R s m args below meth c H locs cells slots Q (F0 m pc ls (.int (q_I y) :: .int (q_I x) :: rest)) := by
  refine va_mmax hx hb (hml.trans hsize.symm) hown (hts _ hw.1) (hts _ hw.2.1) (hts _ hw.2.2.1) (hts _ hw.2.2.2) hfr (by omega) hroom.1 hroom.2 hdg ?_
  have e : (if q_I x < q_I y then q_I y else q_I x) = q_I (if x < y then y else x) := by
    by_cases g : x < y
    · rw [if_pos g, if_pos ((q_ltI rx ry).mpr g)]
    · rw [if_neg g, if_neg (fun q => g ((q_ltI rx ry).mp q))]
  rw [e]
  exact kk _ (by split; exact ry; exact rx) h
theorem q_mmin (hx : p.tables.exec = Jvm.exec) (hb : c.code = cc) {nL : Nat} (hml : c.maxLocals = nL) (hsize : ls.size = nL) (hts : ∀ w ∈ q_W, w.before args s = true) {own : String} (hown : s.vm.findClass own = some m.cls) {index : Nat} (hw : Cond.methodLink own index Lib.Math.min.name ∈ q_W ∧ Cond.static Lib.Math.min.name ∈ q_W ∧ Cond.initialized "java/lang/Math" ∈ q_W ∧ Cond.code Lib.Math.min.name Lib.Math.min.code 2 (some .int) ∈ q_W) (hroom : cells ≤ R.cells ∧ slots ≤ R.slots) (hfr : 1 ≤ R.frames) (hlo : 21 ≤ R.locals) (hcat : (rest.map fun v => v.category).sum ≤ 8) {x y : Int} (rx : q_R x) (ry : q_R y) (hdg : decode cc pc = .ok (.invokestatic index, 3)) {K : Int → Option α} (h : q_mn x y K = some out)
    (kk : ∀ t : Int, q_R t → K t = some out → W p l e R s m args below meth c H locs cells slots Q (F0 m (pc + 3) ls (.int (q_I t) :: rest))) : W p l e R s m args below meth c H locs cells slots Q (F0 m pc ls (.int (q_I y) :: .int (q_I x) :: rest)) := by
  refine va_mmin hx hb (hml.trans hsize.symm) hown (hts _ hw.1) (hts _ hw.2.1) (hts _ hw.2.2.1) (hts _ hw.2.2.2) hfr (by omega) hroom.1 hroom.2 hdg ?_
  have e : (if q_I y < q_I x then q_I y else q_I x) = q_I (if y < x then y else x) := by
    by_cases g : y < x
    · rw [if_pos g, if_pos ((q_ltI ry rx).mpr g)]
    · rw [if_neg g, if_neg (fun q => g ((q_ltI ry rx).mp q))]
  rw [e]
  exact kk _ (by split; exact ry; exact rx) h
/-! switches -/
theorem q_tabIn (hx : p.tables.exec = Jvm.exec) (hb : c.code = cc) {dflt lo hi : Int} {offs : Array Int} {len : Nat} {x v : Int} (rx : q_R x) (g : x = v) {off : Int} {tgt : Nat} (hdg : decode cc pc = .ok (.tableswitch dflt lo hi offs, len)) (h1 : ¬ v < lo) (h2 : ¬ hi < v) (ho : offs[(v - lo).toNat]? = some off) (ht : (pc : Int) + off = (tgt : Int)) (k : W p l e R s m args below meth c H locs cells slots Q (F0 m tgt ls rest)) : W p l e R s m args below meth c H locs cells slots Q (F0 m pc ls (.int (q_I x) :: rest)) := by
  subst g
  exact lv_tableIn hx hb hdg (by rw [q_toI rx]; exact h1) (by rw [q_toI rx]; exact h2) (by rw [q_toI rx]; exact ho) ht k
theorem q_tabOut (hx : p.tables.exec = Jvm.exec) (hb : c.code = cc) {dflt lo hi : Int} {offs : Array Int} {len : Nat} {x : Int} (rx : q_R x) {tgt : Nat} (hdg : decode cc pc = .ok (.tableswitch dflt lo hi offs, len)) (h : x < lo ∨ hi < x) (ht : (pc : Int) + dflt = (tgt : Int)) (k : W p l e R s m args below meth c H locs cells slots Q (F0 m tgt ls rest)) : W p l e R s m args below meth c H locs cells slots Q (F0 m pc ls (.int (q_I x) :: rest)) :=
  lv_tableOut hx hb hdg (by rw [q_toI rx]; exact h) ht k
theorem q_look (hx : p.tables.exec = Jvm.exec) (hb : c.code = cc) {dflt : Int} {ps : Array (Int × Int)} {len : Nat} {x : Int} (rx : q_R x) {off : Int} {tgt : Nat} (hdg : decode cc pc = .ok (.lookupswitch dflt ps, len)) (hp : (ps.toList.zip (ps.toList.drop 1)).all (fun (a, next) => a.1 < next.1) = true) (ho : Op.lookupswitch.offset ps.toList dflt x = off) (ht : (pc : Int) + off = (tgt : Int)) (k : W p l e R s m args below meth c H locs cells slots Q (F0 m tgt ls rest)) : W p l e R s m args below meth c H locs cells slots Q (F0 m pc ls (.int (q_I x) :: rest)) :=
  lv_lookup hx hb hdg hp (by rw [q_toI rx]; exact ho) ht k
end QC
