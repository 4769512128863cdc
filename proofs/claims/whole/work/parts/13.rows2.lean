/-! numbers and branches (wb_, pf_: out of kit/laws/BITS) -/
theorem wb_tb (n : Nat) : (lN n).toBitVec = BitVec.ofNat 64 n := rfl
theorem wb_inj {a b : Int64} (h : a.toBitVec = b.toBitVec) : a = b := Int64.toBitVec_inj.mp h
theorem wb_c : ∀ k, k < 64 → ((nI k).toInt64 &&& 63) = lN k := by decide +kernel
theorem wb_sm : ∀ k, k < 64 → (BitVec.ofNat 64 k).smod 64 = BitVec.ofNat 64 k := by decide +kernel
theorem wb_shl (n : Nat) {k : Nat} (hk : k < 64) : lN n <<< ((nI k).toInt64 &&& 63) = lN (n * 2 ^ k) := by
  rw [wb_c k hk]
  apply wb_inj
  rw [Int64.toBitVec_shiftLeft, wb_tb, wb_tb, wb_tb, wb_sm k hk]
  apply BitVec.eq_of_toNat_eq
  rw [BitVec.shiftLeft_eq', BitVec.toNat_shiftLeft, BitVec.toNat_ofNat, BitVec.toNat_ofNat, BitVec.toNat_ofNat, Nat.mod_eq_of_lt (show k < 2 ^ 64 by omega), Nat.shiftLeft_eq, Nat.mul_mod, Nat.mod_mod, ← Nat.mul_mod]
theorem pf_lI {a : Nat} (h : a < 2 ^ 63) : (lN a).toInt = (a : Int) := lg_ofNat_toInt h
theorem pf_shr {a d : Nat} {D : Int64} (hD : (D.toBitVec.smod 64).toNat = d) (h : a < 2 ^ 62) : lN a >>> D = lN (a / 2 ^ d) := by
  have hd : a / 2 ^ d ≤ a := Nat.div_le_self _ _
  apply Int64.toInt_inj.mp
  have e : (lN a >>> D).toInt = (lN a).toInt >>> d := by
    rw [← hD]
    exact BitVec.toInt_sshiftRight ..
  rw [e, Int.shiftRight_eq_div_pow, pf_lI (by omega), pf_lI (by omega)]
  rfl
theorem q_ite {α : Type} {out : α} {P : Prop} [Decidable P] {A B : Option α} (h : (if P then A else B) = some out) : (P → A = some out) ∧ (¬ P → B = some out) := ⟨fun g => by rw [if_pos g] at h; exact h, fun g => by rw [if_neg g] at h; exact h⟩
section QN
variable {p : Program} {l : Launch} {e : Env} {R : Room} {s : State} {m : MethodId} {args : Array Value} {below : List Frame} {meth : Method} {c : Code} {H : Heap} {locs : List Loc} {cells slots : Nat} {Q : State → Prop}
variable {cc : ByteArray} {pc : Nat} {ls : Array Slot} {rest : List Value} {D : va_G} {dA : Nat → ClassId} {kd : Nat → Nat × Nat} {r : Nat → Nat → Option Nat} {n z sz : Nat} {μ : q_M} {A : Nat → Prop} {H0 : Heap} {α : Type} {out : α}
theorem q_iadd (hx : p.tables.exec = Jvm.exec) (hb : c.code = cc) {x y : Int} (hdg : decode cc pc = .ok (.iadd, 1)) {K : Int → Option α} (h : q_ck (x + y) K = some out)
    (kk : ∀ t : Int, q_R t → K t = some out → W p l e R s m args below meth c H locs cells slots Q (F0 m (pc + 1) ls (.int (q_I t) :: rest))) : W p l e R s m args below meth c H locs cells slots Q (F0 m pc ls (.int (q_I y) :: .int (q_I x) :: rest)) := by
  unfold q_ck at h
  refine lv_iadd hx hb hdg ?_
  rw [q_addI]
  obtain ⟨h1, h2⟩ := q_ite h
  by_cases g : -2147483648 ≤ x + y ∧ x + y < 2147483648
  · exact kk _ g (h1 g)
  · cases h2 g
theorem q_isub (hx : p.tables.exec = Jvm.exec) (hb : c.code = cc) {x y : Int} (hdg : decode cc pc = .ok (.isub, 1)) {K : Int → Option α} (h : q_ck (x - y) K = some out)
    (kk : ∀ t : Int, q_R t → K t = some out → W p l e R s m args below meth c H locs cells slots Q (F0 m (pc + 1) ls (.int (q_I t) :: rest))) : W p l e R s m args below meth c H locs cells slots Q (F0 m pc ls (.int (q_I y) :: .int (q_I x) :: rest)) := by
  unfold q_ck at h
  refine lv_isub hx hb hdg ?_
  rw [q_subI]
  obtain ⟨h1, h2⟩ := q_ite h
  by_cases g : -2147483648 ≤ x - y ∧ x - y < 2147483648
  · exact kk _ g (h1 g)
  · cases h2 g
theorem q_imul (hx : p.tables.exec = Jvm.exec) (hb : c.code = cc) {x y : Int} (hdg : decode cc pc = .ok (.imul, 1)) {K : Int → Option α} (h : q_ck (x * y) K = some out)
    (kk : ∀ t : Int, q_R t → K t = some out → W p l e R s m args below meth c H locs cells slots Q (F0 m (pc + 1) ls (.int (q_I t) :: rest))) : W p l e R s m args below meth c H locs cells slots Q (F0 m pc ls (.int (q_I y) :: .int (q_I x) :: rest)) := by
  unfold q_ck at h
  refine lv_imul hx hb hdg ?_
  rw [q_mulI]
  obtain ⟨h1, h2⟩ := q_ite h
  by_cases g : -2147483648 ≤ x * y ∧ x * y < 2147483648
  · exact kk _ g (h1 g)
  · cases h2 g
theorem q_ladd (hx : p.tables.exec = Jvm.exec) (hb : c.code = cc) {x y : Int} (hdg : decode cc pc = .ok (.ladd, 1)) {K : Int → Option α} (h : q_cl (x + y) K = some out)
    (kk : ∀ t : Int, q_S t → K t = some out → W p l e R s m args below meth c H locs cells slots Q (F0 m (pc + 1) ls (.long (q_J t) :: rest))) : W p l e R s m args below meth c H locs cells slots Q (F0 m pc ls (.long (q_J y) :: .long (q_J x) :: rest)) := by
  unfold q_cl at h
  refine lv_ladd hx hb hdg ?_
  rw [q_addJ]
  obtain ⟨h1, h2⟩ := q_ite h
  by_cases g : -9223372036854775808 ≤ x + y ∧ x + y < 9223372036854775808
  · exact kk _ g (h1 g)
  · cases h2 g
theorem q_lmul (hx : p.tables.exec = Jvm.exec) (hb : c.code = cc) {x y : Int} (hdg : decode cc pc = .ok (.lmul, 1)) {K : Int → Option α} (h : q_cl (x * y) K = some out)
    (kk : ∀ t : Int, q_S t → K t = some out → W p l e R s m args below meth c H locs cells slots Q (F0 m (pc + 1) ls (.long (q_J t) :: rest))) : W p l e R s m args below meth c H locs cells slots Q (F0 m pc ls (.long (q_J y) :: .long (q_J x) :: rest)) := by
  unfold q_cl at h
  refine lv_lmul hx hb hdg ?_
  rw [q_mulJ]
  obtain ⟨h1, h2⟩ := q_ite h
  by_cases g : -9223372036854775808 ≤ x * y ∧ x * y < 9223372036854775808
  · exact kk _ g (h1 g)
  · cases h2 g
theorem q_ineg (hx : p.tables.exec = Jvm.exec) (hb : c.code = cc) {x : Int} (hdg : decode cc pc = .ok (.ineg, 1)) {K : Int → Option α} (h : q_ck (-x) K = some out)
    (kk : ∀ t : Int, q_R t → K t = some out → W p l e R s m args below meth c H locs cells slots Q (F0 m (pc + 1) ls (.int (q_I t) :: rest))) : W p l e R s m args below meth c H locs cells slots Q (F0 m pc ls (.int (q_I x) :: rest)) := by
  unfold q_ck at h
  refine lv_ineg hx hb hdg ?_
  rw [q_negI]
  obtain ⟨h1, h2⟩ := q_ite h
  by_cases g : -2147483648 ≤ -x ∧ -x < 2147483648
  · exact kk _ g (h1 g)
  · cases h2 g
theorem q_lneg (hx : p.tables.exec = Jvm.exec) (hb : c.code = cc) {x : Int} (hdg : decode cc pc = .ok (.lneg, 1)) {K : Int → Option α} (h : q_cl (-x) K = some out)
    (kk : ∀ t : Int, q_S t → K t = some out → W p l e R s m args below meth c H locs cells slots Q (F0 m (pc + 1) ls (.long (q_J t) :: rest))) : W p l e R s m args below meth c H locs cells slots Q (F0 m pc ls (.long (q_J x) :: rest)) := by
  unfold q_cl at h
  refine lv_lneg hx hb hdg ?_
  rw [q_negJ]
  obtain ⟨h1, h2⟩ := q_ite h
  by_cases g : -9223372036854775808 ≤ -x ∧ -x < 9223372036854775808
  · exact kk _ g (h1 g)
  · cases h2 g
theorem q_iinc (hx : p.tables.exec = Jvm.exec) (hb : c.code = cc) {i nL k : Nat} {d x : Int} {lv : List (Nat × Value)} {lv' : Int → List (Nat × Value)} (hdg : decode cc pc = .ok (.iinc i d, 3)) (hh : lv_has ls nL lv) (hk : lv[k]? = some (i, .int (q_I x))) (hn : i < nL) (hl : ∀ t, (i, Value.int (q_I t)) :: lv.filter (fun q => !(q.1 == i) && !(q.1 + 1 == i && q.2.category == 2)) = lv' t) {K : Int → Option α} (h : q_ck (x + d) K = some out)
    (kk : ∀ (t : Int) (ls' : Array Slot), q_R t → lv_has ls' nL (lv' t) → K t = some out → W p l e R s m args below meth c H locs cells slots Q (F0 m (pc + 3) ls' rest)) : W p l e R s m args below meth c H locs cells slots Q (F0 m pc ls rest) := by
  unfold q_ck at h
  obtain ⟨h1, h2⟩ := q_ite h
  by_cases g : -2147483648 ≤ x + d ∧ x + d < 2147483648
  · exact lv_iinc (v := q_I (x + d)) hx hb hdg hh hk (q_addI x d) hn (hl _) (fun ls' g' => kk _ ls' g g' (h1 g))
  · cases h2 g
theorem q_idiv (hx : p.tables.exec = Jvm.exec) (hb : c.code = cc) {x y : Int} (rx : q_R x) (ry : q_R y) (hdg : decode cc pc = .ok (.idiv, 1)) {K : Int → Option α} (h : q_dv x y K = some out)
    (kk : ∀ t : Int, q_R t → K t = some out → W p l e R s m args below meth c H locs cells slots Q (F0 m (pc + 1) ls (.int (q_I t) :: rest))) : W p l e R s m args below meth c H locs cells slots Q (F0 m pc ls (.int (q_I y) :: .int (q_I x) :: rest)) := by
  unfold q_dv at h
  obtain ⟨h1, h2⟩ := q_ite h
  by_cases g : 0 ≤ x ∧ 0 < y
  · refine lv_idiv hx hb hdg (fun q => ?_) ?_
    · have := (q_eqI ry q_r0).mp (by rw [q, q_I0])
      omega
    · rw [q_divI rx ry g.1 g.2]
      have e1 : x / y ≤ x := Int.ediv_le_self _ g.1
      have e2 : 0 ≤ x / y := Int.ediv_nonneg g.1 (by omega)
      exact kk _ ⟨by omega, by have := rx.2; omega⟩ (h1 g)
  · cases h2 g
theorem q_irem (hx : p.tables.exec = Jvm.exec) (hb : c.code = cc) {x y : Int} (rx : q_R x) (ry : q_R y) (hdg : decode cc pc = .ok (.irem, 1)) {K : Int → Option α} (h : q_rm x y K = some out)
    (kk : ∀ t : Int, q_R t → K t = some out → W p l e R s m args below meth c H locs cells slots Q (F0 m (pc + 1) ls (.int (q_I t) :: rest))) : W p l e R s m args below meth c H locs cells slots Q (F0 m pc ls (.int (q_I y) :: .int (q_I x) :: rest)) := by
  unfold q_rm at h
  obtain ⟨h1, h2⟩ := q_ite h
  by_cases g : 0 ≤ x ∧ 0 < y
  · refine lv_irem hx hb hdg (fun q => ?_) ?_
    · have := (q_eqI ry q_r0).mp (by rw [q, q_I0])
      omega
    · rw [q_remI rx ry g.1 g.2]
      have e1 : x % y < y := Int.emod_lt_of_pos _ g.2
      have e2 : 0 ≤ x % y := Int.emod_nonneg _ (by omega)
      exact kk _ ⟨by omega, by have := ry.2; omega⟩ (h1 g)
  · cases h2 g
theorem q_iand (hx : p.tables.exec = Jvm.exec) (hb : c.code = cc) {x y : Int} (hdg : decode cc pc = .ok (.iand, 1)) {K : Int → Option α} (h : q_an x y K = some out)
    (kk : ∀ t : Int, q_R t → K t = some out → W p l e R s m args below meth c H locs cells slots Q (F0 m (pc + 1) ls (.int (q_I t) :: rest))) : W p l e R s m args below meth c H locs cells slots Q (F0 m pc ls (.int (q_I y) :: .int (q_I x) :: rest)) := by
  refine lv_iand hx hb hdg ?_
  rw [← q_asI (q_I x &&& q_I y)]
  exact kk _ (q_rI _) h
theorem q_ior (hx : p.tables.exec = Jvm.exec) (hb : c.code = cc) {x y : Int} (hdg : decode cc pc = .ok (.ior, 1)) {K : Int → Option α} (h : q_or x y K = some out)
    (kk : ∀ t : Int, q_R t → K t = some out → W p l e R s m args below meth c H locs cells slots Q (F0 m (pc + 1) ls (.int (q_I t) :: rest))) : W p l e R s m args below meth c H locs cells slots Q (F0 m pc ls (.int (q_I y) :: .int (q_I x) :: rest)) := by
  refine lv_ior hx hb hdg ?_
  rw [← q_asI (q_I x ||| q_I y)]
  exact kk _ (q_rI _) h
theorem q_ixor (hx : p.tables.exec = Jvm.exec) (hb : c.code = cc) {x y : Int} (hdg : decode cc pc = .ok (.ixor, 1)) {K : Int → Option α} (h : q_xo x y K = some out)
    (kk : ∀ t : Int, q_R t → K t = some out → W p l e R s m args below meth c H locs cells slots Q (F0 m (pc + 1) ls (.int (q_I t) :: rest))) : W p l e R s m args below meth c H locs cells slots Q (F0 m pc ls (.int (q_I y) :: .int (q_I x) :: rest)) := by
  refine lv_ixor hx hb hdg ?_
  rw [← q_asI (q_I x ^^^ q_I y)]
  exact kk _ (q_rI _) h
theorem q_ishl (hx : p.tables.exec = Jvm.exec) (hb : c.code = cc) {x y : Int} (hdg : decode cc pc = .ok (.ishl, 1)) {K : Int → Option α} (h : q_sl x y K = some out)
    (kk : ∀ t : Int, q_R t → K t = some out → W p l e R s m args below meth c H locs cells slots Q (F0 m (pc + 1) ls (.int (q_I t) :: rest))) : W p l e R s m args below meth c H locs cells slots Q (F0 m pc ls (.int (q_I y) :: .int (q_I x) :: rest)) := by
  refine lv_ishl hx hb hdg ?_
  rw [← q_asI (q_I x <<< (q_I y &&& 31))]
  exact kk _ (q_rI _) h
theorem q_i2l (hx : p.tables.exec = Jvm.exec) (hb : c.code = cc) {x : Int} (rx : q_R x) (hdg : decode cc pc = .ok (.i2l, 1))
    (kk : W p l e R s m args below meth c H locs cells slots Q (F0 m (pc + 1) ls (.long (q_J x) :: rest))) : W p l e R s m args below meth c H locs cells slots Q (F0 m pc ls (.int (q_I x) :: rest)) := lv_i2l hx hb hdg (q_wide rx) kk
theorem q_l2i (hx : p.tables.exec = Jvm.exec) (hb : c.code = cc) {x : Int} (hdg : decode cc pc = .ok (.l2i, 1)) {K : Int → Option α} (h : q_ck x K = some out)
    (kk : q_R x → K x = some out → W p l e R s m args below meth c H locs cells slots Q (F0 m (pc + 1) ls (.int (q_I x) :: rest))) : W p l e R s m args below meth c H locs cells slots Q (F0 m pc ls (.long (q_J x) :: rest)) := by
  unfold q_ck at h
  obtain ⟨h1, h2⟩ := q_ite h
  by_cases g : -2147483648 ≤ x ∧ x < 2147483648
  · exact lv_l2i hx hb hdg (q_thin g) (kk g (h1 g))
  · cases h2 g
theorem q_lcmp (hx : p.tables.exec = Jvm.exec) (hb : c.code = cc) {x y : Int} (rx : q_S x) (ry : q_S y) (hdg : decode cc pc = .ok (.lcmp, 1)) {K : Int → Option α} (h : q_lc x y K = some out)
    (kk : ∀ t : Int, q_R t → K t = some out → W p l e R s m args below meth c H locs cells slots Q (F0 m (pc + 1) ls (.int (q_I t) :: rest))) : W p l e R s m args below meth c H locs cells slots Q (F0 m pc ls (.long (q_J y) :: .long (q_J x) :: rest)) := by
  refine W.lcmp hx hb hdg ?_
  have e : lg_cmp (q_J x) (q_J y) = q_I (if y < x then 1 else if x = y then 0 else -1) := by
    unfold lg_cmp
    by_cases h1 : y < x
    · rw [if_pos ((q_ltJ ry rx).mpr h1), if_pos h1]
      rfl
    · rw [if_neg (fun q => h1 ((q_ltJ ry rx).mp q)), if_neg h1]
      by_cases h2 : x = y
      · rw [if_pos ((q_eqJ rx ry).mpr h2), if_pos h2]
        rfl
      · rw [if_neg (fun q => h2 ((q_eqJ rx ry).mp q)), if_neg h2]
        rfl
  rw [e]
  refine kk _ ?_ h
  split
  · exact q_r 1 rfl
  · split
    · exact q_r0
    · exact q_r (-1) rfl
theorem q_lshl (hx : p.tables.exec = Jvm.exec) (hb : c.code = cc) {x k : Int} (rk : q_R k) (hdg : decode cc pc = .ok (.lshl, 1)) {K : Int → Option α} (h : q_lsl x k K = some out)
    (kk : ∀ t : Int, q_S t → K t = some out → W p l e R s m args below meth c H locs cells slots Q (F0 m (pc + 1) ls (.long (q_J t) :: rest))) : W p l e R s m args below meth c H locs cells slots Q (F0 m pc ls (.int (q_I k) :: .long (q_J x) :: rest)) := by
  unfold q_lsl at h
  obtain ⟨h1, h2⟩ := q_ite h
  by_cases g : (0 ≤ x ∧ 0 ≤ k ∧ k < 63) ∧ -9223372036854775808 ≤ x * 2 ^ k.toNat ∧ x * 2 ^ k.toNat < 9223372036854775808
  · obtain ⟨⟨g0, g1, g2⟩, g3⟩ := g
    refine lv_lshl (v := q_J (x * 2 ^ k.toNat)) hx hb hdg ?_ (kk _ g3 (h1 ⟨⟨g0, g1, g2⟩, g3⟩))
    obtain ⟨a, rfl⟩ := Int.eq_ofNat_of_zero_le g0
    obtain ⟨b, rfl⟩ := Int.eq_ofNat_of_zero_le g1
    exact (wb_shl a (k := b) (by omega)).trans (by rw [Int.toNat_natCast]; rfl)
  · cases h2 g
theorem q_lshr (hx : p.tables.exec = Jvm.exec) (hb : c.code = cc) {x k : Int} (rk : q_R k) (hdg : decode cc pc = .ok (.lshr, 1)) {K : Int → Option α} (h : q_lsr x k K = some out)
    (kk : ∀ t : Int, q_S t → K t = some out → W p l e R s m args below meth c H locs cells slots Q (F0 m (pc + 1) ls (.long (q_J t) :: rest))) : W p l e R s m args below meth c H locs cells slots Q (F0 m pc ls (.int (q_I k) :: .long (q_J x) :: rest)) := by
  unfold q_lsr at h
  obtain ⟨h1, h2⟩ := q_ite h
  by_cases g : (0 ≤ x ∧ x < 4611686018427387904) ∧ 0 ≤ k ∧ k < 63
  · have hh := h1 g
    obtain ⟨⟨g0, g3⟩, g1, g2⟩ := g
    obtain ⟨a, rfl⟩ := Int.eq_ofNat_of_zero_le g0
    obtain ⟨b, rfl⟩ := Int.eq_ofNat_of_zero_le g1
    have hd : a / 2 ^ b ≤ a := Nat.div_le_self _ _
    have e : ((a : Int) / 2 ^ (b : Int).toNat) = ((a / 2 ^ b : Nat) : Int) := by rw [Int.toNat_natCast]; simp
    refine lv_lshr (v := q_J ((a : Int) / 2 ^ (b : Int).toNat)) hx hb hdg ?_ (kk _ ?_ hh)
    · rw [e]
      refine pf_shr (a := a) (d := b) ?_ (by omega)
      have : ((q_I (b : Int)).toInt64 &&& 63) = lN b := wb_c b (by omega)
      rw [this, wb_tb, wb_sm b (by omega), BitVec.toNat_ofNat, Nat.mod_eq_of_lt (by omega)]
    · have e2 : ((a : Int) / 2 ^ (b : Int).toNat) ≤ (a : Int) := by rw [e]; exact Int.ofNat_le.mpr hd
      have e3 : 0 ≤ ((a : Int) / 2 ^ (b : Int).toNat) := by rw [e]; exact Int.natCast_nonneg _
      exact ⟨by omega, by omega⟩
  · cases h2 g
end QN
section QBR
variable {p : Program} {l : Launch} {e : Env} {R : Room} {s : State} {m : MethodId} {args : Array Value} {below : List Frame} {meth : Method} {c : Code} {H : Heap} {locs : List Loc} {cells slots : Nat} {Q : State → Prop}
variable {cc : ByteArray} {pc : Nat} {ls : Array Slot} {rest : List Value} {D : va_G} {dA : Nat → ClassId} {kd : Nat → Nat × Nat} {r : Nat → Nat → Option Nat} {n z sz : Nat} {μ : q_M} {A : Nat → Prop} {H0 : Heap} {α : Type} {out : α}
theorem q_ceq (hx : p.tables.exec = Jvm.exec) (hb : c.code = cc) {x y : Int} (rx : q_R x) (ry : q_R y) {off : Int} {tgt : Nat} (hdg : decode cc pc = .ok (.if_icmp .eq off, 3)) (ht : (pc : Int) + off = (tgt : Int)) {A B : Option α} (h : (if x = y then A else B) = some out)
    (kt : x = y → A = some out → W p l e R s m args below meth c H locs cells slots Q (F0 m tgt ls rest)) (kf : ¬ x = y → B = some out → W p l e R s m args below meth c H locs cells slots Q (F0 m (pc + 3) ls rest)) : W p l e R s m args below meth c H locs cells slots Q (F0 m pc ls (.int (q_I y) :: .int (q_I x) :: rest)) :=
  lv_icmp_eq hx hb hdg ht (fun g => kt ((q_eqI rx ry).mp g) ((q_ite h).1 ((q_eqI rx ry).mp g))) (fun g => kf (fun q => g ((q_eqI rx ry).mpr q)) ((q_ite h).2 (fun q => g ((q_eqI rx ry).mpr q))))
theorem q_zeq (hx : p.tables.exec = Jvm.exec) (hb : c.code = cc) {x : Int} (rx : q_R x) {off : Int} {tgt : Nat} (hdg : decode cc pc = .ok (.ifCond .eq off, 3)) (ht : (pc : Int) + off = (tgt : Int)) {A B : Option α} (h : (if x = 0 then A else B) = some out)
    (kt : x = 0 → A = some out → W p l e R s m args below meth c H locs cells slots Q (F0 m tgt ls rest)) (kf : ¬ x = 0 → B = some out → W p l e R s m args below meth c H locs cells slots Q (F0 m (pc + 3) ls rest)) : W p l e R s m args below meth c H locs cells slots Q (F0 m pc ls (.int (q_I x) :: rest)) :=
  lv_if_eq hx hb hdg ht (fun g => kt ((q_eqI rx q_r0).mp g) ((q_ite h).1 ((q_eqI rx q_r0).mp g))) (fun g => kf (fun q => g ((q_eqI rx q_r0).mpr q)) ((q_ite h).2 (fun q => g ((q_eqI rx q_r0).mpr q))))
theorem q_clt (hx : p.tables.exec = Jvm.exec) (hb : c.code = cc) {x y : Int} (rx : q_R x) (ry : q_R y) {off : Int} {tgt : Nat} (hdg : decode cc pc = .ok (.if_icmp .lt off, 3)) (ht : (pc : Int) + off = (tgt : Int)) {A B : Option α} (h : (if x < y then A else B) = some out)
    (kt : x < y → A = some out → W p l e R s m args below meth c H locs cells slots Q (F0 m tgt ls rest)) (kf : ¬ x < y → B = some out → W p l e R s m args below meth c H locs cells slots Q (F0 m (pc + 3) ls rest)) : W p l e R s m args below meth c H locs cells slots Q (F0 m pc ls (.int (q_I y) :: .int (q_I x) :: rest)) :=
  lv_icmp_lt hx hb hdg ht (fun g => kt ((q_ltI rx ry).mp g) ((q_ite h).1 ((q_ltI rx ry).mp g))) (fun g => kf (fun q => g ((q_ltI rx ry).mpr q)) ((q_ite h).2 (fun q => g ((q_ltI rx ry).mpr q))))
theorem q_zlt (hx : p.tables.exec = Jvm.exec) (hb : c.code = cc) {x : Int} (rx : q_R x) {off : Int} {tgt : Nat} (hdg : decode cc pc = .ok (.ifCond .lt off, 3)) (ht : (pc : Int) + off = (tgt : Int)) {A B : Option α} (h : (if x < 0 then A else B) = some out)
    (kt : x < 0 → A = some out → W p l e R s m args below meth c H locs cells slots Q (F0 m tgt ls rest)) (kf : ¬ x < 0 → B = some out → W p l e R s m args below meth c H locs cells slots Q (F0 m (pc + 3) ls rest)) : W p l e R s m args below meth c H locs cells slots Q (F0 m pc ls (.int (q_I x) :: rest)) :=
  lv_if_lt hx hb hdg ht (fun g => kt ((q_ltI rx q_r0).mp g) ((q_ite h).1 ((q_ltI rx q_r0).mp g))) (fun g => kf (fun q => g ((q_ltI rx q_r0).mpr q)) ((q_ite h).2 (fun q => g ((q_ltI rx q_r0).mpr q))))
theorem q_cge (hx : p.tables.exec = Jvm.exec) (hb : c.code = cc) {x y : Int} (rx : q_R x) (ry : q_R y) {off : Int} {tgt : Nat} (hdg : decode cc pc = .ok (.if_icmp .ge off, 3)) (ht : (pc : Int) + off = (tgt : Int)) {A B : Option α} (h : (if y ≤ x then A else B) = some out)
    (kt : y ≤ x → A = some out → W p l e R s m args below meth c H locs cells slots Q (F0 m tgt ls rest)) (kf : ¬ y ≤ x → B = some out → W p l e R s m args below meth c H locs cells slots Q (F0 m (pc + 3) ls rest)) : W p l e R s m args below meth c H locs cells slots Q (F0 m pc ls (.int (q_I y) :: .int (q_I x) :: rest)) :=
  lv_icmp_ge hx hb hdg ht (fun g => kt ((q_leI ry rx).mp g) ((q_ite h).1 ((q_leI ry rx).mp g))) (fun g => kf (fun q => g ((q_leI ry rx).mpr q)) ((q_ite h).2 (fun q => g ((q_leI ry rx).mpr q))))
theorem q_zge (hx : p.tables.exec = Jvm.exec) (hb : c.code = cc) {x : Int} (rx : q_R x) {off : Int} {tgt : Nat} (hdg : decode cc pc = .ok (.ifCond .ge off, 3)) (ht : (pc : Int) + off = (tgt : Int)) {A B : Option α} (h : (if 0 ≤ x then A else B) = some out)
    (kt : 0 ≤ x → A = some out → W p l e R s m args below meth c H locs cells slots Q (F0 m tgt ls rest)) (kf : ¬ 0 ≤ x → B = some out → W p l e R s m args below meth c H locs cells slots Q (F0 m (pc + 3) ls rest)) : W p l e R s m args below meth c H locs cells slots Q (F0 m pc ls (.int (q_I x) :: rest)) :=
  lv_if_ge hx hb hdg ht (fun g => kt ((q_leI q_r0 rx).mp g) ((q_ite h).1 ((q_leI q_r0 rx).mp g))) (fun g => kf (fun q => g ((q_leI q_r0 rx).mpr q)) ((q_ite h).2 (fun q => g ((q_leI q_r0 rx).mpr q))))
theorem q_cgt (hx : p.tables.exec = Jvm.exec) (hb : c.code = cc) {x y : Int} (rx : q_R x) (ry : q_R y) {off : Int} {tgt : Nat} (hdg : decode cc pc = .ok (.if_icmp .gt off, 3)) (ht : (pc : Int) + off = (tgt : Int)) {A B : Option α} (h : (if y < x then A else B) = some out)
    (kt : y < x → A = some out → W p l e R s m args below meth c H locs cells slots Q (F0 m tgt ls rest)) (kf : ¬ y < x → B = some out → W p l e R s m args below meth c H locs cells slots Q (F0 m (pc + 3) ls rest)) : W p l e R s m args below meth c H locs cells slots Q (F0 m pc ls (.int (q_I y) :: .int (q_I x) :: rest)) :=
  lv_icmp_gt hx hb hdg ht (fun g => kt ((q_ltI ry rx).mp g) ((q_ite h).1 ((q_ltI ry rx).mp g))) (fun g => kf (fun q => g ((q_ltI ry rx).mpr q)) ((q_ite h).2 (fun q => g ((q_ltI ry rx).mpr q))))
theorem q_zgt (hx : p.tables.exec = Jvm.exec) (hb : c.code = cc) {x : Int} (rx : q_R x) {off : Int} {tgt : Nat} (hdg : decode cc pc = .ok (.ifCond .gt off, 3)) (ht : (pc : Int) + off = (tgt : Int)) {A B : Option α} (h : (if 0 < x then A else B) = some out)
    (kt : 0 < x → A = some out → W p l e R s m args below meth c H locs cells slots Q (F0 m tgt ls rest)) (kf : ¬ 0 < x → B = some out → W p l e R s m args below meth c H locs cells slots Q (F0 m (pc + 3) ls rest)) : W p l e R s m args below meth c H locs cells slots Q (F0 m pc ls (.int (q_I x) :: rest)) :=
  lv_if_gt hx hb hdg ht (fun g => kt ((q_ltI q_r0 rx).mp g) ((q_ite h).1 ((q_ltI q_r0 rx).mp g))) (fun g => kf (fun q => g ((q_ltI q_r0 rx).mpr q)) ((q_ite h).2 (fun q => g ((q_ltI q_r0 rx).mpr q))))
theorem q_cle (hx : p.tables.exec = Jvm.exec) (hb : c.code = cc) {x y : Int} (rx : q_R x) (ry : q_R y) {off : Int} {tgt : Nat} (hdg : decode cc pc = .ok (.if_icmp .le off, 3)) (ht : (pc : Int) + off = (tgt : Int)) {A B : Option α} (h : (if x ≤ y then A else B) = some out)
    (kt : x ≤ y → A = some out → W p l e R s m args below meth c H locs cells slots Q (F0 m tgt ls rest)) (kf : ¬ x ≤ y → B = some out → W p l e R s m args below meth c H locs cells slots Q (F0 m (pc + 3) ls rest)) : W p l e R s m args below meth c H locs cells slots Q (F0 m pc ls (.int (q_I y) :: .int (q_I x) :: rest)) :=
  lv_icmp_le hx hb hdg ht (fun g => kt ((q_leI rx ry).mp g) ((q_ite h).1 ((q_leI rx ry).mp g))) (fun g => kf (fun q => g ((q_leI rx ry).mpr q)) ((q_ite h).2 (fun q => g ((q_leI rx ry).mpr q))))
theorem q_zle (hx : p.tables.exec = Jvm.exec) (hb : c.code = cc) {x : Int} (rx : q_R x) {off : Int} {tgt : Nat} (hdg : decode cc pc = .ok (.ifCond .le off, 3)) (ht : (pc : Int) + off = (tgt : Int)) {A B : Option α} (h : (if x ≤ 0 then A else B) = some out)
    (kt : x ≤ 0 → A = some out → W p l e R s m args below meth c H locs cells slots Q (F0 m tgt ls rest)) (kf : ¬ x ≤ 0 → B = some out → W p l e R s m args below meth c H locs cells slots Q (F0 m (pc + 3) ls rest)) : W p l e R s m args below meth c H locs cells slots Q (F0 m pc ls (.int (q_I x) :: rest)) :=
  lv_if_le hx hb hdg ht (fun g => kt ((q_leI rx q_r0).mp g) ((q_ite h).1 ((q_leI rx q_r0).mp g))) (fun g => kf (fun q => g ((q_leI rx q_r0).mpr q)) ((q_ite h).2 (fun q => g ((q_leI rx q_r0).mpr q))))
theorem q_cne (hx : p.tables.exec = Jvm.exec) (hb : c.code = cc) {x y : Int} (rx : q_R x) (ry : q_R y) {off : Int} {tgt : Nat} (hdg : decode cc pc = .ok (.if_icmp .ne off, 3)) (ht : (pc : Int) + off = (tgt : Int)) {A B : Option α} (h : (if x = y then A else B) = some out)
    (kf : x = y → A = some out → W p l e R s m args below meth c H locs cells slots Q (F0 m (pc + 3) ls rest)) (kt : ¬ x = y → B = some out → W p l e R s m args below meth c H locs cells slots Q (F0 m tgt ls rest)) : W p l e R s m args below meth c H locs cells slots Q (F0 m pc ls (.int (q_I y) :: .int (q_I x) :: rest)) :=
  lv_icmp_ne hx hb hdg ht (fun g => kt (fun q => g ((q_eqI rx ry).mpr q)) ((q_ite h).2 (fun q => g ((q_eqI rx ry).mpr q)))) (fun g => kf ((q_eqI rx ry).mp (g)) ((q_ite h).1 ((q_eqI rx ry).mp (g))))
theorem q_zne (hx : p.tables.exec = Jvm.exec) (hb : c.code = cc) {x : Int} (rx : q_R x) {off : Int} {tgt : Nat} (hdg : decode cc pc = .ok (.ifCond .ne off, 3)) (ht : (pc : Int) + off = (tgt : Int)) {A B : Option α} (h : (if x = 0 then A else B) = some out)
    (kf : x = 0 → A = some out → W p l e R s m args below meth c H locs cells slots Q (F0 m (pc + 3) ls rest)) (kt : ¬ x = 0 → B = some out → W p l e R s m args below meth c H locs cells slots Q (F0 m tgt ls rest)) : W p l e R s m args below meth c H locs cells slots Q (F0 m pc ls (.int (q_I x) :: rest)) :=
  lv_if_ne hx hb hdg ht (fun g => kt (fun q => g ((q_eqI rx q_r0).mpr q)) ((q_ite h).2 (fun q => g ((q_eqI rx q_r0).mpr q)))) (fun g => kf ((q_eqI rx q_r0).mp (g)) ((q_ite h).1 ((q_eqI rx q_r0).mp (g))))
end QBR
