/-! Pure words: a memory of numbers, and the steps of the walked methods as partial functions over it. -/
abbrev q_M : Type := Nat → Nat → Int
def q_I (x : Int) : Int32 := Int32.ofInt x
def q_J (x : Int) : Int64 := Int64.ofInt x
def q_R (x : Int) : Prop := -2147483648 ≤ x ∧ x < 2147483648
def q_S (x : Int) : Prop := -9223372036854775808 ≤ x ∧ x < 9223372036854775808
def q_up (μ : q_M) (k j : Nat) (v : Int) : q_M := fun k' j' => if k' = k ∧ j' = j then v else μ k' j'
def q_fill (μ : q_M) (k n : Nat) (v : Int) : q_M := fun k' j => if k' = k ∧ j < n then v else μ k' j
def q_copy (μ : q_M) (a b n : Nat) : q_M := fun k j => if k = b ∧ j < n then μ a j else μ k j
def q_zero (μ : q_M) (k : Nat) : q_M := fun k' j => if k' = k then 0 else μ k' j
def q_ck {α : Type} (z : Int) (K : Int → Option α) : Option α := if -2147483648 ≤ z ∧ z < 2147483648 then K z else none
def q_cl {α : Type} (z : Int) (K : Int → Option α) : Option α := if -9223372036854775808 ≤ z ∧ z < 9223372036854775808 then K z else none
def q_ld {α : Type} (μ : q_M) (k n : Nat) (i : Int) (K : Int → Option α) : Option α := if 0 ≤ i ∧ i < n then K (μ k i.toNat) else none
def q_st {α : Type} (μ : q_M) (k n : Nat) (i v : Int) (K : q_M → Option α) : Option α := if 0 ≤ i ∧ i < n then K (q_up μ k i.toNat v) else none
def q_stc {α : Type} (μ : q_M) (k n : Nat) (i v : Int) (K : q_M → Option α) : Option α := if (0 ≤ i ∧ i < n) ∧ 0 ≤ v ∧ v < 65536 then K (q_up μ k i.toNat v) else none
def q_stz {α : Type} (μ : q_M) (k n : Nat) (i v : Int) (K : q_M → Option α) : Option α := if (0 ≤ i ∧ i < n) ∧ (v = 0 ∨ v = 1) then K (q_up μ k i.toNat v) else none
def q_fl {α : Type} (μ : q_M) (k j : Nat) (K : Int → Option α) : Option α := K (μ k j)
def q_fs {α : Type} (μ : q_M) (k j : Nat) (v : Int) (K : q_M → Option α) : Option α := K (q_up μ k j v)
def q_fz {α : Type} (μ : q_M) (k j : Nat) (v : Int) (K : q_M → Option α) : Option α := if v = 0 ∨ v = 1 then K (q_up μ k j v) else none
def q_b {α β : Type} (m : Option β) (K : β → Option α) : Option α := match m with
  | some b => K b
  | none => none
def q_b2 {α : Type} (m : Option (Int × q_M)) (K : Int → q_M → Option α) : Option α := match m with
  | some v => K v.1 v.2
  | none => none
def q_jn {α κ : Type} (K : κ) (B : κ → Option α) : Option α := B K
def q_fi {α : Type} (μ : q_M) (k n : Nat) (v : Int) (K : q_M → Option α) : Option α := K (q_fill μ k n v)
def q_cp {α : Type} (μ : q_M) (a b n : Nat) (K : q_M → Option α) : Option α := K (q_copy μ a b n)
def q_al {α : Type} (μ : q_M) (k : Nat) (K : q_M → Option α) : Option α := K (q_zero μ k)
def q_dv {α : Type} (x y : Int) (K : Int → Option α) : Option α := if 0 ≤ x ∧ 0 < y then K (x / y) else none
def q_rm {α : Type} (x y : Int) (K : Int → Option α) : Option α := if 0 ≤ x ∧ 0 < y then K (x % y) else none
def q_mx {α : Type} (x y : Int) (K : Int → Option α) : Option α := K (if x < y then y else x)
def q_mn {α : Type} (x y : Int) (K : Int → Option α) : Option α := K (if y < x then y else x)
def q_lc {α : Type} (x y : Int) (K : Int → Option α) : Option α := K (if y < x then 1 else if x = y then 0 else -1)
def q_an {α : Type} (x y : Int) (K : Int → Option α) : Option α := K (q_I x &&& q_I y).toInt
def q_or {α : Type} (x y : Int) (K : Int → Option α) : Option α := K (q_I x ||| q_I y).toInt
def q_xo {α : Type} (x y : Int) (K : Int → Option α) : Option α := K (q_I x ^^^ q_I y).toInt
def q_sl {α : Type} (x y : Int) (K : Int → Option α) : Option α := K (q_I x <<< (q_I y &&& 31)).toInt
def q_lsl {α : Type} (x k : Int) (K : Int → Option α) : Option α := if (0 ≤ x ∧ 0 ≤ k ∧ k < 63) ∧ -9223372036854775808 ≤ x * 2 ^ k.toNat ∧ x * 2 ^ k.toNat < 9223372036854775808 then K (x * 2 ^ k.toNat) else none
def q_lsr {α : Type} (x k : Int) (K : Int → Option α) : Option α := if (0 ≤ x ∧ x < 4611686018427387904) ∧ 0 ≤ k ∧ k < 63 then K (x / 2 ^ k.toNat) else none
def q_ao {α : Type} (i : Int) (t0 t1 : Nat) (K : Nat → Option α) : Option α := if i = 0 then K t0 else if i = 1 then K t1 else none
def q_rz {α : Type} (v : Int) (m : Option α) : Option α := if v = 0 ∨ v = 1 then m else none
/-! numbers -/
theorem q_r (x : Int) (h : (decide (-2147483648 ≤ x) && decide (x < 2147483648)) = true) : q_R x := by
  simp only [Bool.and_eq_true, decide_eq_true_eq] at h
  exact h
theorem q_s (x : Int) (h : (decide (-9223372036854775808 ≤ x) && decide (x < 9223372036854775808)) = true) : q_S x := by
  simp only [Bool.and_eq_true, decide_eq_true_eq] at h
  exact h
theorem q_rs {x : Int} (h : q_R x) : q_S x := ⟨by have := h.1; omega, by have := h.2; omega⟩
theorem q_toI {x : Int} (h : q_R x) : (q_I x).toInt = x := by
  have h1 := h.1
  have h2 := h.2
  show (Int32.ofInt x).toInt = x
  rw [Int32.toInt_ofInt]; show x.bmod 4294967296 = x
  exact Int.bmod_eq_of_le (by omega) (by omega)
theorem q_toJ {x : Int} (h : q_S x) : (q_J x).toInt = x := by
  have h1 := h.1
  have h2 := h.2
  show (Int64.ofInt x).toInt = x
  rw [Int64.toInt_ofInt]; show x.bmod 18446744073709551616 = x
  exact Int.bmod_eq_of_le (by omega) (by omega)
theorem q_asI (x : Int32) : q_I x.toInt = x := Int32.ofInt_toInt x
theorem q_rI (x : Int32) : q_R x.toInt := ⟨by have := Int32.le_toInt x; omega, by have := Int32.toInt_lt x; omega⟩
theorem q_addI (x y : Int) : q_I x + q_I y = q_I (x + y) := (Int32.ofInt_add x y).symm
theorem q_subI (x y : Int) : q_I x - q_I y = q_I (x - y) := (Int32.ofInt_sub x y).symm
theorem q_mulI (x y : Int) : q_I x * q_I y = q_I (x * y) := (Int32.ofInt_mul x y).symm
theorem q_negI (x : Int) : -q_I x = q_I (-x) := (Int32.ofInt_neg x).symm
theorem q_addJ (x y : Int) : q_J x + q_J y = q_J (x + y) := (Int64.ofInt_add x y).symm
theorem q_mulJ (x y : Int) : q_J x * q_J y = q_J (x * y) := (Int64.ofInt_mul x y).symm
theorem q_negJ (x : Int) : -q_J x = q_J (-x) := (Int64.ofInt_neg x).symm
theorem q_ltI {x y : Int} (hx : q_R x) (hy : q_R y) : q_I x < q_I y ↔ x < y := by rw [Int32.lt_iff_toInt_lt, q_toI hx, q_toI hy]
theorem q_leI {x y : Int} (hx : q_R x) (hy : q_R y) : q_I x ≤ q_I y ↔ x ≤ y := by rw [Int32.le_iff_toInt_le, q_toI hx, q_toI hy]
theorem q_eqI {x y : Int} (hx : q_R x) (hy : q_R y) : q_I x = q_I y ↔ x = y := by rw [← Int32.toInt_inj, q_toI hx, q_toI hy]
theorem q_ltJ {x y : Int} (hx : q_S x) (hy : q_S y) : q_J x < q_J y ↔ x < y := by rw [Int64.lt_iff_toInt_lt, q_toJ hx, q_toJ hy]
theorem q_eqJ {x y : Int} (hx : q_S x) (hy : q_S y) : q_J x = q_J y ↔ x = y := by rw [← Int64.toInt_inj, q_toJ hx, q_toJ hy]
theorem q_I0 : q_I 0 = 0 := rfl
theorem q_r0 : q_R 0 := q_r 0 rfl
theorem q_cla {i : Int} (h : q_R i) : (q_I i).toNatClampNeg = i.toNat := by
  show (q_I i).toInt.toNat = i.toNat
  rw [q_toI h]
theorem q_in {i : Int} {n : Nat} (h : q_R i) (h0 : 0 ≤ i) (h1 : i < n) : vp_in (q_I i) n := by
  intro hh
  rcases hh with hh | hh
  · rw [← q_I0, q_ltI h q_r0] at hh
    omega
  · rw [q_cla h] at hh
    omega
theorem q_wide {x : Int} (h : q_R x) : (q_I x).toInt64 = q_J x := by
  apply Int64.toInt_inj.mp
  rw [q_toJ (q_rs h), Int32.toInt_toInt64, q_toI h]
theorem q_thin {x : Int} (h : q_R x) : (q_J x).toInt32 = q_I x := by
  apply Int32.toInt_inj.mp
  rw [Int64.toInt_toInt32, q_toJ (q_rs h), q_toI h]
  have h1 := h.1
  have h2 := h.2
  exact Int.bmod_eq_of_le (by omega) (by omega)
theorem q_divI {x y : Int} (hx : q_R x) (hy : q_R y) (h0 : 0 ≤ x) (h1 : 0 < y) : q_I x / q_I y = q_I (x / y) := by
  obtain ⟨a, rfl⟩ := Int.eq_ofNat_of_zero_le h0
  obtain ⟨b, rfl⟩ := Int.eq_ofNat_of_zero_le (Int.le_of_lt h1)
  have ha := hx.2
  have hb := hy.2
  exact pk_div (a := a) (d := b) (by omega) (by omega) (by omega)
theorem q_remI {x y : Int} (hx : q_R x) (hy : q_R y) (h0 : 0 ≤ x) (h1 : 0 < y) : q_I x - q_I x / q_I y * q_I y = q_I (x % y) := by
  obtain ⟨a, rfl⟩ := Int.eq_ofNat_of_zero_le h0
  obtain ⟨b, rfl⟩ := Int.eq_ofNat_of_zero_le (Int.le_of_lt h1)
  have ha := hx.2
  have hb := hy.2
  exact pk_rem (a := a) (d := b) (by omega) (by omega) (by omega)
/-! words: one list for all methods -/
def q_W : List Cond := lw_tbl.filter goodWord
def q_wc (y : MethodName) (bytes : ByteArray) (maxL : Nat) (ret : Option FieldType) : List Cond := Cond.code y bytes maxL ret :: q_W
theorem q_inT {w : Cond} (i : Nat) (h : tables_1[i]? = some w) (hg : goodWord w = true) : w ∈ q_W := List.mem_filter.mpr ⟨List.mem_append_right _ (List.mem_of_getElem? h), hg⟩
theorem q_inS {w : Cond} (i : Nat) (h : (k2_sels lw_privs)[i]? = some w) (hg : goodWord w = true) : w ∈ q_W := List.mem_filter.mpr ⟨List.mem_append_left _ (List.mem_of_getElem? h), hg⟩
theorem q_WW : GoodIn q_W q_W := fun _ hw => ⟨hw, good_of_word (List.mem_filter.mp hw).2⟩
def q_CV (own : String) (idx : Nat) (y : MethodName) (bytes : ByteArray) (maxL : Nat) (ret : Option FieldType) (n : Nat) : Prop := GoodIn q_W (wsV own idx y.cls y (q_wc y bytes maxL ret)) ∧ y.cls ≠ "java/lang/invoke/MethodHandle" ∧ y.cls ≠ "java/lang/invoke/VarHandle" ∧ (parseMethodDescriptor y.desc).map (fun d => d.parameters.length) = some n
theorem q_good {w : Cond} (h : w ∈ q_W) : w ∈ q_W ∧ ((w.onTables && w.keeps) = true ∨ ∃ ty, w = .arrayClass ty) := q_WW w h
theorem q_gcode {y : MethodName} {bytes : ByteArray} {maxL : Nat} {ret : Option FieldType} (h5 : Cond.code y bytes maxL ret ∈ q_W) : GoodIn q_W (q_wc y bytes maxL ret) := by
  intro w hw
  rcases List.mem_cons.mp hw with rfl | hw
  · exact q_good h5
  · exact q_good hw
theorem q_mkV {own : String} {idx : Nat} {y : MethodName} {bytes : ByteArray} {maxL : Nat} {ret : Option FieldType} {n : Nat} (h1 : Cond.methodLink own idx y ∈ q_W) (h2 : Cond.instanceMethod y ∈ q_W) (h3 : Cond.selects y.cls y y ∈ q_W) (h4 : Cond.initialized y.cls ∈ q_W) (h5 : Cond.code y bytes maxL ret ∈ q_W) (h6 : y.cls ≠ "java/lang/invoke/MethodHandle" ∧ y.cls ≠ "java/lang/invoke/VarHandle" ∧ (parseMethodDescriptor y.desc).map (fun d => d.parameters.length) = some n) : q_CV own idx y bytes maxL ret n := by
  refine ⟨fun w hw => ?_, h6⟩
  rcases List.mem_append.mp hw with hw | hw
  · simp only [List.mem_cons, List.not_mem_nil, or_false] at hw
    rcases hw with rfl | rfl | rfl | rfl
    · exact q_good h1
    · exact q_good h2
    · exact q_good h3
    · exact q_good h4
  · exact q_gcode h5 w hw
/-- a static method of the own class -/
def q_CS (own : String) (idx : Nat) (y : MethodName) (bytes : ByteArray) (maxL : Nat) (ret : Option FieldType) (n : Nat) : Prop := GoodIn q_W (q_wc y bytes maxL ret) ∧ Cond.methodLink own idx y ∈ q_W ∧ Cond.static y ∈ q_W ∧ Cond.initialized y.cls ∈ q_W ∧ y.cls ≠ "java/lang/invoke/MethodHandle" ∧ y.cls ≠ "java/lang/invoke/VarHandle" ∧ (parseMethodDescriptor y.desc).map (fun d => d.parameters.length) = some n
/-- a private static method of a nest mate -/
def q_CN (own : String) (idx : Nat) (y : MethodName) (host : String) (bytes : ByteArray) (maxL : Nat) (ret : Option FieldType) (n : Nat) (nest : List (String × Nat × MethodName × String)) : Prop := GoodIn q_W (q_wc y bytes maxL ret) ∧ (own, idx, y, host) ∈ nest ∧ Cond.static y ∈ q_W ∧ Cond.initialized y.cls ∈ q_W ∧ y.cls ≠ "java/lang/invoke/MethodHandle" ∧ y.cls ≠ "java/lang/invoke/VarHandle" ∧ (parseMethodDescriptor y.desc).map (fun d => d.parameters.length) = some n
